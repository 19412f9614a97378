/-! ACTS: dawn -/
/-- a day goes by: the crates on the quay have seen one dawn more -/
def dn (R Y : Nat → Nat) : Nat → Nat := fun k => if 45 ≤ k ∧ k < 45 + R 5 ∧ Y (k - 45) = 3 then Y k + 1 else if k = 145 then Y 145 + 1 else Y k
/-- the crate c, the i-th on the quay, is had -/
def hv (Y : Nat → Nat) (i c : Nat) : Nat → Nat := fun k => if k = 147 + Y 145 then c + 1 else if k = c then 4 else if 129 + i ≤ k ∧ k + 1 < 129 + Y 144 then Y (k + 1) else if k = 144 then Y 144 - 1 else Y k
section
variable {n p b d : Nat} {R Y Y' Z : Nat → Nat} {r : Rr} {g g' : Gi} {j : Gl} {K : Int32 → Rr → Gi → Gl → Prop}
theorem dn_o {k : Nat} (h : ¬ (45 ≤ k ∧ k < 45 + R 5)) (h2 : k ≠ 145) : dn R Y k = Y k := by
  unfold dn
  rw [if_neg (fun e => h ⟨e.1, e.2.1⟩), if_neg h2]
theorem dn_145 (h5 : R 5 ≤ 15) : dn R Y 145 = Y 145 + 1 := by
  unfold dn
  rw [if_neg (by omega), if_pos rfl]
theorem dn_45 {c : Nat} (hc : c < R 5) (h5 : R 5 ≤ 15) : dn R Y (45 + c) = if Y c = 3 then Y (45 + c) + 1 else Y (45 + c) := by
  unfold dn
  rw [show 45 + c - 45 = c by omega]
  by_cases h : Y c = 3
  · rw [if_pos ⟨by omega, by omega, h⟩, if_pos h]
  · rw [if_neg (fun e => h e.2.2), if_neg (by omega), if_neg h]
theorem YO.dy (h : YO n R Y) (h5 : R 5 ≤ 15) (hd : Y 145 ≤ 98) (hS : ∀ c, c < R 5 → R (22 + 5 * c) < 3) : YO n R (dn R Y) := by
  obtain ⟨y1, y2, y3, y4, y5, y6, y7, y8, y9, y10, y11, y12⟩ := h
  have o : ∀ k, ¬ (45 ≤ k ∧ k < 60) → k ≠ 145 → dn R Y k = Y k := fun k h1 h2 => dn_o (by omega) h2
  refine ⟨fun k hk => ?_, fun k i i' hk hi hi' e => ?_, fun k i hk hi hi5 => ?_, fun c hc h3 => ?_, ⟨?_, fun i hi => ?_⟩, fun i i' hi hi' e => ?_, fun c hc h3 => ?_, fun c hc => ?_, fun c hc => ?_, ⟨?_, fun q hq => ?_⟩, fun q q' hq hq' e1 e2 => ?_, ?_, fun c hc h3 => ?_⟩
  · have h1 := y1 k hk
    rw [o (120 + k) (by omega) (by omega)]
    refine ⟨h1.1, h1.2.1, fun i hi => ?_⟩
    have h2 := h1.2.2 i hi
    rw [o (75 + 5 * k + i) (by omega) (by omega), o (Y (75 + 5 * k + i) - 1) (by omega) (by omega)]
    exact h2
  · have h1 := y1 k hk
    rw [o (120 + k) (by omega) (by omega)] at hi hi'
    rw [o (75 + 5 * k + i) (by omega) (by omega), o (75 + 5 * k + i') (by omega) (by omega)] at e
    exact y2 k i i' hk hi hi' e
  · rw [o (120 + k) (by omega) (by omega)] at hi
    rw [o (75 + 5 * k + i) (by omega) (by omega)]
    exact y3 k i hk hi hi5
  · rw [o c (by omega) (by omega)] at h3 ⊢
    obtain ⟨i, hi, e⟩ := y4 c hc h3
    have hk2 : 3 * R (22 + 5 * c) + Y c < 9 := by have := hS c hc; omega
    have h1 := (y1 _ hk2).1
    refine ⟨i, ?_, ?_⟩
    · rw [o (120 + _) (by omega) (by omega)]; exact hi
    · rw [o (75 + _ + i) (by omega) (by omega)]; exact e
  · rw [o 144 (by omega) (by omega)]; exact y5.1
  · rw [o 144 (by omega) (by omega)] at hi
    have h1 := y5.2 i hi
    rw [o (129 + i) (by omega) (by omega), o _ (by omega) (by omega)]
    exact h1
  · rw [o 144 (by omega) (by omega)] at hi hi'
    rw [o (129 + i) (by omega) (by omega), o (129 + i') (by omega) (by omega)] at e
    exact y6 i i' hi hi' e
  · rw [o c (by omega) (by omega)] at h3
    obtain ⟨i, hi, e⟩ := y7 c hc h3
    exact ⟨i, by rw [o 144 (by omega) (by omega)]; exact hi, by rw [o (129 + i) (by omega) (by omega)]; exact e⟩
  · have h8 := y8 c hc
    rw [o c (by omega) (by omega), o (15 + c) (by omega) (by omega), o (30 + c) (by omega) (by omega), dn_145 h5, dn_45 hc h5]
    refine ⟨h8.1, h8.2.1, h8.2.2.1, ?_⟩
    have := h8.2.2.2
    split <;> omega
  · rw [o (60 + c) (by omega) (by omega)]; exact y9 c hc
  · rw [dn_145 h5]; omega
  · have h1 := y10.2 q hq
    rw [o (147 + q) (by omega) (by omega), dn_145 h5, o (Y (147 + q) - 1) (by omega) (by omega)]
    exact ⟨h1.1, fun h2 => ⟨by have := (h1.2 h2).1; omega, (h1.2 h2).2⟩⟩
  · rw [o (147 + q) (by omega) (by omega)] at e1 e2
    rw [o (147 + q') (by omega) (by omega)] at e2
    exact y11 q q' hq hq' e1 e2
  · rw [o 146 (by omega) (by omega)]; exact y12.1
  · rw [o c (by omega) (by omega)] at h3
    rw [dn_45 hc h5, if_neg (by omega)]
    exact y12.2 c hc h3
/-- one of the quay is had, on the day D -/
theorem YO.hav {i c D : Nat} (h : YO n R Y) (h5 : R 5 ≤ 15) (hD : Y 145 = D + 1) (hi : i < Y 144) (hc : Y (129 + i) = c)
    (eh : Y' (147 + D) = c + 1) (ec : Y' c = 4) (es : ∀ m, i ≤ m → m + 1 < Y 144 → Y' (129 + m) = Y (129 + (m + 1))) (eq : Y' 144 = Y 144 - 1) (ew : Y' (45 + c) ≤ Y 145)
    (o : ∀ k, k ≠ 147 + D → k ≠ c → ¬ (129 + i ≤ k ∧ k < 144) → k ≠ 144 → k ≠ 45 + c → Y' k = Y k) (hz : Y (147 + D) = 0) (hS : ∀ c, c < R 5 → R (22 + 5 * c) < 3) : YO n R Y' := by
  obtain ⟨y1, y2, y3, y4, y5, y6, y7, y8, y9, y10, y11, y12⟩ := h
  have hci := y5.2 i hi
  rw [hc] at hci
  have hq15 := y5.1
  have h145 := y10.1
  have q0 : ∀ m, m < Y' 144 → Y' (129 + m) = Y (129 + (if m < i then m else m + 1)) ∧ (if m < i then m else m + 1) < Y 144 ∧ (if m < i then m else m + 1) ≠ i := fun m hm => by
    rw [eq] at hm
    by_cases e : m < i
    · rw [if_pos e]
      exact ⟨o _ (by omega) (by omega) (by omega) (by omega) (by omega), by omega, by omega⟩
    · rw [if_neg e]
      exact ⟨es m (by omega) (by omega), by omega, by omega⟩
  refine ⟨fun k hk => ?_, fun k i i' hk hi hi' e => ?_, fun k i hk hi hi5 => ?_, fun c' hc' h3 => ?_, ⟨?_, fun m hm => ?_⟩, fun m m' hm hm' e => ?_, fun c' hc' h3 => ?_, fun c' hc' => ?_, fun c' hc' => ?_, ⟨?_, fun q hq => ?_⟩, fun q q' hq hq' e1 e2 => ?_, ?_, fun c' hc' h3 => ?_⟩
  · have h1 := y1 k hk
    rw [o (120 + k) (by omega) (by omega) (by omega) (by omega) (by omega)]
    refine ⟨h1.1, h1.2.1, fun i hi => ?_⟩
    have h2 := h1.2.2 i hi
    have hne : Y (75 + 5 * k + i) - 1 ≠ c := fun e => by rw [e] at h2; omega
    rw [o (75 + 5 * k + i) (by omega) (by omega) (by omega) (by omega) (by omega), o (Y (75 + 5 * k + i) - 1) (by omega) hne (by omega) (by omega) (by omega)]
    exact h2
  · have h1 := y1 k hk
    rw [o (120 + k) (by omega) (by omega) (by omega) (by omega) (by omega)] at hi hi'
    rw [o (75 + 5 * k + i) (by omega) (by omega) (by omega) (by omega) (by omega), o (75 + 5 * k + i') (by omega) (by omega) (by omega) (by omega) (by omega)] at e
    exact y2 k i i' hk hi hi' e
  · rw [o (120 + k) (by omega) (by omega) (by omega) (by omega) (by omega)] at hi
    rw [o (75 + 5 * k + i) (by omega) (by omega) (by omega) (by omega) (by omega)]
    exact y3 k i hk hi hi5
  · have hne : c' ≠ c := fun e => by subst e; omega
    have e7 := o c' (by omega) hne (by omega) (by omega) (by omega)
    rw [e7] at h3 ⊢
    obtain ⟨i', hi', e⟩ := y4 c' hc' h3
    have hk2 : 3 * R (22 + 5 * c') + Y c' < 9 := by have := hS c' hc'; omega
    have h1 := (y1 _ hk2).1
    refine ⟨i', ?_, ?_⟩
    · rw [o (120 + _) (by omega) (by omega) (by omega) (by omega) (by omega)]; exact hi'
    · rw [o (75 + _ + i') (by omega) (by omega) (by omega) (by omega) (by omega)]; exact e
  · rw [eq]; omega
  · obtain ⟨a1, a2, a3⟩ := q0 m hm
    have h1 := y5.2 _ a2
    rw [a1]
    have hne : Y (129 + (if m < i then m else m + 1)) ≠ c := fun e => a3 (y6 _ i a2 hi (by omega))
    rw [o (Y (129 + (if m < i then m else m + 1))) (by omega) hne (by omega) (by omega) (by omega)]
    exact h1
  · obtain ⟨a1, a2, a3⟩ := q0 m hm
    obtain ⟨b1, b2, b3⟩ := q0 m' hm'
    rw [a1, b1] at e
    have := y6 _ _ a2 b2 e
    split at this <;> split at this <;> omega
  · have hne : c' ≠ c := fun e => by subst e; omega
    rw [o c' (by omega) hne (by omega) (by omega) (by omega)] at h3
    obtain ⟨m, hm, e⟩ := y7 c' hc' h3
    have hmi : m ≠ i := fun e2 => by subst e2; omega
    rcases Nat.lt_or_ge m i with hl | hl
    · exact ⟨m, by omega, by rw [o (129 + m) (by omega) (by omega) (by omega) (by omega) (by omega)]; exact e⟩
    · refine ⟨m - 1, by omega, ?_⟩
      rw [es (m - 1) (by omega) (by omega), show m - 1 + 1 = m by omega]; exact e
  · have h8 := y8 c' hc'
    rw [o (15 + c') (by omega) (by omega) (by omega) (by omega) (by omega), o (30 + c') (by omega) (by omega) (by omega) (by omega) (by omega), o 145 (by omega) (by omega) (by omega) (by omega) (by omega)]
    by_cases e : c' = c
    · subst e
      rw [ec]
      exact ⟨by omega, h8.2.1, h8.2.2.1, ew⟩
    · rw [o c' (by omega) e (by omega) (by omega) (by omega), o (45 + c') (by omega) (by omega) (by omega) (by omega) (by omega)]
      exact h8
  · rw [o (60 + c') (by omega) (by omega) (by omega) (by omega) (by omega)]; exact y9 c' hc'
  · rw [o 145 (by omega) (by omega) (by omega) (by omega) (by omega)]; exact y10.1
  · rw [o 145 (by omega) (by omega) (by omega) (by omega) (by omega)]
    have h1 := y10.2 q hq
    by_cases e : q = D
    · subst e
      rw [eh, Nat.add_sub_cancel]
      exact ⟨by omega, fun _ => ⟨by omega, ec⟩⟩
    · rw [o (147 + q) (by omega) (by omega) (by omega) (by omega) (by omega)]
      refine ⟨h1.1, fun h2 => ⟨(h1.2 h2).1, ?_⟩⟩
      have h3 := (h1.2 h2).2
      have hne : Y (147 + q) - 1 ≠ c := fun e => by rw [e] at h3; omega
      rw [o _ (by omega) hne (by omega) (by omega) (by omega)]; exact h3
  · have hD99 : D < 99 := by omega
    have key : ∀ q, q < 99 → q ≠ D → Y (147 + q) ≠ c + 1 := fun q hq hne e => by
      have h3 := ((y10.2 q hq).2 (by omega)).2
      rw [e, Nat.add_sub_cancel] at h3
      omega
    by_cases a : q = D
    · by_cases a' : q' = D
      · omega
      · rw [a, eh, o (147 + q') (by omega) (by omega) (by omega) (by omega) (by omega)] at e2
        exact absurd e2.symm (key q' hq' a')
    · rw [o (147 + q) (by omega) (by omega) (by omega) (by omega) (by omega)] at e1 e2
      by_cases a' : q' = D
      · rw [a', eh] at e2
        exact absurd e2 (key q hq a)
      · rw [o (147 + q') (by omega) (by omega) (by omega) (by omega) (by omega)] at e2
        exact y11 q q' hq hq' e1 e2
  · rw [o 146 (by omega) (by omega) (by omega) (by omega) (by omega)]; exact y12.1
  · have hne : c' ≠ c := fun e => by subst e; omega
    rw [o c' (by omega) hne (by omega) (by omega) (by omega)] at h3
    rw [o (45 + c') (by omega) (by omega) (by omega) (by omega) (by omega)]
    exact y12.2 c' hc' h3
theorem hv_o {i c k : Nat} (h1 : k ≠ 147 + Y 145) (h2 : k ≠ c) (h3 : ¬ (129 + i ≤ k ∧ k < 144)) (h4 : k ≠ 144) (hq : Y 144 ≤ 15) : hv Y i c k = Y k := by
  unfold hv
  rw [if_neg h1, if_neg h2, if_neg (by omega), if_neg h4]
theorem YO.dw {i c : Nat} (h : YO n R Y) (h5 : R 5 ≤ 15) (hd : Y 145 ≤ 98) (hi : i < Y 144) (hc : Y (129 + i) = c) (hS : ∀ c, c < R 5 → R (22 + 5 * c) < 3) : YO n R (dn R (hv Y i c)) := by
  have hq15 := h.q15
  have hci := h.2.2.2.2.1.2 i hi
  rw [hc] at hci
  have z := h.dy h5 hd hS
  have hz : Y (147 + Y 145) = 0 := by
    rcases Nat.eq_zero_or_pos (Y (147 + Y 145)) with e | e
    · exact e
    · have := ((h.2.2.2.2.2.2.2.2.2.1.2 (Y 145) (by omega)).2 e).1; omega
  have t145 : hv Y i c 145 = Y 145 := hv_o (by omega) (by omega) (by omega) (by omega) hq15
  have hvc : hv Y i c c = 4 := by unfold hv; rw [if_neg (by omega), if_pos rfl]
  refine z.hav (i := i) (c := c) (D := Y 145) h5 (dn_145 h5) (by rw [dn_o (by omega) (by omega)]; exact hi) (by rw [dn_o (by omega) (by omega)]; exact hc) ?_ ?_ (fun m h1 h2 => ?_) ?_ ?_ (fun k k1 k2 k3 k4 k5 => ?_) (by rw [dn_o (by omega) (by omega)]; exact hz) hS
  · rw [dn_o (by omega) (by omega)]; unfold hv; rw [if_pos rfl]
  · rw [dn_o (by omega) (by omega)]; exact hvc
  · rw [dn_o (by omega) (by omega)] at h2
    rw [dn_o (by omega) (by omega), dn_o (by omega) (by omega)]
    unfold hv
    rw [if_neg (by omega), if_neg (by omega), if_pos (by omega)]
    rfl
  · rw [dn_o (by omega) (by omega), dn_o (by omega) (by omega)]
    unfold hv
    rw [if_neg (by omega), if_neg (by omega), if_neg (by omega), if_pos rfl]
  · have h8 := (h.2.2.2.2.2.2.2.1 c hci.1).2.2.2
    rw [dn_45 hci.1 h5, hvc, if_neg (by omega), dn_145 h5, hv_o (by omega) (by omega) (by omega) (by omega) hq15]
    omega
  · by_cases e : 45 ≤ k ∧ k < 45 + R 5
    · unfold dn
      rw [t145, hv_o (k := k - 45) (by omega) (by omega) (by omega) (by omega) hq15, hv_o (k := k) (by omega) (by omega) (by omega) (by omega) hq15]
    · by_cases e3 : k = 145
      · subst e3; rw [dn_145 h5, dn_145 h5, t145]
      · rw [dn_o e e3, dn_o e e3, hv_o k1 k2 k3 k4 hq15]
end
