/-! ACTS: the yard's row of numbers, changed by an act, keeps what always holds of it -/
def upN (Y : Nat → Nat) (k v : Nat) : Nat → Nat := fun i => if i = k then v else Y i
theorem upN_s {Y : Nat → Nat} {k v : Nat} : upN Y k v k = v := by unfold upN; rw [if_pos rfl]
theorem upN_o {Y : Nat → Nat} {k v i : Nat} (h : i ≠ k) : upN Y k v i = Y i := by unfold upN; rw [if_neg h]
def Ms (g : Gi) (Y : Nat → Nat) : Prop := ∀ k, k < 246 → g 268 k = nI (Y k)
theorem Ms.u {g : Gi} {Y : Nat → Nat} (h : Ms g Y) (q v : Nat) : Ms (uI g 268 q (nI v)) (upN Y q v) := by
  intro k hk
  by_cases e : k = q
  · subst e; rw [uI_s, upN_s]
  · rw [uI_n e, upN_o e]; exact h k hk
theorem Ms.eq {g : Gi} {Y Y' : Nat → Nat} (h : Ms g Y) (e : ∀ i, Y' i = Y i) : Ms g Y' := fun k hk => by rw [e]; exact h k hk
/-- counting: m different crates that P has are at most as many as P has -/
def cntP (P : Nat → Bool) : Nat → Nat
  | 0 => 0
  | n + 1 => cntP P n + (if P n = true then 1 else 0)
theorem cnt_inj {P : Nat → Bool} : ∀ (N m : Nat) (f : Nat → Nat), (∀ i, i < m → f i < N ∧ P (f i) = true) → (∀ i i', i < m → i' < m → f i = f i' → i = i') → m ≤ cntP P N := by
  intro N
  induction N with
  | zero =>
    intro m f h _
    rcases Nat.eq_zero_or_pos m with e | e
    · omega
    · have := (h 0 e).1; omega
  | succ N ih =>
    intro m f h hi
    show m ≤ cntP P N + (if P N = true then 1 else 0)
    by_cases hx : ∃ i, i < m ∧ f i = N
    · obtain ⟨i0, h0, e0⟩ := hx
      have hP : P N = true := by rw [← e0]; exact (h i0 h0).2
      rw [if_pos hP]
      have := ih (m - 1) (fun i => if i = i0 then f (m - 1) else f i) (fun i hi1 => ?_) (fun i i' hi1 hi2 e => ?_)
      · omega
      · show (if i = i0 then f (m - 1) else f i) < N ∧ P (if i = i0 then f (m - 1) else f i) = true
        split
        · have h1 := h (m - 1) (by omega)
          have : f (m - 1) ≠ N := fun e => by have := hi (m - 1) i0 (by omega) h0 (by omega); omega
          exact ⟨by omega, h1.2⟩
        · rename_i hne
          have h1 := h i (by omega)
          have : f i ≠ N := fun e => hne (hi i i0 (by omega) h0 (by omega))
          exact ⟨by omega, h1.2⟩
      · have e : (if i = i0 then f (m - 1) else f i) = (if i' = i0 then f (m - 1) else f i') := e
        split at e <;> split at e
        · omega
        · have := hi _ _ (by omega) (by omega) e; omega
        · have := hi _ _ (by omega) (by omega) e; omega
        · exact hi _ _ (by omega) (by omega) e
    · have := ih m f (fun i hi1 => ⟨by have := (h i hi1).1; have : f i ≠ N := fun e => hx ⟨i, hi1, e⟩; omega, (h i hi1).2⟩) hi
      omega
theorem cntS_P (R : Nat → Nat) (s : Nat) : ∀ N, cntS R s N = cntP (fun c => decide (R (22 + 5 * c) = s)) N := by
  intro N
  induction N with
  | zero => rfl
  | succ N ih =>
    show cntS R s N + (if R (22 + 5 * N) = s then 1 else 0) = cntP _ N + (if decide (R (22 + 5 * N) = s) = true then 1 else 0)
    rw [ih]
    by_cases h : R (22 + 5 * N) = s
    · rw [if_pos h, if_pos (by simpa using h)]
    · rw [if_neg h, if_neg (by simpa using h)]
theorem cntP_le (P : Nat → Bool) : ∀ N, cntP P N ≤ N := by
  intro N
  induction N with
  | zero => exact Nat.le_refl _
  | succ N ih =>
    show cntP P N + (if P N = true then 1 else 0) ≤ N + 1
    split <;> omega
section
variable {n b : Nat} {R Y Y' : Nat → Nat}
/-- crates are opened -/
theorem YO.opn (h : YO n R Y) (h5 : R 5 ≤ 15) (o : ∀ i, ¬ (60 ≤ i ∧ i < 75) → Y' i = Y i) (h9 : ∀ c, c < 15 → Y' (60 + c) ≤ 2 ∧ (R 5 ≤ c → Y' (60 + c) = 0)) : YO n R Y' := by
  obtain ⟨y1, y2, y3, y4, y5, y6, y7, y8, y9, y10, y11, y12⟩ := h
  refine ⟨fun k hk => ?_, fun k i i' hk hi hi' e => ?_, fun k i hk hi hi5 => ?_, fun c hc h3 => ?_, ⟨?_, fun i hi => ?_⟩, fun i i' hi hi' e => ?_, fun c hc h3 => ?_, fun c hc => ?_, h9, ⟨?_, fun q hq => ?_⟩, fun q q' hq hq' e1 e2 => ?_, ?_, fun c hc h3 => ?_⟩
  · have h1 := y1 k hk
    rw [o (120 + k) (by omega)]
    refine ⟨h1.1, h1.2.1, fun i hi => ?_⟩
    have h2 := h1.2.2 i hi
    rw [o (75 + 5 * k + i) (by omega), o (Y (75 + 5 * k + i) - 1) (by omega)]
    exact h2
  · have h1 := y1 k hk
    rw [o (120 + k) (by omega)] at hi hi'
    rw [o (75 + 5 * k + i) (by omega), o (75 + 5 * k + i') (by omega)] at e
    exact y2 k i i' hk hi hi' e
  · rw [o (120 + k) (by omega)] at hi
    rw [o (75 + 5 * k + i) (by omega)]
    exact y3 k i hk hi hi5
  · rw [o c (by omega)] at h3 ⊢
    obtain ⟨i, hi, e⟩ := y4 c hc h3
    refine ⟨i, ?_, ?_⟩
    · rw [o (120 + _) (by omega)]; exact hi
    · rw [o (75 + _ + i) (by omega)]; exact e
  · rw [o 144 (by omega)]; exact y5.1
  · rw [o 144 (by omega)] at hi
    have h1 := y5.2 i hi
    rw [o (129 + i) (by omega), o _ (by omega)]
    exact h1
  · rw [o 144 (by omega)] at hi hi'
    rw [o (129 + i) (by omega), o (129 + i') (by omega)] at e
    exact y6 i i' hi hi' e
  · rw [o c (by omega)] at h3
    obtain ⟨i, hi, e⟩ := y7 c hc h3
    exact ⟨i, by rw [o 144 (by omega)]; exact hi, by rw [o (129 + i) (by omega)]; exact e⟩
  · rw [o c (by omega), o (15 + c) (by omega), o (30 + c) (by omega), o (45 + c) (by omega), o 145 (by omega)]
    exact y8 c hc
  · rw [o 145 (by omega)]; exact y10.1
  · have h1 := y10.2 q hq
    rw [o (147 + q) (by omega), o 145 (by omega), o (Y (147 + q) - 1) (by omega)]
    exact h1
  · rw [o (147 + q) (by omega)] at e1 e2
    rw [o (147 + q') (by omega)] at e2
    exact y11 q q' hq hq' e1 e2
  · rw [o 146 (by omega)]; exact y12.1
  · rw [o c (by omega)] at h3
    rw [o (45 + c) (by omega)]
    exact y12.2 c hc h3
/-- a crate is taken from its stack: it is nowhere -/
theorem YO.take {k c : Nat} (h : YO n R Y) (h5 : R 5 ≤ 15) (hS : ∀ c, c < R 5 → R (22 + 5 * c) < 3) (hk : k < 9) (hh : 1 ≤ Y (120 + k)) (hc : Y (75 + 5 * k + (Y (120 + k) - 1)) = c + 1)
    (e1 : Y' (120 + k) = Y (120 + k) - 1) (e2 : Y' (75 + 5 * k + (Y (120 + k) - 1)) = 0) (e3 : Y' 146 ≤ Y 146 + 2) (e4 : Y' (15 + c) = Y (15 + c) + 1) (e5 : Y' (30 + c) = if R (21 + 5 * c) = 2 ∧ 2 ≤ Y (15 + c) + 1 then 1 else 0) (e6 : Y' c = 5)
    (o : ∀ i, i ≠ 120 + k → i ≠ 75 + 5 * k + (Y (120 + k) - 1) → i ≠ 146 → i ≠ 15 + c → i ≠ 30 + c → i ≠ c → Y' i = Y i) : YO (n + 1) R Y' := by
  obtain ⟨y1, y2, y3, y4, y5, y6, y7, y8, y9, y10, y11, y12⟩ := h
  have hk1 := y1 k hk
  have hc1 := hk1.2.2 (Y (120 + k) - 1) (by omega)
  rw [hc, Nat.add_sub_cancel] at hc1
  obtain ⟨-, hcR, hcs, hcp⟩ := hc1
  refine ⟨fun k' hk' => ?_, fun k' i i' hk' hi hi' e => ?_, fun k' i hk' hi hi5 => ?_, fun c' hc' h3 => ?_, ⟨?_, fun i hi => ?_⟩, fun i i' hi hi' e => ?_, fun c' hc' h3 => ?_, fun c' hc' => ?_, fun c' hc' => ?_, ⟨?_, fun q hq => ?_⟩, fun q q' hq hq' x1 x2 => ?_, ?_, fun c' hc' h3 => ?_⟩
  · have h1 := y1 k' hk'
    by_cases e : k' = k
    · subst e
      rw [e1]
      refine ⟨by omega, fun hz => by have := h1.2.1 hz; omega, fun i hi => ?_⟩
      have h2 := h1.2.2 i (by omega)
      have hne : Y (75 + 5 * k' + i) ≠ c + 1 := fun e => by have := y2 k' i (Y (120 + k') - 1) hk (by omega) (by omega) (by omega); omega
      rw [o (75 + 5 * k' + i) (by omega) (by omega) (by omega) (by omega) (by omega) (by omega), o (Y (75 + 5 * k' + i) - 1) (by omega) (by omega) (by omega) (by omega) (by omega) (by omega)]
      exact h2
    · rw [o (120 + k') (by omega) (by omega) (by omega) (by omega) (by omega) (by omega)]
      refine ⟨h1.1, h1.2.1, fun i hi => ?_⟩
      have h2 := h1.2.2 i hi
      have hne : Y (75 + 5 * k' + i) - 1 ≠ c := fun e => by rw [e] at h2; omega
      rw [o (75 + 5 * k' + i) (by omega) (by omega) (by omega) (by omega) (by omega) (by omega), o (Y (75 + 5 * k' + i) - 1) (by omega) (by omega) (by omega) (by omega) (by omega) (by omega)]
      exact h2
  · have h1 := y1 k' hk'
    have hle : Y' (120 + k') ≤ Y (120 + k') := by
      by_cases e : k' = k
      · subst e; omega
      · rw [o (120 + k') (by omega) (by omega) (by omega) (by omega) (by omega) (by omega)]; omega
    have hlt : ∀ i, i < Y' (120 + k') → Y' (75 + 5 * k' + i) = Y (75 + 5 * k' + i) := fun i hi => by
      by_cases e : k' = k
      · subst e
        exact o _ (by omega) (by omega) (by omega) (by omega) (by omega) (by omega)
      · exact o _ (by omega) (by omega) (by omega) (by omega) (by omega) (by omega)
    rw [hlt i hi, hlt i' hi'] at e
    exact y2 k' i i' hk' (by omega) (by omega) e
  · by_cases e : k' = k
    · subst e
      rw [e1] at hi
      by_cases e' : i = Y (120 + k') - 1
      · subst e'; exact e2
      · rw [o (75 + 5 * k' + i) (by omega) (by omega) (by omega) (by omega) (by omega) (by omega)]
        exact y3 k' i hk' (by omega) hi5
    · rw [o (120 + k') (by omega) (by omega) (by omega) (by omega) (by omega) (by omega)] at hi
      rw [o (75 + 5 * k' + i) (by omega) (by omega) (by omega) (by omega) (by omega) (by omega)]
      exact y3 k' i hk' hi hi5
  · have hne : c' ≠ c := fun e => by subst e; omega
    have e7 := o c' (by omega) (by omega) (by omega) (by omega) (by omega) hne
    rw [e7] at h3 ⊢
    obtain ⟨i, hi, e⟩ := y4 c' hc' h3
    have hk2 : 3 * R (22 + 5 * c') + Y c' < 9 := by have := hS c' hc'; omega
    by_cases ek : 3 * R (22 + 5 * c') + Y c' = k
    · rw [ek] at hi e ⊢
      refine ⟨i, ?_, ?_⟩
      · rw [e1]
        have : i ≠ Y (120 + k) - 1 := fun e' => by subst e'; omega
        omega
      · have : i ≠ Y (120 + k) - 1 := fun e' => by subst e'; omega
        rw [o (75 + 5 * k + i) (by omega) (by omega) (by omega) (by omega) (by omega) (by omega)]; exact e
    · have h1 := (y1 _ hk2).1
      refine ⟨i, ?_, ?_⟩
      · rw [o (120 + _) (by omega) (by omega) (by omega) (by omega) (by omega) (by omega)]; exact hi
      · rw [o (75 + _ + i) (by omega) (by omega) (by omega) (by omega) (by omega) (by omega)]; exact e
  · rw [o 144 (by omega) (by omega) (by omega) (by omega) (by omega) (by omega)]; exact y5.1
  · rw [o 144 (by omega) (by omega) (by omega) (by omega) (by omega) (by omega)] at hi
    have h1 := y5.2 i hi
    have hne : Y (129 + i) ≠ c := fun e => by rw [e] at h1; omega
    rw [o (129 + i) (by omega) (by omega) (by omega) (by omega) (by omega) (by omega), o _ (by omega) (by omega) (by omega) (by omega) (by omega) hne]
    exact h1
  · rw [o 144 (by omega) (by omega) (by omega) (by omega) (by omega) (by omega)] at hi hi'
    rw [o (129 + i) (by omega) (by omega) (by omega) (by omega) (by omega) (by omega), o (129 + i') (by omega) (by omega) (by omega) (by omega) (by omega) (by omega)] at e
    exact y6 i i' hi hi' e
  · have hne : c' ≠ c := fun e => by subst e; omega
    rw [o c' (by omega) (by omega) (by omega) (by omega) (by omega) hne] at h3
    obtain ⟨i, hi, e⟩ := y7 c' hc' h3
    exact ⟨i, by rw [o 144 (by omega) (by omega) (by omega) (by omega) (by omega) (by omega)]; exact hi, by rw [o (129 + i) (by omega) (by omega) (by omega) (by omega) (by omega) (by omega)]; exact e⟩
  · have h8 := y8 c' hc'
    rw [o (45 + c') (by omega) (by omega) (by omega) (by omega) (by omega) (by omega), o 145 (by omega) (by omega) (by omega) (by omega) (by omega) (by omega)]
    by_cases e : c' = c
    · subst e
      rw [e4, e5, e6]
      exact ⟨by omega, by omega, rfl, h8.2.2.2⟩
    · rw [o c' (by omega) (by omega) (by omega) (by omega) (by omega) e, o (15 + c') (by omega) (by omega) (by omega) (by omega) (by omega) (by omega), o (30 + c') (by omega) (by omega) (by omega) (by omega) (by omega) (by omega)]
      exact ⟨h8.1, by omega, h8.2.2⟩
  · rw [o (60 + c') (by omega) (by omega) (by omega) (by omega) (by omega) (by omega)]; exact y9 c' hc'
  · rw [o 145 (by omega) (by omega) (by omega) (by omega) (by omega) (by omega)]; exact y10.1
  · have h1 := y10.2 q hq
    rw [o (147 + q) (by omega) (by omega) (by omega) (by omega) (by omega) (by omega), o 145 (by omega) (by omega) (by omega) (by omega) (by omega) (by omega)]
    refine ⟨h1.1, fun h2 => ⟨(h1.2 h2).1, ?_⟩⟩
    have h3 := (h1.2 h2).2
    have hne : Y (147 + q) - 1 ≠ c := fun e => by rw [e] at h3; omega
    rw [o (Y (147 + q) - 1) (by omega) (by omega) (by omega) (by omega) (by omega) hne]; exact h3
  · rw [o (147 + q) (by omega) (by omega) (by omega) (by omega) (by omega) (by omega)] at x1 x2
    rw [o (147 + q') (by omega) (by omega) (by omega) (by omega) (by omega) (by omega)] at x2
    exact y11 q q' hq hq' x1 x2
  · have := y12.1; omega
  · have hne : c' ≠ c := fun e => by subst e; omega
    rw [o c' (by omega) (by omega) (by omega) (by omega) (by omega) hne] at h3
    rw [o (45 + c') (by omega) (by omega) (by omega) (by omega) (by omega) (by omega)]
    exact y12.2 c' hc' h3
/-- a crate that is nowhere is laid on a stack -/
theorem YO.pil {k c : Nat} (h : YO n R Y) (h5 : R 5 ≤ 15) (hS : ∀ c, c < R 5 → R (22 + 5 * c) < 3) (hk : k < 9) (hh : Y (120 + k) ≤ 4) (hc : c < R 5) (hcs : R (22 + 5 * c) = k / 3) (hcp : Y c = 5) (h4 : k < 3 * R 4) (hd : Y (45 + c) = 0)
    (e1 : Y' (120 + k) = Y (120 + k) + 1) (e2 : Y' (75 + 5 * k + Y (120 + k)) = c + 1) (e6 : Y' c = k % 3)
    (o : ∀ i, i ≠ 120 + k → i ≠ 75 + 5 * k + Y (120 + k) → i ≠ c → Y' i = Y i) : YO n R Y' := by
  obtain ⟨y1, y2, y3, y4, y5, y6, y7, y8, y9, y10, y11, y12⟩ := h
  have hk1 := y1 k hk
  have hnc : ∀ k' i, k' < 9 → i < Y (120 + k') → Y (75 + 5 * k' + i) ≠ c + 1 := fun k' i hk' hi e => by
    have h2 := (y1 k' hk').2.2 i hi
    rw [e, Nat.add_sub_cancel] at h2
    omega
  refine ⟨fun k' hk' => ?_, fun k' i i' hk' hi hi' e => ?_, fun k' i hk' hi hi5 => ?_, fun c' hc' h3 => ?_, ⟨?_, fun i hi => ?_⟩, fun i i' hi hi' e => ?_, fun c' hc' h3 => ?_, fun c' hc' => ?_, fun c' hc' => ?_, ⟨?_, fun q hq => ?_⟩, fun q q' hq hq' x1 x2 => ?_, ?_, fun c' hc' h3 => ?_⟩
  · have h1 := y1 k' hk'
    by_cases e : k' = k
    · subst e
      rw [e1]
      refine ⟨by omega, fun hz => by omega, fun i hi => ?_⟩
      by_cases e' : i = Y (120 + k')
      · subst e'
        rw [e2, Nat.add_sub_cancel, e6]
        exact ⟨by omega, by omega, hcs, rfl⟩
      · have h2 := h1.2.2 i (by omega)
        have hne := hnc k' i hk' (by omega)
        rw [o (75 + 5 * k' + i) (by omega) (by omega) (by omega), o (Y (75 + 5 * k' + i) - 1) (by omega) (by omega) (by omega)]
        exact h2
    · rw [o (120 + k') (by omega) (by omega) (by omega)]
      refine ⟨h1.1, h1.2.1, fun i hi => ?_⟩
      have h2 := h1.2.2 i hi
      have hne := hnc k' i hk' hi
      rw [o (75 + 5 * k' + i) (by omega) (by omega) (by omega), o (Y (75 + 5 * k' + i) - 1) (by omega) (by omega) (by omega)]
      exact h2
  · have h1 := y1 k' hk'
    by_cases ek : k' = k
    · subst ek
      rw [e1] at hi hi'
      by_cases a : i = Y (120 + k')
      · by_cases a' : i' = Y (120 + k')
        · omega
        · rw [a, e2, o (75 + 5 * k' + i') (by omega) (by omega) (by omega)] at e
          exact absurd e.symm (hnc k' i' hk' (by omega))
      · by_cases a' : i' = Y (120 + k')
        · rw [a', e2, o (75 + 5 * k' + i) (by omega) (by omega) (by omega)] at e
          exact absurd e (hnc k' i hk' (by omega))
        · rw [o (75 + 5 * k' + i) (by omega) (by omega) (by omega), o (75 + 5 * k' + i') (by omega) (by omega) (by omega)] at e
          exact y2 k' i i' hk' (by omega) (by omega) e
    · rw [o (120 + k') (by omega) (by omega) (by omega)] at hi hi'
      rw [o (75 + 5 * k' + i) (by omega) (by omega) (by omega), o (75 + 5 * k' + i') (by omega) (by omega) (by omega)] at e
      exact y2 k' i i' hk' hi hi' e
  · by_cases e : k' = k
    · subst e
      rw [e1] at hi
      rw [o (75 + 5 * k' + i) (by omega) (by omega) (by omega)]
      exact y3 k' i hk' (by omega) hi5
    · rw [o (120 + k') (by omega) (by omega) (by omega)] at hi
      rw [o (75 + 5 * k' + i) (by omega) (by omega) (by omega)]
      exact y3 k' i hk' hi hi5
  · by_cases ec : c' = c
    · subst ec
      rw [e6, hcs, show 3 * (k / 3) + k % 3 = k by omega]
      exact ⟨Y (120 + k), by omega, e2⟩
    · have e7 := o c' (by omega) (by omega) ec
      rw [e7] at h3 ⊢
      obtain ⟨i, hi, e⟩ := y4 c' hc' h3
      have hk2 : 3 * R (22 + 5 * c') + Y c' < 9 := by have := hS c' hc'; omega
      have h1 := (y1 _ hk2).1
      by_cases ek : 3 * R (22 + 5 * c') + Y c' = k
      · rw [ek] at hi e ⊢
        exact ⟨i, by omega, by rw [o (75 + 5 * k + i) (by omega) (by omega) (by omega)]; exact e⟩
      · refine ⟨i, ?_, ?_⟩
        · rw [o (120 + _) (by omega) (by omega) (by omega)]; exact hi
        · rw [o (75 + _ + i) (by omega) (by omega) (by omega)]; exact e
  · rw [o 144 (by omega) (by omega) (by omega)]; exact y5.1
  · rw [o 144 (by omega) (by omega) (by omega)] at hi
    have h1 := y5.2 i hi
    have hne : Y (129 + i) ≠ c := fun e => by rw [e] at h1; omega
    rw [o (129 + i) (by omega) (by omega) (by omega), o _ (by omega) (by omega) hne]
    exact h1
  · rw [o 144 (by omega) (by omega) (by omega)] at hi hi'
    rw [o (129 + i) (by omega) (by omega) (by omega), o (129 + i') (by omega) (by omega) (by omega)] at e
    exact y6 i i' hi hi' e
  · have hne : c' ≠ c := fun e => by subst e; omega
    rw [o c' (by omega) (by omega) hne] at h3
    obtain ⟨i, hi, e⟩ := y7 c' hc' h3
    exact ⟨i, by rw [o 144 (by omega) (by omega) (by omega)]; exact hi, by rw [o (129 + i) (by omega) (by omega) (by omega)]; exact e⟩
  · have h8 := y8 c' hc'
    rw [o (45 + c') (by omega) (by omega) (by omega), o 145 (by omega) (by omega) (by omega), o (15 + c') (by omega) (by omega) (by omega), o (30 + c') (by omega) (by omega) (by omega)]
    by_cases e : c' = c
    · subst e
      rw [e6]
      exact ⟨by omega, h8.2⟩
    · rw [o c' (by omega) (by omega) e]
      exact h8
  · rw [o (60 + c') (by omega) (by omega) (by omega)]; exact y9 c' hc'
  · rw [o 145 (by omega) (by omega) (by omega)]; exact y10.1
  · have h1 := y10.2 q hq
    rw [o (147 + q) (by omega) (by omega) (by omega), o 145 (by omega) (by omega) (by omega)]
    refine ⟨h1.1, fun h2 => ⟨(h1.2 h2).1, ?_⟩⟩
    have h3 := (h1.2 h2).2
    have hne : Y (147 + q) - 1 ≠ c := fun e => by rw [e] at h3; omega
    rw [o (Y (147 + q) - 1) (by omega) (by omega) hne]; exact h3
  · rw [o (147 + q) (by omega) (by omega) (by omega)] at x1 x2
    rw [o (147 + q') (by omega) (by omega) (by omega)] at x2
    exact y11 q q' hq hq' x1 x2
  · rw [o 146 (by omega) (by omega) (by omega)]; exact y12.1
  · rw [o (45 + c') (by omega) (by omega) (by omega)]
    by_cases ec : c' = c
    · subst ec; exact hd
    · rw [o c' (by omega) (by omega) ec] at h3
      exact y12.2 c' hc' h3
/-- a crate that is nowhere comes to the quay -/
theorem YO.lnd {c : Nat} (h : YO n R Y) (h5 : R 5 ≤ 15) (hS : ∀ c, c < R 5 → R (22 + 5 * c) < 3) (hh : Y 144 ≤ 14) (hc : c < R 5) (hcp : Y c = 5)
    (e1 : Y' 144 = Y 144 + 1) (e2 : Y' (129 + Y 144) = c) (e6 : Y' c = 3)
    (o : ∀ i, i ≠ 144 → i ≠ 129 + Y 144 → i ≠ c → Y' i = Y i) : YO n R Y' := by
  obtain ⟨y1, y2, y3, y4, y5, y6, y7, y8, y9, y10, y11, y12⟩ := h
  have hnc : ∀ i, i < Y 144 → Y (129 + i) ≠ c := fun i hi e => by
    have h2 := y5.2 i hi
    rw [e] at h2
    omega
  refine ⟨fun k' hk' => ?_, fun k' i i' hk' hi hi' e => ?_, fun k' i hk' hi hi5 => ?_, fun c' hc' h3 => ?_, ⟨?_, fun i hi => ?_⟩, fun i i' hi hi' e => ?_, fun c' hc' h3 => ?_, fun c' hc' => ?_, fun c' hc' => ?_, ⟨?_, fun q hq => ?_⟩, fun q q' hq hq' x1 x2 => ?_, ?_, fun c' hc' h3 => ?_⟩
  · have h1 := y1 k' hk'
    rw [o (120 + k') (by omega) (by omega) (by omega)]
    refine ⟨h1.1, h1.2.1, fun i hi => ?_⟩
    have h2 := h1.2.2 i hi
    have hne : Y (75 + 5 * k' + i) - 1 ≠ c := fun e => by rw [e] at h2; omega
    rw [o (75 + 5 * k' + i) (by omega) (by omega) (by omega), o (Y (75 + 5 * k' + i) - 1) (by omega) (by omega) (by omega)]
    exact h2
  · have h1 := y1 k' hk'
    rw [o (120 + k') (by omega) (by omega) (by omega)] at hi hi'
    rw [o (75 + 5 * k' + i) (by omega) (by omega) (by omega), o (75 + 5 * k' + i') (by omega) (by omega) (by omega)] at e
    exact y2 k' i i' hk' hi hi' e
  · rw [o (120 + k') (by omega) (by omega) (by omega)] at hi
    rw [o (75 + 5 * k' + i) (by omega) (by omega) (by omega)]
    exact y3 k' i hk' hi hi5
  · have ec : c' ≠ c := fun e => by subst e; omega
    have e7 := o c' (by omega) (by omega) ec
    rw [e7] at h3 ⊢
    obtain ⟨i, hi, e⟩ := y4 c' hc' h3
    have hk2 : 3 * R (22 + 5 * c') + Y c' < 9 := by have := hS c' hc'; omega
    have h1 := (y1 _ hk2).1
    refine ⟨i, ?_, ?_⟩
    · rw [o (120 + _) (by omega) (by omega) (by omega)]; exact hi
    · rw [o (75 + _ + i) (by omega) (by omega) (by omega)]; exact e
  · rw [e1]; omega
  · rw [e1] at hi
    by_cases e : i = Y 144
    · subst e; rw [e2, e6]; exact ⟨hc, rfl⟩
    · have h1 := y5.2 i (by omega)
      have hne := hnc i (by omega)
      rw [o (129 + i) (by omega) (by omega) (by omega), o _ (by omega) (by omega) hne]
      exact h1
  · rw [e1] at hi hi'
    by_cases a : i = Y 144
    · by_cases a' : i' = Y 144
      · omega
      · rw [a, e2, o (129 + i') (by omega) (by omega) (by omega)] at e
        exact absurd e.symm (hnc i' (by omega))
    · by_cases a' : i' = Y 144
      · rw [a', e2, o (129 + i) (by omega) (by omega) (by omega)] at e
        exact absurd e (hnc i (by omega))
      · rw [o (129 + i) (by omega) (by omega) (by omega), o (129 + i') (by omega) (by omega) (by omega)] at e
        exact y6 i i' (by omega) (by omega) e
  · by_cases ec : c' = c
    · subst ec; exact ⟨Y 144, by omega, e2⟩
    · rw [o c' (by omega) (by omega) ec] at h3
      obtain ⟨i, hi, e⟩ := y7 c' hc' h3
      exact ⟨i, by omega, by rw [o (129 + i) (by omega) (by omega) (by omega)]; exact e⟩
  · have h8 := y8 c' hc'
    rw [o (45 + c') (by omega) (by omega) (by omega), o 145 (by omega) (by omega) (by omega), o (15 + c') (by omega) (by omega) (by omega), o (30 + c') (by omega) (by omega) (by omega)]
    by_cases e : c' = c
    · subst e
      rw [e6]
      exact ⟨by omega, h8.2⟩
    · rw [o c' (by omega) (by omega) e]
      exact h8
  · rw [o (60 + c') (by omega) (by omega) (by omega)]; exact y9 c' hc'
  · rw [o 145 (by omega) (by omega) (by omega)]; exact y10.1
  · have h1 := y10.2 q hq
    rw [o (147 + q) (by omega) (by omega) (by omega), o 145 (by omega) (by omega) (by omega)]
    refine ⟨h1.1, fun h2 => ⟨(h1.2 h2).1, ?_⟩⟩
    have h3 := (h1.2 h2).2
    have hne : Y (147 + q) - 1 ≠ c := fun e => by rw [e] at h3; omega
    rw [o (Y (147 + q) - 1) (by omega) (by omega) hne]; exact h3
  · rw [o (147 + q) (by omega) (by omega) (by omega)] at x1 x2
    rw [o (147 + q') (by omega) (by omega) (by omega)] at x2
    exact y11 q q' hq hq' x1 x2
  · rw [o 146 (by omega) (by omega) (by omega)]; exact y12.1
  · have ec : c' ≠ c := fun e => by subst e; omega
    rw [o (45 + c') (by omega) (by omega) (by omega)]
    rw [o c' (by omega) (by omega) ec] at h3
    exact y12.2 c' hc' h3
/-- room on a stack for a crate of the ship that is nowhere -/
theorem YO.room {k c : Nat} (h : YO n R Y) (hcnt : ∀ s, cntS R s (R 5) ≤ 5) (hk : k < 9) (hc : c < R 5) (hcs : R (22 + 5 * c) = k / 3) (hcp : Y c = 5) : Y (120 + k) ≤ 4 := by
  obtain ⟨y1, y2, -⟩ := h
  have h1 := y1 k hk
  have := cnt_inj (P := fun c => decide (R (22 + 5 * c) = k / 3)) (R 5) (Y (120 + k) + 1) (fun i => if i = Y (120 + k) then c else Y (75 + 5 * k + i) - 1) (fun i hi => ?_) (fun i i' hi hi' e => ?_)
  · rw [← cntS_P] at this
    have := hcnt (k / 3)
    omega
  · show (if i = Y (120 + k) then c else Y (75 + 5 * k + i) - 1) < R 5 ∧ decide (R (22 + 5 * (if i = Y (120 + k) then c else Y (75 + 5 * k + i) - 1)) = k / 3) = true
    split
    · exact ⟨hc, by simpa using hcs⟩
    · have h2 := h1.2.2 i (by omega)
      exact ⟨by omega, by simpa using h2.2.2.1⟩
  · have e : (if i = Y (120 + k) then c else Y (75 + 5 * k + i) - 1) = (if i' = Y (120 + k) then c else Y (75 + 5 * k + i') - 1) := e
    split at e <;> split at e
    · omega
    · have h2 := h1.2.2 i' (by omega)
      rw [← e] at h2; omega
    · have h2 := h1.2.2 i (by omega)
      rw [e] at h2; omega
    · have h2 := h1.2.2 i (by omega)
      have h3 := h1.2.2 i' (by omega)
      exact y2 k i i' hk (by omega) (by omega) (by omega)
theorem YO.qroom {c : Nat} (h : YO n R Y) (h5 : R 5 ≤ 15) (hc : c < R 5) (hcp : Y c = 5) : Y 144 ≤ 14 := by
  obtain ⟨-, -, -, -, y5, y6, -⟩ := h
  have := cnt_inj (P := fun _ => true) (R 5) (Y 144 + 1) (fun i => if i = Y 144 then c else Y (129 + i)) (fun i hi => ?_) (fun i i' hi hi' e => ?_)
  · have := cntP_le (fun _ => true) (R 5)
    omega
  · show (if i = Y 144 then c else Y (129 + i)) < R 5 ∧ true = true
    split
    · exact ⟨hc, rfl⟩
    · exact ⟨(y5.2 i (by omega)).1, rfl⟩
  · have e : (if i = Y 144 then c else Y (129 + i)) = (if i' = Y 144 then c else Y (129 + i')) := e
    split at e <;> split at e
    · omega
    · have h2 := y5.2 i' (by omega)
      rw [← e] at h2; omega
    · have h2 := y5.2 i (by omega)
      rw [e] at h2; omega
    · exact y6 i i' (by omega) (by omega) e
end
