/-! ACTS: dawn, on both sides -/
section
variable {n p b d : Nat} {R Y Y' Z : Nat → Nat} {r : Rr} {g g' : Gi} {j : Gl} {K : Int32 → Rr → Gi → Gl → Prop}
theorem Yx.dy {y : Nat} (hx : Yx y R Y g) (h : YO n R Y) (h5 : R 5 ≤ 15) (c2 : g' y 9 = nI (Y 145 + 1)) (o : ∀ a q, ¬ (a = y ∧ q = 9) → g' a q = g a q) : Yx y R (dn R Y) g' := by
  have hq15 := h.q15
  obtain ⟨x1, x2, x3, x4, x5⟩ := hx
  refine ⟨⟨?_, ?_, ?_⟩, fun k' hk' => ⟨?_, fun i hi => ?_⟩, fun i hi => ?_, fun c' hc' => ?_, fun c' hc' => ?_⟩
  · rw [o y 3 (by omega), dn_o (by omega) (by omega)]; exact x1.1
  · rw [c2, dn_145 h5]
  · rw [o y 10 (by omega), dn_o (by omega) (by omega)]; exact x1.2.2
  · rw [o (y + 2) k' (by omega), dn_o (by omega) (by omega)]; exact (x2 k' hk').1
  · have := (h.1 k' hk').1
    rw [dn_o (by omega) (by omega)] at hi
    rw [o (y + 1) _ (by omega), dn_o (by omega) (by omega)]
    exact (x2 k' hk').2 i hi
  · rw [dn_o (by omega) (by omega)] at hi
    rw [o (y + 3) i (by omega), dn_o (by omega) (by omega)]; exact x3 i hi
  · rw [o (y + 6) c' (by omega), dn_o (by omega) (by omega)]; exact x4 c' hc'
  · obtain ⟨a1, a2, a3, a4, a5⟩ := x5 c' hc'
    have h45 := (h.2.2.2.2.2.2.2.1 c' hc').2.2.2
    rw [o (y + 4) c' (by omega), o (y + 5) c' (by omega), o (y + 7) c' (by omega), o (y + 8) c' (by omega), dn_145 h5, dn_45 hc' h5, dn_o (k := c') (by omega) (by omega), dn_o (k := 15 + c') (by omega) (by omega)]
    refine ⟨a1, a2, fun e => ?_, fun e => ?_, a5⟩
    · rw [if_pos e, a3 e]; congr 1; omega
    · obtain ⟨q, hq, h9, h10⟩ := a4 e
      clear a4 x5
      have := h.2.2.2.2.2.2.2.2.2.1.1
      exact ⟨q, by omega, by rw [dn_o (by omega) (by omega)]; exact h9, h10⟩
theorem Yx.dw {y i c : Nat} (hx : Yx y R Y g) (h : YO n R Y) (h5 : R 5 ≤ 15) (hi : i < Y 144) (hc : Y (129 + i) = c)
    (c1 : g' y 3 = nI (Y 144 - 1)) (c2 : g' y 9 = nI (Y 145 + 1)) (c3 : ∀ m, m < Y 144 - 1 → g' (y + 3) m = g (y + 3) (if m < i then m else m + 1)) (c4 : g' (y + 4) c = nI 4) (c5 : g' (y + 8) c = nI (Y 145))
    (o : ∀ a q, ¬ (a = y ∧ q = 9) → ¬ (a = y ∧ q = 3) → ¬ (a = y + 3) → ¬ (a = y + 4 ∧ q = c) → ¬ (a = y + 8 ∧ q = c) → g' a q = g a q) : Yx y R (dn R (hv Y i c)) g' := by
  have hq15 := h.q15
  have hd := h.2.2.2.2.2.2.2.2.2.1.1
  have hci := h.2.2.2.2.1.2 i hi
  rw [hc] at hci
  have t145 : hv Y i c 145 = Y 145 := hv_o (by omega) (by omega) (by omega) (by omega) hq15
  have t144 : hv Y i c 144 = Y 144 - 1 := by unfold hv; rw [if_neg (by omega), if_neg (by omega), if_neg (by omega), if_pos rfl]
  have hvc : hv Y i c c = 4 := by unfold hv; rw [if_neg (by omega), if_pos rfl]
  obtain ⟨x1, x2, x3, x4, x5⟩ := hx
  refine ⟨⟨?_, ?_, ?_⟩, fun k' hk' => ⟨?_, fun i hi => ?_⟩, fun m hm => ?_, fun c' hc' => ?_, fun c' hc' => ?_⟩
  · rw [c1, dn_o (by omega) (by omega), t144]
  · rw [c2, dn_145 h5, t145]
  · rw [o y 10 (by omega) (by omega) (by omega) (by omega) (by omega), dn_o (by omega) (by omega), hv_o (by omega) (by omega) (by omega) (by omega) hq15]; exact x1.2.2
  · rw [o (y + 2) k' (by omega) (by omega) (by omega) (by omega) (by omega), dn_o (by omega) (by omega), hv_o (by omega) (by omega) (by omega) (by omega) hq15]; exact (x2 k' hk').1
  · have := (h.1 k' hk').1
    rw [dn_o (by omega) (by omega), hv_o (by omega) (by omega) (by omega) (by omega) hq15] at hi
    rw [o (y + 1) _ (by omega) (by omega) (by omega) (by omega) (by omega), dn_o (by omega) (by omega), hv_o (by omega) (by omega) (by omega) (by omega) hq15]
    exact (x2 k' hk').2 i hi
  · rw [dn_o (by omega) (by omega), t144] at hm
    rw [c3 m hm, dn_o (by omega) (by omega)]
    by_cases e : m < i
    · rw [if_pos e, hv_o (by omega) (by omega) (by omega) (by omega) hq15]; exact x3 m (by omega)
    · rw [if_neg e, x3 (m + 1) (by omega)]
      unfold hv
      rw [if_neg (by omega), if_neg (by omega), if_pos (by omega)]
      rfl
  · rw [o (y + 6) c' (by omega) (by omega) (by omega) (by omega) (by omega), dn_o (by omega) (by omega), hv_o (by omega) (by omega) (by omega) (by omega) hq15]; exact x4 c' hc'
  · obtain ⟨a1, a2, a3, a4, a5⟩ := x5 c' hc'
    have h45 := (h.2.2.2.2.2.2.2.1 c' hc').2.2.2
    rw [o (y + 5) c' (by omega) (by omega) (by omega) (by omega) (by omega), o (y + 7) c' (by omega) (by omega) (by omega) (by omega) (by omega), dn_145 h5, dn_45 hc' h5, dn_o (k := c') (by omega) (by omega), dn_o (k := 15 + c') (by omega) (by omega), hv_o (k := 15 + c') (by omega) (by omega) (by omega) (by omega) hq15, t145]
    by_cases e : c' = c
    · subst e
      rw [hvc, c4, c5]
      refine ⟨rfl, a2, fun e => by omega, fun _ => ⟨Y 145, by omega, ?_, rfl⟩, fun e => absurd rfl e⟩
      rw [dn_o (by omega) (by omega)]; unfold hv; rw [if_pos rfl]
    · rw [hv_o (k := c') (by omega) e (by omega) (by omega) hq15, o (y + 4) c' (by omega) (by omega) (by omega) (by omega) (by omega), o (y + 8) c' (by omega) (by omega) (by omega) (by omega) (by omega), hv_o (k := 45 + c') (by omega) (by omega) (by omega) (by omega) hq15]
      refine ⟨a1, a2, fun e => ?_, fun e => ?_, a5⟩
      · rw [if_pos e, a3 e]; congr 1; omega
      · obtain ⟨q, hq, h9, h10⟩ := a4 e
        clear a4 x5
        exact ⟨q, by omega, by rw [dn_o (by omega) (by omega), hv_o (by omega) (by omega) (by omega) (by omega) hq15]; exact h9, h10⟩
/-- what a dawn makes of the row, and the number it tells -/
def dwY (R Y : Nat → Nat) (v : Int32) (Z : Nat → Nat) (m : Nat) : Prop := (∃ i, i < Y 144 ∧ v = nI i ∧ Z = dn R (hv Y i (Y (129 + i))) ∧ m = R (23 + 5 * Y (129 + i))) ∨ (v = -1 ∧ Z = dn R Y ∧ m = 0)
theorem dwY_ex {v : Int32} (h : dryF R Y 0 v) : ∃ Z m, dwY R Y v Z m := by
  rcases h with ⟨k, a1, a2, a3, a4, rfl⟩ | ⟨a1, rfl⟩
  · exact ⟨_, _, Or.inl ⟨k, a2, rfl, rfl, rfl⟩⟩
  · exact ⟨_, _, Or.inr ⟨rfl, rfl, rfl⟩⟩
theorem nI_m1 {k : Nat} (h : k < 2 ^ 31) : nI k ≠ -1 := fun e => by
  have := nI_pos h
  rw [e] at this
  exact this (by decide +kernel)
theorem X_breakDay {v : Int32} {m : Nat} (hV : Vw n p b R Y r g) (hv : dryF R Y 0 v) (hZ : dwY R Y v Z m) (hd : Y 145 ≤ 98)
    (h : ∀ g', Yx 62 R Z g' → (∀ a k, ¬ (62 ≤ a ∧ a < 71) → g' a k = g a k) → K (nI m) r g' j) : Cm (d + 1) 71 [.ref 62, .ref p] r g j (rkI K) := by
  have h5 := hV.b5
  have yo := hV.yo
  have hq := yo.q15
  have e629 : g 62 9 = nI (Y 145) := hV.yx.1.2.1
  have e623 : g 62 3 = nI (Y 144) := hV.yx.1.1
  refine vX8_breakDay_0 (X_firstDry hV fun w hw => ?_)
  have := dryF_u hv hw
  subst this
  rcases hZ with ⟨i, hi, rfl, rfl, rfl⟩ | ⟨rfl, rfl, rfl⟩
  · refine ⟨fun a => absurd a (nlt_0 (by omega)), fun _ => IX_l (by omega) ?_⟩
    have hci := yo.2.2.2.2.1.2 i hi
    have e65 : g 65 i = nI (Y (129 + i)) := hV.yx.2.2.1 i hi
    refine crate_f hV.hp e65 (by omega) (IX_e e65 (by omega) (IX_e e65 (by omega) ?_))
    rw [(hV.px.2.2.1 _ hci.1).2.2.1, e629, e623, pk_sub (by omega)]
    have loop : ∀ q m gg, m + q = Y 144 - 1 → i ≤ m → (∀ a k, a ≠ 65 → gg a k = (uI (uI (uI g 66 (Y (129 + i)) (nI 4)) 70 (Y (129 + i)) (nI (Y 145))) 62 3 (nI (Y 144 - 1))) a k) → (∀ k, k < Y 144 → gg 65 k = if i ≤ k ∧ k < m then g 65 (k + 1) else g 65 k) → G (d + 1) 71 63 [(0, .ref 62), (3, .int (nI (R (23 + 5 * Y (129 + i))))), (5, .int (nI m))] [] r gg j (rkI K) := by
      intro q
      induction q with
      | zero =>
        intro m gg hm him h1 h2
        have e3 : gg 62 3 = nI (Y 144 - 1) := by rw [h1 62 3 (by decide), uI_s]
        have e9 : gg 62 9 = nI (Y 145) := by rw [h1 62 9 (by decide), uI_n (by decide), uI_o (by decide), uI_o (by decide)]; exact e629
        refine vX8_breakDay_63 ⟨fun _ => vX8_breakDay_94 (h _ ?_ (fun a k ha => ?_)), fun a => absurd ?_ a⟩
        · refine hV.yx.dw yo h5 hi rfl ?_ ?_ (fun k hk => ?_) ?_ ?_ (fun a k k1 k2 k3 k4 k5 => ?_)
          · rw [uI_n (by decide)]; exact e3
          · rw [uI_s, e9, nI_add]
          · show (uI gg 62 9 _) 65 k = g 65 _
            rw [uI_o (by decide), h2 k (by omega)]
            by_cases e : k < i
            · rw [if_neg (by omega), if_pos e]
            · rw [if_pos (by omega), if_neg e]
          · show (uI gg 62 9 _) 66 _ = _
            rw [uI_o (by decide), h1 66 _ (by decide), uI_o (by decide), uI_o (by decide), uI_s]
          · show (uI gg 62 9 _) 70 _ = _
            rw [uI_o (by decide), h1 70 _ (by decide), uI_o (by decide), uI_s]
          · rw [uI_d k1, h1 a k k3, uI_d k2, uI_d k5, uI_d k4]
        · rw [uI_d (by omega), h1 a k (by omega), uI_d (by omega), uI_d (by omega), uI_d (by omega)]
        · rw [e3]; exact nI_le (by omega) (by omega)
      | succ q ih =>
        intro m gg hm him h1 h2
        have e3 : gg 62 3 = nI (Y 144 - 1) := by rw [h1 62 3 (by decide), uI_s]
        refine vX8_breakDay_63 ⟨fun a => ?_, fun _ => IX_e (q := m + 1) (nI_add m 1) (by omega) (IX_l (by omega) ?_)⟩
        · rw [e3] at a; exact absurd a (nI_ge (by omega) (by omega))
        · rw [nI_add]
          refine ih (m + 1) _ (by omega) (by omega) (fun a k ha => by rw [uI_o ha]; exact h1 a k ha) (fun k hk => ?_)
          by_cases e : k = m
          · subst e
            rw [uI_s, h2 (k + 1) (by omega), if_neg (by omega), if_pos (by omega)]
          · rw [uI_n e, h2 k hk]
            by_cases e2 : i ≤ k ∧ k < m
            · rw [if_pos e2, if_pos (by omega)]
            · rw [if_neg e2, if_neg (by omega)]
    exact loop (Y 144 - 1 - i) i _ (by omega) (Nat.le_refl _) (fun a k ha => rfl) (fun k hk => by rw [if_neg (by omega), uI_o (by decide), uI_o (by decide), uI_o (by decide)])
  · refine ⟨fun _ => vX8_breakDay_94 (h _ (hV.yx.dy yo h5 ?_ (fun a k hk => uI_d hk)) (fun a k ha => uI_d (by omega))), fun a => absurd (by decide +kernel) a⟩
    rw [uI_s, e629, nI_add]
/-- the crates on the quay see a dawn: the reference's loop -/
theorem M_dinc {m : Nat} (hM : Ms g Z) (h5 : R 5 ≤ 15) (hq : Z 144 ≤ 15) (hd : Z 145 ≤ 98) (q5 : ∀ i, i < Z 144 → Z (129 + i) < R 5 ∧ Z (Z (129 + i)) = 3) (q6 : ∀ i i', i < Z 144 → i' < Z 144 → Z (129 + i) = Z (129 + i') → i = i') (q7 : ∀ c, c < R 5 → Z c = 3 → ∃ i, i < Z 144 ∧ Z (129 + i) = c)
    (h : ∀ g', (∀ a k, a ≠ 268 → g' a k = g a k) → Ms g' (dn R Z) → K (nI m) r g' j) : G (d + 1) 245 158 [(0, .ref 263), (2, .int (nI m))] [] r g j (rkI K) := by
  have loop : ∀ q i gg, i + q = Z 144 → (∀ a k, a ≠ 268 → gg a k = g a k) → (∀ k, k < 246 → ¬ (45 ≤ k ∧ k < 60) → gg 268 k = nI (Z k)) → (∀ c, c < 15 → (∀ i', i' < i → Z (129 + i') ≠ c) → gg 268 (45 + c) = nI (Z (45 + c))) → (∀ i', i' < i → gg 268 (45 + Z (129 + i')) = nI (Z (45 + Z (129 + i')) + 1)) → G (d + 1) 245 160 [(0, .ref 263), (2, .int (nI m)), (3, .int (nI i))] [] r gg j (rkI K) := by
    intro q
    induction q with
    | zero =>
      intro i gg hi h1 h2 h3 h4
      have e144 := h2 144 (by decide) (by omega)
      have e145 := h2 145 (by decide) (by omega)
      refine vX10_dawn_160 (IX_l (by decide) ⟨fun _ => IX_l (by decide) (IX_l (by decide) (h _ (fun a k ha => by rw [uI_o ha]; exact h1 a k ha) (fun k hk => ?_))), fun a => absurd ?_ a⟩)
      · rw [e145, nI_add]
        by_cases e : k = 145
        · subst e; rw [uI_s, dn_145 h5]
        · rw [uI_n e]
          by_cases e2 : 45 ≤ k ∧ k < 45 + R 5
          · obtain ⟨c, rfl⟩ : ∃ c, k = 45 + c := ⟨k - 45, by omega⟩
            rw [dn_45 (by omega) h5]
            by_cases e3 : Z c = 3
            · obtain ⟨i', hi', e4⟩ := q7 c (by omega) e3
              rw [if_pos e3, ← e4]
              exact h4 i' (by omega)
            · rw [if_neg e3]
              refine h3 c (by omega) (fun i' hi' e4 => e3 ?_)
              rw [← e4]; exact (q5 i' (by omega)).2
          · rw [dn_o e2 e]
            by_cases e3 : 45 ≤ k ∧ k < 60
            · obtain ⟨c, rfl⟩ : ∃ c, k = 45 + c := ⟨k - 45, by omega⟩
              exact h3 c (by omega) (fun i' hi' e4 => by have := (q5 i' (by omega)).1; omega)
            · exact h2 k hk e3
      · rw [e144]; exact nI_le (by omega) (by omega)
    | succ q ih =>
      intro i gg hi h1 h2 h3 h4
      have e144 := h2 144 (by decide) (by omega)
      have hqi := q5 i (by omega)
      have ei := h2 (129 + i) (by omega) (by omega)
      have ev := h3 (Z (129 + i)) (by omega) (fun i' hi' e => by have := q6 i' i (by omega) (by omega) e; omega)
      have ek : nI 45 + gg 268 (129 + i) = nI (45 + Z (129 + i)) := by rw [ei, nI_add]
      refine vX10_dawn_160 (IX_l (by decide) ⟨fun a => ?_, fun _ => IX_e (q := 129 + i) (nI_add 129 i) (by omega) (IX_e ek (by omega) (IX_e ek (by omega) ?_))⟩)
      · rw [e144] at a; exact absurd a (nI_ge (by omega) (by omega))
      · rw [ev, nI_add, nI_add]
        refine ih (i + 1) _ (by omega) (fun a k ha => by rw [uI_o ha]; exact h1 a k ha) (fun k hk h => by rw [uI_n (by omega)]; exact h2 k hk h) (fun c hc h => ?_) (fun i' hi' => ?_)
        · have := h i (by omega)
          rw [uI_n (by omega)]; exact h3 c hc (fun i' hi' => h i' (by omega))
        · by_cases e : i' = i
          · subst e; rw [uI_s]
          · have hne : Z (129 + i') ≠ Z (129 + i) := fun e2 => e (q6 i' i (by omega) (by omega) e2)
            rw [uI_n (by omega)]; exact h4 i' (by omega)
  exact vX10_dawn_158 (loop (Z 144) 0 g (by omega) (fun _ _ _ => rfl) (fun k hk _ => hM k hk) (fun c hc _ => hM _ (by omega)) (fun i' hi' => by omega))
end
