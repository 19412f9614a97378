/-! SPECS: a yard becomes another; rows of the reference copied -/
/-- the places of the yards -/
def yA (a : Nat) : Prop := a = 62 ∨ ∃ i, i < 19 ∧ a = 92 + 9 * i
theorem yA_all {P : Nat → Prop} (h0 : P 62) (h1 : ∀ i, i < 19 → P (92 + 9 * i)) {a : Nat} (h : yA a) : P a := by
  rcases h with rfl | ⟨i, hi, rfl⟩
  · exact h0
  · exact h1 i hi
theorem SH_y {a : Nat} (h : yA a) : SH a = some (.inl 8) := yA_all (P := fun a => SH a = some (.inl 8)) rfl (by decide) h
def yN : List Nat := [0, 45, 9, 15, 15, 15, 15, 15, 15]
theorem SH_yr {a : Nat} (h : yA a) : ∀ i, i < 9 → 1 ≤ i → SH (a + i) = some (.inr (0, (yN[i]?).getD 0)) := by
  have h1 := yA_all (P := fun a => ∀ i, i < 8 → SH (a + (i + 1)) = some (.inr (0, (yN[i + 1]?).getD 0))) (by decide) (by decide) h
  intro i hi h0
  obtain ⟨q, rfl⟩ : ∃ q, i = q + 1 := ⟨i - 1, by omega⟩
  exact h1 q (by omega)
theorem RS_y {a : Nat} (h : yA a) : RS a 0 = some (a + 1) ∧ RS a 1 = some (a + 2) ∧ RS a 2 = some (a + 3) ∧ RS a 4 = some (a + 4) ∧ RS a 5 = some (a + 5) ∧ RS a 6 = some (a + 6) ∧ RS a 7 = some (a + 7) ∧ RS a 8 = some (a + 8) := by
  have hS := SH_y h
  refine ⟨?_, ?_, ?_, ?_, ?_, ?_, ?_, ?_⟩ <;> (unfold RS; rw [hS]; rfl)
theorem cpI_o {g : Gi} {a b sp dp m a' : Nat} (h : a' ≠ b) : cpI g a b sp dp m a' = g a' := by unfold cpI; rw [beq_ne h]; rfl
theorem cpI_s {g : Gi} {a b m k : Nat} (h : k < m) : cpI g a b 0 0 m b k = g a k := by
  unfold cpI
  rw [beq_same]
  show va_cpy (g a) (g b) 0 0 m k = _
  rw [pk_cpy_in (by omega) (by omega)]
  congr 1
  omega
/-- a0 has become what a1 is -/
def bec (g g' : Gi) (a0 a1 : Nat) : Prop := (∀ a k, ¬ (a0 ≤ a ∧ a < a0 + 9) → g' a k = g a k) ∧ (∀ i k, 1 ≤ i → i < 9 → k < (yN[i]?).getD 0 → g' (a0 + i) k = g (a1 + i) k) ∧ g' a0 3 = g a1 3 ∧ g' a0 9 = g a1 9 ∧ g' a0 10 = g a1 10
theorem bec.yx {g g' : Gi} {a0 a1 : Nat} {R Y : Nat → Nat} (h : bec g g' a0 a1) (hR : R 5 ≤ 15) (hQ : Y 144 ≤ 15) (hY : ∀ k, k < 9 → Y (120 + k) ≤ 5) (hx : Yx a1 R Y g) : Yx a0 R Y g' := by
  obtain ⟨h0, h1, h2, h3, h4⟩ := h
  obtain ⟨x1, x2, x3, x4, x5⟩ := hx
  refine ⟨⟨by rw [h2]; exact x1.1, by rw [h3]; exact x1.2.1, by rw [h4]; exact x1.2.2⟩, fun k hk => ⟨?_, fun i hi => ?_⟩, fun i hi => ?_, fun c hc => ?_, fun c hc => ?_⟩
  · rw [h1 2 k (by omega) (by omega) hk]; exact (x2 k hk).1
  · have := hY k hk
    rw [h1 1 _ (by omega) (by omega) (show 5 * k + i < 45 by omega)]; exact (x2 k hk).2 i hi
  · rw [h1 3 i (by omega) (by omega) (show i < 15 by omega)]; exact x3 i hi
  · rw [h1 6 c (by omega) (by omega) hc]; exact x4 c hc
  · have h15 : c < 15 := by omega
    rw [h1 4 c (by omega) (by omega) h15, h1 5 c (by omega) (by omega) h15, h1 7 c (by omega) (by omega) h15, h1 8 c (by omega) (by omega) h15]
    exact x5 c hc
section
variable {n p b d : Nat} {R Y : Nat → Nat} {r : Rr} {g : Gi} {j : Gl} {x x1 x2 x3 : Int32} {Q : QT}
theorem X_become {K : Rr → Gi → Gl → Prop} {a0 a1 : Nat} (y0 : yA a0) (y1 : yA a1) (hd : a0 + 9 ≤ a1 ∨ a1 + 9 ≤ a0) (h : ∀ g', bec g g' a0 a1 → K r g' j) : Cm (d + 1) 58 [.ref a0, .ref a1] r g j (rkV K) := by
  have s0 := SH_y y0
  have s1 := SH_y y1
  have r0 := RS_y y0
  have r1 := RS_y y1
  have t0 := SH_yr y0
  have t1 := SH_yr y1
  refine vX8_become_0 (OB_i s1 (RF_i (Or.inl r1.1) (OB_i s0 (RF_i (Or.inl r0.1) (OB_i s0 (RF_i (Or.inl r0.1) (AY_i (t0 1 (by decide) (by decide)) (AR_i (t1 1 (by decide) (by decide)) (AR_i (t0 1 (by decide) (by decide)) ⟨45, 0, 0, rfl, rfl, rfl, by decide, by decide, ?_⟩)))))))))
  refine OB_i s1 (RF_i (Or.inl r1.2.1) (OB_i s0 (RF_i (Or.inl r0.2.1) (OB_i s0 (RF_i (Or.inl r0.2.1) (AY_i (t0 2 (by decide) (by decide)) (AR_i (t1 2 (by decide) (by decide)) (AR_i (t0 2 (by decide) (by decide)) ⟨9, 0, 0, rfl, rfl, rfl, by decide, by decide, ?_⟩))))))))
  refine OB_i s1 (RF_i (Or.inl r1.2.2.1) (OB_i s0 (RF_i (Or.inl r0.2.2.1) (AR_i (t1 3 (by decide) (by decide)) (AR_i (t0 3 (by decide) (by decide)) ⟨15, 0, 0, rfl, rfl, rfl, by decide, by decide, ?_⟩)))))
  refine OB_i s1 (OB_i s0 ?_)
  refine OB_i s1 (RF_i (Or.inl r1.2.2.2.1) (OB_i s0 (RF_i (Or.inl r0.2.2.2.1) (AR_i (t1 4 (by decide) (by decide)) (AR_i (t0 4 (by decide) (by decide)) ⟨15, 0, 0, rfl, rfl, rfl, by decide, by decide, ?_⟩)))))
  refine OB_i s1 (RF_i (Or.inl r1.2.2.2.2.1) (OB_i s0 (RF_i (Or.inl r0.2.2.2.2.1) (AR_i (t1 5 (by decide) (by decide)) (AR_i (t0 5 (by decide) (by decide)) ⟨15, 0, 0, rfl, rfl, rfl, by decide, by decide, ?_⟩)))))
  refine OB_i s1 (RF_i (Or.inl r1.2.2.2.2.2.1) (OB_i s0 (RF_i (Or.inl r0.2.2.2.2.2.1) (AR_i (t1 6 (by decide) (by decide)) (AR_i (t0 6 (by decide) (by decide)) ⟨15, 0, 0, rfl, rfl, rfl, by decide, by decide, ?_⟩)))))
  refine OB_i s1 (RF_i (Or.inl r1.2.2.2.2.2.2.1) (OB_i s0 (RF_i (Or.inl r0.2.2.2.2.2.2.1) (AR_i (t1 7 (by decide) (by decide)) (AR_i (t0 7 (by decide) (by decide)) ⟨15, 0, 0, rfl, rfl, rfl, by decide, by decide, ?_⟩)))))
  refine OB_i s1 (RF_i (Or.inl r1.2.2.2.2.2.2.2) (OB_i s0 (RF_i (Or.inl r0.2.2.2.2.2.2.2) (AR_i (t1 8 (by decide) (by decide)) (AR_i (t0 8 (by decide) (by decide)) ⟨15, 0, 0, rfl, rfl, rfl, by decide, by decide, ?_⟩)))))
  refine OB_i s1 (OB_i s0 (OB_i s1 (OB_i s0 (h _ ?_))))
  refine ⟨fun a k hak => ?_, fun i k hi1 hi hk => ?_, ?_, ?_, ?_⟩
  · have : ∀ i, i < 9 → a ≠ a0 + i := fun i hi e => hak (by omega)
    have h00 : a ≠ a0 := fun e => hak (by omega)
    rw [uI_o h00, uI_o h00, cpI_o (this 8 (by decide)), cpI_o (this 7 (by decide)), cpI_o (this 6 (by decide)), cpI_o (this 5 (by decide)), cpI_o (this 4 (by decide)), uI_o h00, cpI_o (this 3 (by decide)), cpI_o (this 2 (by decide)), cpI_o (this 1 (by decide))]
  · have hc : i = 1 ∨ i = 2 ∨ i = 3 ∨ i = 4 ∨ i = 5 ∨ i = 6 ∨ i = 7 ∨ i = 8 := by omega
    rcases hc with rfl | rfl | rfl | rfl | rfl | rfl | rfl | rfl
    · have hk : k < 45 := hk
      simp (disch := omega) only [uI_o, cpI_o, cpI_s]
    · have hk : k < 9 := hk
      simp (disch := omega) only [uI_o, cpI_o, cpI_s]
    · have hk : k < 15 := hk
      simp (disch := omega) only [uI_o, cpI_o, cpI_s]
    · have hk : k < 15 := hk
      simp (disch := omega) only [uI_o, cpI_o, cpI_s]
    · have hk : k < 15 := hk
      simp (disch := omega) only [uI_o, cpI_o, cpI_s]
    · have hk : k < 15 := hk
      simp (disch := omega) only [uI_o, cpI_o, cpI_s]
    · have hk : k < 15 := hk
      simp (disch := omega) only [uI_o, cpI_o, cpI_s]
    · have hk : k < 15 := hk
      simp (disch := omega) only [uI_o, cpI_o, cpI_s]
  · simp (disch := omega) only [uI_n, uI_o, cpI_o, uI_s]
  · simp (disch := omega) only [uI_n, uI_o, cpI_o, uI_s]
  · simp (disch := omega) only [uI_n, uI_o, cpI_o, uI_s]
/-- copy(from, x, to, y, n): rows of the reference -/
def cpd (g g' : Gi) (a sp a2 dp m : Nat) : Prop := (∀ a' k, ¬ (a' = a2 ∧ dp ≤ k ∧ k < dp + m) → g' a' k = g a' k) ∧ ∀ k, k < m → g' a2 (dp + k) = g a (sp + k)
theorem M_copy {K : Rr → Gi → Gl → Prop} {a sp a2 dp m n0 n2 : Nat} (ha : SH a = some (.inr (0, n0))) (h2 : SH a2 = some (.inr (0, n2))) (hne : a ≠ a2) (hs : sp + m ≤ n0) (hd : dp + m ≤ n2) (h0 : n0 < 10000) (h02 : n2 < 10000) (h : ∀ g', cpd g g' a sp a2 dp m → K r g' j) : Cm d 146 [.ref a, .int (nI sp), .ref a2, .int (nI dp), .int (nI m)] r g j (rkV K) := by
  have loop : ∀ q i gg, i + q = m → cpd g gg a sp a2 dp i → G d 146 3 [(0, .ref a), (1, .int (nI sp)), (2, .ref a2), (3, .int (nI dp)), (4, .int (nI m)), (5, .int (nI i))] [] r gg j (rkV K) := by
    intro q
    induction q with
    | zero =>
      intro i gg hi hc
      have : i = m := by omega
      subst this
      exact vX10_copy_3 ⟨fun _ => h gg hc, fun a => absurd (Int32.le_refl _) a⟩
    | succ q ih =>
      intro i gg hi hc
      refine vX10_copy_3 ⟨fun a => absurd a (nI_ge (by omega) (by omega)), fun _ => AR_i ha (IX_e (q := sp + i) (nI_add sp i) (by omega) (AR_i h2 (IX_e (q := dp + i) (nI_add dp i) (by omega) ?_)))⟩
      rw [nI_add]
      refine ih (i + 1) _ (by omega) ⟨fun a' k hk => ?_, fun k hk => ?_⟩
      · rw [uI_d (by omega)]
        exact hc.1 a' k (by omega)
      · by_cases e : k = i
        · subst e
          rw [uI_s]
          exact hc.1 a _ (by omega)
        · rw [uI_n (by omega)]
          exact hc.2 k (by omega)
  exact vX10_copy_0 (loop m 0 g (by omega) ⟨fun _ _ _ => rfl, fun k hk => by omega⟩)
end
