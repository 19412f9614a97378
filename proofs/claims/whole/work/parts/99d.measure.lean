/-! THE TEXT: Inland.measure -/
section
variable {d q : Nat} {F : Nat → Nat} {r : Rr} {g g' : Gi} {j : Gl}
theorem fw_col (k a : Nat) : fwF F (k + 1) a k = fwF F k a k := by rw [fw_s, fw_z, if_neg (by omega)]
theorem fw_row (k c : Nat) : fwF F (k + 1) k c = fwF F k k c := by rw [fw_s, fw_z, if_neg (by omega)]
theorem X_measure {K : Rr → Gi → Gl → Prop} (hp : q = 2 ∨ q = 30) (hB : RB F) (hx : Px q F g) (h : ∀ g', (∀ a c, a < 5 → c < 5 → g' (83 + a) c = nI (fwF F 5 a c)) → (∀ a k, ¬ (83 ≤ a ∧ a < 88) → g' a k = g a k) → K r g' j) : Cm (d + 1) 3 [.ref 81, .ref q] r g j (rkV K) := by
  have w9 : ∀ a c, a < 5 → c < 5 → wF F a c ≤ 9 := fun a c ha hc => (hB.2.2.2.2.2.2.1 a c ha hc).1
  have hM := fun k a c (ha : a < 5) (hc : c < 5) => fw_M w9 ha hc k
  have b3 : ∀ w k a c, c + w = 5 → a < 5 → k < 5 → (∀ g2, (∀ a k, ¬ (83 ≤ a ∧ a < 88) → g2 a k = g a k) → (∀ a' c', a' < 5 → c' < 5 → g2 (83 + a') c' = nI (if a' < a + 1 then fwF F (k + 1) a' c' else fwF F k a' c')) → G (d + 1) 3 74 [(0, .ref 81), (2, .int (nI k)), (3, .int (nI (a + 1)))] [] r g2 j (rkV K)) → ∀ g2, (∀ a k, ¬ (83 ≤ a ∧ a < 88) → g2 a k = g a k) → (∀ a' c', a' < 5 → c' < 5 → g2 (83 + a') c' = nI (if a' < a ∨ (a' = a ∧ c' < c) then fwF F (k + 1) a' c' else fwF F k a' c')) → G (d + 1) 3 82 [(0, .ref 81), (2, .int (nI k)), (3, .int (nI a)), (4, .int (nI c))] [] r g2 j (rkV K) := by
    intro w
    induction w with
    | zero =>
      intro k a c hc ha hk hK g2 o2 m2
      have : c = 5 := hc
      subst this
      refine vX1_measure_82 ⟨fun _ => ?_, fun y => absurd (Int32.le_refl _) y⟩
      rw [nI_add]
      refine hK g2 o2 (fun a' c' ha' hc' => ?_)
      rw [m2 a' c' ha' hc']
      by_cases z : a' < a + 1
      · rw [if_pos z, if_pos (by omega)]
      · rw [if_neg z, if_neg (by omega)]
    | succ w ih =>
      intro k a c hc ha hk hK g2 o2 m2
      have hc5 : c < 5 := by omega
      refine vX1_measure_82 ⟨fun y => by rw [nI_leI (by omega) (by omega)] at y; omega, fun _ => IX_l ha (RF_i (Or.inl (RS82 ha)) (IX_l ha (RF_i (Or.inl (RS82 ha)) (AR_i (SH83 ha) (IX_l hc5 (IX_l ha (RF_i (Or.inl (RS82 ha)) (AR_i (SH83 ha) (IX_l hk (IX_l hk (RF_i (Or.inl (RS82 hk)) (AR_i (SH83 hk) (IX_l hc5 (AR_i (SH83 ha) (IX_l hc5 ?_)))))))))))))))⟩
      have e1 : g2 (83 + a) k = nI (fwF F k a k) := by
        rw [m2 a k ha hk]; split
        · rw [fw_col]
        · rfl
      have e2 : g2 (83 + k) c = nI (fwF F k k c) := by
        rw [m2 k c hk hc5]; split
        · rw [fw_row]
        · rfl
      have e3 : g2 (83 + a) c = nI (fwF F k a c) := by rw [m2 a c ha hc5, if_neg (by omega)]
      have l1 := hM k a k ha hk
      have l2 := hM k k c hk hc5
      have l3 := hM k a c ha hc5
      have e4 : (if g2 (83 + a) k + g2 (83 + k) c < g2 (83 + a) c then g2 (83 + a) k + g2 (83 + k) c else g2 (83 + a) c) = nI (fwF F (k + 1) a c) := by
        rw [e1, e2, e3, nI_add, fw_s]
        by_cases z : fwF F k a k + fwF F k k c < fwF F k a c
        · rw [if_pos ((nI_ltI (by omega) (by omega)).mpr z), if_pos z]
        · rw [if_neg (fun y => z ((nI_ltI (by omega) (by omega)).mp y)), if_neg z]
      rw [e4, nI_add]
      refine ih k a (c + 1) (by omega) ha hk hK _ (fun a' k' z => by rw [uI_o (by omega)]; exact o2 a' k' z) (fun a' c' ha' hc' => ?_)
      by_cases z : a' = a ∧ c' = c
      · obtain ⟨rfl, rfl⟩ := z
        rw [uI_s, if_pos (by omega)]
      · rw [uI_d (by omega), m2 a' c' ha' hc']
        by_cases y : a' < a ∨ (a' = a ∧ c' < c)
        · rw [if_pos y, if_pos (by omega)]
        · rw [if_neg y, if_neg (by omega)]
  have b2 : ∀ w k a, a + w = 5 → k < 5 → (∀ g2, (∀ a k, ¬ (83 ≤ a ∧ a < 88) → g2 a k = g a k) → (∀ a' c', a' < 5 → c' < 5 → g2 (83 + a') c' = nI (fwF F (k + 1) a' c')) → G (d + 1) 3 67 [(0, .ref 81), (2, .int (nI (k + 1)))] [] r g2 j (rkV K)) → ∀ g2, (∀ a k, ¬ (83 ≤ a ∧ a < 88) → g2 a k = g a k) → (∀ a' c', a' < 5 → c' < 5 → g2 (83 + a') c' = nI (if a' < a then fwF F (k + 1) a' c' else fwF F k a' c')) → G (d + 1) 3 74 [(0, .ref 81), (2, .int (nI k)), (3, .int (nI a))] [] r g2 j (rkV K) := by
    intro w
    induction w with
    | zero =>
      intro k a hc hk hK g2 o2 m2
      have : a = 5 := hc
      subst this
      refine vX1_measure_74 ⟨fun _ => ?_, fun y => absurd (Int32.le_refl _) y⟩
      rw [nI_add]
      refine hK g2 o2 (fun a' c' ha' hc' => ?_)
      rw [m2 a' c' ha' hc', if_pos ha']
    | succ w ih =>
      intro k a hc hk hK g2 o2 m2
      refine vX1_measure_74 ⟨fun y => by rw [nI_leI (by omega) (by omega)] at y; omega, fun _ => b3 5 k a 0 (by omega) (by omega) hk (fun g3 o3 m3 => ih k (a + 1) (by omega) hk hK g3 o3 m3) g2 o2 (fun a' c' ha' hc' => ?_)⟩
      rw [m2 a' c' ha' hc']
      by_cases z : a' < a
      · rw [if_pos z, if_pos (by omega)]
      · rw [if_neg z, if_neg (by omega)]
  have b1 : ∀ w k, k + w = 5 → ∀ g2, (∀ a k, ¬ (83 ≤ a ∧ a < 88) → g2 a k = g a k) → (∀ a' c', a' < 5 → c' < 5 → g2 (83 + a') c' = nI (fwF F k a' c')) → G (d + 1) 3 67 [(0, .ref 81), (2, .int (nI k))] [] r g2 j (rkV K) := by
    intro w
    induction w with
    | zero =>
      intro k hk g2 o2 m2
      have : k = 5 := hk
      subst this
      exact vX1_measure_67 ⟨fun _ => h g2 m2 o2, fun y => absurd (Int32.le_refl _) y⟩
    | succ w ih =>
      intro k hk g2 o2 m2
      exact vX1_measure_67 ⟨fun y => by rw [nI_leI (by omega) (by omega)] at y; omega, fun _ => b2 5 k 0 (by omega) (by omega) (fun g3 o3 m3 => ih (k + 1) (by omega) g3 o3 m3) g2 o2 (fun a' c' ha' hc' => by rw [if_neg (by omega)]; exact m2 a' c' ha' hc')⟩
  have a2 : ∀ w a c, c + w = 5 → a < 5 → (∀ g2, (∀ a k, ¬ (83 ≤ a ∧ a < 88) → g2 a k = g a k) → (∀ a' c', a' < a + 1 → c' < 5 → g2 (83 + a') c' = nI (fwF F 0 a' c')) → G (d + 1) 3 2 [(0, .ref 81), (1, .ref q), (2, .int (nI (a + 1)))] [] r g2 j (rkV K)) → ∀ g2, (∀ a k, ¬ (83 ≤ a ∧ a < 88) → g2 a k = g a k) → (∀ a' c', a' < a ∨ (a' = a ∧ c' < c) → c' < 5 → g2 (83 + a') c' = nI (fwF F 0 a' c')) → G (d + 1) 3 9 [(0, .ref 81), (1, .ref q), (2, .int (nI a)), (3, .int (nI c))] [] r g2 j (rkV K) := by
    intro w
    induction w with
    | zero =>
      intro a c hc ha hK g2 o2 m2
      have : c = 5 := hc
      subst this
      refine vX1_measure_9 ⟨fun _ => ?_, fun y => absurd (Int32.le_refl _) y⟩
      rw [nI_add]
      exact hK g2 o2 (fun a' c' ha' hc' => m2 a' c' (by omega) hc')
    | succ w ih =>
      intro a c hc ha hK g2 o2 m2
      have hc5 : c < 5 := by omega
      have st : ∀ v, v = fwF F 0 a c → G (d + 1) 3 52 [(0, .ref 81), (1, .ref q), (2, .int (nI a)), (3, .int (nI c))] [.int (nI v), .int (nI c), .ref (83 + a)] r g2 j (rkV K) := by
        intro v hv
        refine vX1_measure_52 (AR_i (SH83 ha) (IX_l hc5 ?_))
        rw [nI_add]
        refine ih a (c + 1) (by omega) ha hK _ (fun a' k' z => by rw [uI_o (by omega)]; exact o2 a' k' z) (fun a' c' ha' hc' => ?_)
        by_cases z : a' = a ∧ c' = c
        · obtain ⟨rfl, rfl⟩ := z
          rw [uI_s, hv]
        · rw [uI_d (by omega)]; exact m2 a' c' (by omega) hc'
      have rv : g2 (q + 5 + a) c = nI (F (101 + 5 * a + c)) := by rw [o2 _ _ (by omega)]; exact hx.2.2.2.2 a c ha hc5
      have f0 : fwF F 0 a c = if a = c then 0 else if 0 < F (101 + 5 * a + c) then F (101 + 5 * a + c) else 1000000 := rfl
      have hb := w9 a c ha hc5
      refine vX1_measure_9 ⟨fun y => by rw [nI_leI (by omega) (by omega)] at y; omega, fun _ => road_i hp rfl rfl ha hc5 (IX_l ha (RF_i (Or.inl (RS82 ha)) ⟨fun y => st 0 ?_, fun y => ⟨fun y2 => st 1000000 ?_, fun y2 => ?_⟩⟩))⟩
      · rw [nI_eq (by omega) (by omega)] at y
        rw [f0, if_pos y]
      · rw [nI_eq (by omega) (by omega)] at y
        rw [rv] at y2
        have := le_n (a := F (101 + 5 * a + c)) (b := 0) (by have : F (101 + 5 * a + c) ≤ 9 := hb; omega) (by omega) (by rw [n00]; exact y2)
        rw [f0, if_neg y, if_neg (by omega)]
      · rw [nI_eq (by omega) (by omega)] at y
        rw [rv] at y2 ⊢
        refine st _ ?_
        rw [f0, if_neg y, if_pos]
        exact Nat.pos_of_ne_zero fun z => y2 (by rw [z, n00]; exact Int32.le_refl _)
  have a1 : ∀ w a, a + w = 5 → ∀ g2, (∀ a k, ¬ (83 ≤ a ∧ a < 88) → g2 a k = g a k) → (∀ a' c', a' < a → c' < 5 → g2 (83 + a') c' = nI (fwF F 0 a' c')) → G (d + 1) 3 2 [(0, .ref 81), (1, .ref q), (2, .int (nI a))] [] r g2 j (rkV K) := by
    intro w
    induction w with
    | zero =>
      intro a ha g2 o2 m2
      have : a = 5 := ha
      subst this
      exact vX1_measure_2 ⟨fun _ => b1 5 0 (by omega) g2 o2 (fun a' c' ha' hc' => m2 a' c' ha' hc'), fun y => absurd (Int32.le_refl _) y⟩
    | succ w ih =>
      intro a ha g2 o2 m2
      exact vX1_measure_2 ⟨fun y => by rw [nI_leI (by omega) (by omega)] at y; omega, fun _ => a2 5 a 0 (by omega) (by omega) (fun g3 o3 m3 => ih (a + 1) (by omega) g3 o3 m3) g2 o2 (fun a' c' z hc' => m2 a' c' (by omega) hc')⟩
  exact vX1_measure_0 (a1 5 0 (by omega) g (fun _ _ _ => rfl) (fun a' c' z => by omega))
end
