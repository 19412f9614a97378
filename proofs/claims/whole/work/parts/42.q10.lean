/-! SPECS: missing, crate -/
section
variable {n p b d : Nat} {R Y : Nat → Nat} {r : Rr} {g : Gi} {j : Gl} {K : Int32 → Rr → Gi → Gl → Prop} {x x1 x2 x3 : Int32} {Q : QT}
/-- the greatest number that was had (among the first m crates) -/
def mxC (R Y : Nat → Nat) : Nat → Nat
  | 0 => 0
  | c + 1 => if Y c = 4 then (if mxC R Y c < R (23 + 5 * c) then R (23 + 5 * c) else mxC R Y c) else mxC R Y c
def mxD (R Y : Nat → Nat) : Nat → Nat
  | 0 => 0
  | k + 1 => if mxD R Y k < numHad R Y k then numHad R Y k else mxD R Y k
theorem mxC_s (R Y : Nat → Nat) : ∀ m, (∀ c, c < m → Y c = 4 → R (23 + 5 * c) ≤ mxC R Y m) ∧ (mxC R Y m = 0 ∨ ∃ c, c < m ∧ Y c = 4 ∧ R (23 + 5 * c) = mxC R Y m) := by
  intro m
  induction m with
  | zero => exact ⟨fun c h => by omega, Or.inl rfl⟩
  | succ m ih =>
    have e : mxC R Y (m + 1) = if Y m = 4 then (if mxC R Y m < R (23 + 5 * m) then R (23 + 5 * m) else mxC R Y m) else mxC R Y m := rfl
    rw [e]
    by_cases h4 : Y m = 4
    · rw [if_pos h4]
      by_cases hl : mxC R Y m < R (23 + 5 * m)
      · rw [if_pos hl]
        refine ⟨fun c hc h => ?_, Or.inr ⟨m, by omega, h4, rfl⟩⟩
        by_cases z : c = m
        · subst z; exact Nat.le_refl _
        · have := ih.1 c (by omega) h; omega
      · rw [if_neg hl]
        refine ⟨fun c hc h => ?_, ?_⟩
        · by_cases z : c = m
          · subst z; omega
          · exact ih.1 c (by omega) h
        · rcases ih.2 with z | ⟨c, h1, h2, h3⟩
          · exact Or.inl z
          · exact Or.inr ⟨c, by omega, h2, h3⟩
    · rw [if_neg h4]
      refine ⟨fun c hc h => ?_, ?_⟩
      · by_cases z : c = m
        · subst z; exact absurd h h4
        · exact ih.1 c (by omega) h
      · rcases ih.2 with z | ⟨c, h1, h2, h3⟩
        · exact Or.inl z
        · exact Or.inr ⟨c, by omega, h2, h3⟩
theorem mxD_s (R Y : Nat → Nat) : ∀ m, (∀ k, k < m → numHad R Y k ≤ mxD R Y m) ∧ (mxD R Y m = 0 ∨ ∃ k, k < m ∧ numHad R Y k = mxD R Y m) := by
  intro m
  induction m with
  | zero => exact ⟨fun c h => by omega, Or.inl rfl⟩
  | succ m ih =>
    have e : mxD R Y (m + 1) = if mxD R Y m < numHad R Y m then numHad R Y m else mxD R Y m := rfl
    rw [e]
    by_cases hl : mxD R Y m < numHad R Y m
    · rw [if_pos hl]
      refine ⟨fun c hc => ?_, Or.inr ⟨m, by omega, rfl⟩⟩
      by_cases z : c = m
      · subst z; exact Nat.le_refl _
      · have := ih.1 c (by omega); omega
    · rw [if_neg hl]
      refine ⟨fun c hc => ?_, ?_⟩
      · by_cases z : c = m
        · subst z; omega
        · exact ih.1 c (by omega)
      · rcases ih.2 with z | ⟨c, h1, h2⟩
        · exact Or.inl z
        · exact Or.inr ⟨c, by omega, h2⟩
theorem mx_eq (hV : Vw n p b R Y r g) : mxC R Y (R 5) = mxD R Y (Y 145) := by
  have h1 := mxC_s R Y (R 5)
  have h2 := mxD_s R Y (Y 145)
  have h145 := hV.yo.2.2.2.2.2.2.2.2.2.1
  apply Nat.le_antisymm
  · rcases h1.2 with z | ⟨c, c1, c2, c3⟩
    · omega
    · obtain ⟨k, k1, k2, -⟩ := (hV.yx.2.2.2.2 c c1).2.2.2.1 c2
      have := h2.1 k k1
      unfold numHad at this
      rw [if_neg (by omega), k2] at this
      simp only [Nat.add_sub_cancel] at this
      omega
  · rcases h2.2 with z | ⟨k, k1, k2⟩
    · omega
    · unfold numHad at k2
      split at k2
      · omega
      · have y1 := h145.2 k (by omega)
        have := h1.1 (Y (147 + k) - 1) (by omega) (y1.2 (by omega)).2
        omega
theorem mxC_le (hV : Vw n p b R Y r g) {m : Nat} (hm : m ≤ R 5) : mxC R Y m ≤ 99 := by
  rcases (mxC_s R Y m).2 with z | ⟨c, c1, c2, c3⟩
  · omega
  · have := hV.ro.2.2.2.2.1 c (by omega); omega
theorem mxD_le (hV : Vw n p b R Y r g) {m : Nat} (hm : m ≤ Y 145) : mxD R Y m ≤ 99 := by
  have h145 := hV.yo.2.2.2.2.2.2.2.2.2.1
  rcases (mxD_s R Y m).2 with z | ⟨c, c1, c2⟩
  · omega
  · have := numHad_le hV.ro hV.yo (show c < 99 by omega); omega
/-- the least number below M that wasn't had, among the first m crates -/
def msF (R Y : Nat → Nat) (M : Nat) : Nat → Option Nat
  | 0 => none
  | c + 1 => if Y c ≠ 4 ∧ R (23 + 5 * c) < M then (match msF R Y M c with
    | none => some (R (23 + 5 * c))
    | some v => if R (23 + 5 * c) < v then some (R (23 + 5 * c)) else some v) else msF R Y M c
theorem msF_lt {R Y : Nat → Nat} {M : Nat} : ∀ m v, msF R Y M m = some v → v < M := by
  intro m
  induction m with
  | zero => intro v h; cases h
  | succ m ih =>
    intro v h
    unfold msF at h
    split at h
    · rename_i hc
      cases hm : msF R Y M m with
      | none => rw [hm] at h; injection h with h; omega
      | some w =>
        rw [hm] at h
        have := ih w hm
        simp only at h
        split at h <;> injection h with h <;> omega
    · exact ih v h
def msV (o : Option Nat) : Int32 := match o with
  | none => -(nI 2)
  | some v => nI v
theorem X_ms2 (hV : Vw n p b R Y r g) {M : Nat} (hM : M ≤ 99) {g0 : Gi} (ha : Ag g0 g) : ∀ q c, c + q = R 5 → G (d + 1) 84 68 [(0, .ref 0), (1, .int (nI M)), (2, .int (nI ((msF R Y M c).getD M))), (3, .int (nI c))] [] r g j (rkI (EX (msV (msF R Y M (R 5))) (nI 0) r g0)) := by
  have h5 := hV.b5
  intro q
  induction q with
  | zero =>
    intro c hc
    have : c = R 5 := by omega
    subst this
    refine vX9_missing_68 ⟨p, hV.rp, OB_i (SH_p hV.hp) ⟨fun _ => ⟨fun e => vX9_missing_127 ?_, fun e => vX9_missing_127 ?_⟩, fun a => absurd (by rw [hV.px.1.2.2.2.2.2.1]; exact Int32.le_refl _) a⟩⟩
    · cases hm : msF R Y M (R 5) with
      | none => exact X_ans ha
      | some v =>
        rw [hm] at e
        have := msF_lt _ _ hm
        have e := le_n (by omega) (by show v < _; omega) e
        simp only [Option.getD_some] at e
        omega
    · cases hm : msF R Y M (R 5) with
      | none => rw [hm] at e; exact absurd (Int32.le_refl _) e
      | some v => exact X_ans ha
  | succ q ih =>
    intro c hc
    have hR := hV.ro.2.2.2.2.1 c (by omega)
    have hx := (hV.yx.2.2.2.2 c (by omega)).1
    have hy := (hV.yo.2.2.2.2.2.2.2.1 c (by omega)).1
    have hlt : (msF R Y M c).getD M ≤ 99 := by
      cases hm : msF R Y M c with
      | none => exact hM
      | some v => have := msF_lt _ _ hm; show v ≤ 99; omega
    have nxt := ih (c + 1) (by omega)
    have e1 : msF R Y M (c + 1) = if Y c ≠ 4 ∧ R (23 + 5 * c) < M then (match msF R Y M c with
      | none => some (R (23 + 5 * c))
      | some v => if R (23 + 5 * c) < v then some (R (23 + 5 * c)) else some v) else msF R Y M c := rfl
    refine vX9_missing_68 ⟨p, hV.rp, OB_i (SH_p hV.hp) ⟨fun a => absurd a (by rw [hV.px.1.2.2.2.2.2.1]; exact nI_ge (by omega) (by omega)), fun _ => IX_l (by omega) ⟨fun e => vX9_missing_109 ?_, fun e => ⟨p, hV.rp, crate_f hV.hp rfl (by omega) (vX9_missing_109 ?_)⟩⟩⟩⟩
    · rw [show g 66 c = _ from hx, nI_eq (by omega) (by decide)] at e
      rw [e1, if_neg (fun z => z.1 e)] at nxt
      rw [nI_add]; exact nxt
    · rw [show g 66 c = _ from hx, nI_eq (by omega) (by decide)] at e
      rw [(hV.px.2.2.1 c (by omega)).2.2.1, nI_add, nI_min (by omega) (by omega)]
      have e2 : (if R (23 + 5 * c) < (msF R Y M c).getD M then R (23 + 5 * c) else (msF R Y M c).getD M) = (msF R Y M (c + 1)).getD M := by
        have e3 := e1
        have hle : (msF R Y M c).getD M ≤ M := by
          cases hm : msF R Y M c with
          | none => exact Nat.le_refl _
          | some v => have := msF_lt _ _ hm; show v ≤ M; omega
        by_cases hc2 : R (23 + 5 * c) < M
        · rw [if_pos ⟨e, hc2⟩] at e3
          rw [e3]
          cases hm : msF R Y M c with
          | none => simp only [Option.getD_none, Option.getD_some]; rw [if_pos hc2]
          | some v =>
            simp only [Option.getD_some]
            by_cases hv : R (23 + 5 * c) < v
            · rw [if_pos hv, if_pos hv]; rfl
            · rw [if_neg hv, if_neg hv]; rfl
        · rw [if_neg (fun z => hc2 z.2)] at e3
          rw [e3, if_neg (by omega)]
      rw [e2]; exact nxt
theorem X_ms1 (hV : Vw n p b R Y r g) {g0 : Gi} (ha : Ag g0 g) : ∀ q c, c + q = R 5 → G (d + 1) 84 17 [(0, .ref 0), (1, .int (nI (mxC R Y c))), (2, .int (nI c))] [] r g j (rkI (EX (msV (msF R Y (mxC R Y (R 5)) (R 5))) (nI 0) r g0)) := by
  have h5 := hV.b5
  intro q
  induction q with
  | zero =>
    intro c hc
    have : c = R 5 := by omega
    subst this
    exact vX9_missing_17 ⟨p, hV.rp, OB_i (SH_p hV.hp) ⟨fun _ => X_ms2 hV (mxC_le hV (Nat.le_refl _)) ha (R 5) 0 (by omega), fun a => absurd (by rw [hV.px.1.2.2.2.2.2.1]; exact Int32.le_refl _) a⟩⟩
  | succ q ih =>
    intro c hc
    have hR := hV.ro.2.2.2.2.1 c (by omega)
    have hx := (hV.yx.2.2.2.2 c (by omega)).1
    have hy := (hV.yo.2.2.2.2.2.2.2.1 c (by omega)).1
    have hl := mxC_le hV (show c ≤ R 5 by omega)
    have nxt := ih (c + 1) (by omega)
    have e1 : mxC R Y (c + 1) = if Y c = 4 then (if mxC R Y c < R (23 + 5 * c) then R (23 + 5 * c) else mxC R Y c) else mxC R Y c := rfl
    rw [e1] at nxt
    refine vX9_missing_17 ⟨p, hV.rp, OB_i (SH_p hV.hp) ⟨fun a => absurd a (by rw [hV.px.1.2.2.2.2.2.1]; exact nI_ge (by omega) (by omega)), fun _ => IX_l (by omega) ⟨fun e => ⟨p, hV.rp, crate_f hV.hp rfl (by omega) (vX9_missing_58 ?_)⟩, fun e => vX9_missing_58 ?_⟩⟩⟩
    · rw [show g 66 c = _ from hx, nI_eq (by omega) (by decide)] at e
      rw [if_pos e] at nxt
      rw [(hV.px.2.2.1 c (by omega)).2.2.1, nI_add, nI_max (by omega) (by omega)]
      exact nxt
    · rw [show g 66 c = _ from hx, nI_eq (by omega) (by decide)] at e
      rw [if_neg e] at nxt
      rw [nI_add]; exact nxt
theorem M_ms2 (hV : Vw n p b R Y r g) {M : Nat} (hM : M ≤ 99) (h : K (msV (msF R Y M (R 5))) r g j) : ∀ q c, c + q = R 5 → G (d + 1) 194 63 [(0, .ref 263), (1, .int (nI M)), (2, .int (msV (msF R Y M c))), (3, .int (nI c))] [] r g j (rkI K) := by
  have h5 := hV.b5
  intro q
  induction q with
  | zero =>
    intro c hc
    have : c = R 5 := by omega
    subst this
    exact vX10_missing_63 (IX_l (by decide) ⟨fun _ => h, fun a => absurd (by rw [hV.mr (by decide)]; exact Int32.le_refl _) a⟩)
  | succ q ih =>
    intro c hc
    have hR := hV.ro.2.2.2.2.1 c (by omega)
    have hy := (hV.yo.2.2.2.2.2.2.2.1 c (by omega)).1
    have nxt := ih (c + 1) (by omega)
    have e1 : msF R Y M (c + 1) = if Y c ≠ 4 ∧ R (23 + 5 * c) < M then (match msF R Y M c with
      | none => some (R (23 + 5 * c))
      | some v => if R (23 + 5 * c) < v then some (R (23 + 5 * c)) else some v) else msF R Y M c := rfl
    rw [e1] at nxt
    have e2 : 21 + 5 * c + 2 = 23 + 5 * c := by omega
    have st : ∀ v, v = msV (msF R Y M (c + 1)) → G (d + 1) 194 116 [(0, .ref 263), (1, .int (nI M)), (2, .int v), (3, .int (nI c))] [] r g j (rkI K) := by
      intro v hv
      refine vX10_missing_116 ?_
      rw [hv, nI_add]
      exact ih (c + 1) (by omega)
    refine vX10_missing_63 (IX_l (by decide) ⟨fun a => absurd a (by rw [hV.mr (by decide)]; exact nI_ge (by omega) (by omega)), fun _ => IX_e (q := 0 + c) (nI_add 0 c) (by omega) ⟨fun e => st _ ?_, fun e => M_ofCrate hV (c := c) (w := 2) (by omega) (by decide) ?_⟩⟩)
    · rw [Nat.zero_add, hV.ms (by omega), nI_eq (by omega) (by decide)] at e
      rw [e1, if_neg (fun z => z.1 e)]
    · rw [Nat.zero_add, hV.ms (by omega), nI_eq (by omega) (by decide)] at e
      rw [e2]
      refine ⟨fun f => st _ ?_, fun f => ?_⟩
      · have f := le_n (by omega) (by omega) f
        rw [e1, if_neg (fun z => by have := z.2; omega)]
      · have f : R (23 + 5 * c) < M := by
          rcases Nat.lt_or_ge (R (23 + 5 * c)) M with z | z
          · exact z
          · exact absurd (nI_le z (by omega)) f
        have go109 : msV (msF R Y M (c + 1)) = nI (R (23 + 5 * c)) → G (d + 1) 194 109 [(0, .ref 263), (1, .int (nI M)), (3, .int (nI c))] [] r g j (rkI K) := by
          intro hv
          refine vX10_missing_109 (M_ofCrate hV (c := c) (w := 2) (by omega) (by decide) (st _ ?_))
          rw [e2, hv]
        cases hm : msF R Y M c with
        | none =>
          refine ⟨fun _ => go109 (by rw [e1, if_pos ⟨e, f⟩, hm]; rfl), fun z => absurd (by show (-(nI 2) : Int32) < 0; decide +kernel) z⟩
        | some v =>
          have hv := msF_lt _ _ hm
          refine ⟨fun z => absurd z (nlt_0 (by omega)), fun _ => M_ofCrate hV (c := c) (w := 2) (by omega) (by decide) ?_⟩
          rw [e2]
          refine ⟨fun z => st _ ?_, fun z => go109 ?_⟩
          · have z := le_n (by omega) (by omega) z
            rw [e1, if_pos ⟨e, f⟩, hm]
            simp only
            rw [if_neg (by omega)]
          · have z : ¬ (v ≤ R (23 + 5 * c)) := fun q => z (nI_le q (by omega))
            rw [e1, if_pos ⟨e, f⟩, hm]
            simp only
            rw [if_pos (by omega)]
            rfl
theorem M_ms1 (hV : Vw n p b R Y r g) (h : K (msV (msF R Y (mxD R Y (Y 145)) (R 5))) r g j) : ∀ q k, k + q = Y 145 → G (d + 2) 194 21 [(0, .ref 263), (1, .int (nI (mxD R Y k))), (2, .int (nI k))] [] r g j (rkI K) := by
  have h145 := hV.yo.2.2.2.2.2.2.2.2.2.1.1
  intro q
  induction q with
  | zero =>
    intro k hk
    have : k = Y 145 := by omega
    subst this
    exact vX10_missing_21 (IX_l (by decide) ⟨fun _ => M_ms2 hV (mxD_le hV (Nat.le_refl _)) h (R 5) 0 (by omega), fun a => absurd (by rw [hV.ms (by decide)]; exact Int32.le_refl _) a⟩)
  | succ q ih =>
    intro k hk
    have hl := mxD_le hV (show k ≤ Y 145 by omega)
    have h9 := numHad_le hV.ro hV.yo (show k < 99 by omega)
    have nxt := ih (k + 1) (by omega)
    have e1 : mxD R Y (k + 1) = if mxD R Y k < numHad R Y k then numHad R Y k else mxD R Y k := rfl
    rw [e1] at nxt
    refine vX10_missing_21 (IX_l (by decide) ⟨fun a => absurd a (by rw [hV.ms (by decide)]; exact nI_ge (by omega) (by omega)), fun _ => M_numberHad hV (by omega) ⟨fun e => vX10_missing_51 ?_, fun e => M_numberHad hV (by omega) (vX10_missing_51 ?_)⟩⟩)
    · have e := le_n (by omega) (by omega) e
      rw [if_neg (by omega)] at nxt
      rw [nI_add]; exact nxt
    · have e : ¬ (numHad R Y k ≤ mxD R Y k) := fun z => e (nI_le z (by omega))
      rw [if_pos (by omega)] at nxt
      rw [nI_add]; exact nxt
theorem q_missing : PQ n p b R Y r (d + 3) 84 194 [] := by
  by_cases hb : b = 0
  · refine ⟨-1, nI 1, e1, fun g j hV => ?_, fun g j hV => ?_⟩
    · exact vX9_missing_0 ⟨fun _ => X_ref Ag.rf, fun a => absurd (hV.tx0 hb) a⟩
    · exact vX10_missing_0 (M_good fun g2 ha ht h7 => ⟨fun _ => M_no ha h7, fun a => absurd ((hV.ag ha).tm0 hb) a⟩)
  · refine ⟨msV (msF R Y (mxC R Y (R 5)) (R 5)), nI 0, e0, fun g j hV => ?_, fun g j hV => ?_⟩
    · exact vX9_missing_0 ⟨fun a => absurd a (hV.tx1 hb), fun _ => X_ms1 hV Ag.rf (R 5) 0 (by omega)⟩
    · refine vX10_missing_0 (M_good fun g2 ha ht h7 => ⟨fun a => absurd a ((hV.ag ha).tm1 hb), fun _ => M_ms1 (hV.ag ha) ?_ (Y 145) 0 (by omega)⟩)
      rw [← mx_eq hV]
      exact ⟨rfl, rfl, ha, ht, h7⟩
/-- is a crate broken -/
theorem X_isBroken (hV : Vw n p b R Y r g) {c : Nat} (hc : c < R 5) (h : K (nI (Y (30 + c))) r g j) : Cm d 62 [.ref 62, .ref p, .int (nI c)] r g j (rkI K) := by
  have h5 := hV.b5
  have hR := hV.ro.2.2.2.2.1 c hc
  have hx := (hV.yx.2.2.2.2 c hc).2.1
  have hy := (hV.yo.2.2.2.2.2.2.2.1 c hc).2
  have hn := hV.nn
  rw [hy.2.1] at h
  refine vX8_isBroken_0 (crate_f hV.hp rfl (by omega) ?_)
  rw [(hV.px.2.2.1 c hc).1, nI_eq (by omega) (by decide)]
  refine ⟨fun e => IX_l (by omega) ?_, fun e => ⟨bo0, ?_⟩⟩
  · rw [show g 67 c = _ from hx]
    refine ⟨fun f => ⟨bo0, ?_⟩, fun f => ⟨bo1, ?_⟩⟩
    · have f := lt_n (by omega) (by decide) f
      rw [if_neg (by omega)] at h; exact h
    · have f : ¬ (Y (15 + c) < 2) := fun z => f (nI_lt z (by decide))
      rw [if_pos ⟨e, by omega⟩] at h; exact h
  · rw [if_neg (fun z => e z.1)] at h; exact h
def crV (R Y : Nat → Nat) (c w : Nat) : Nat := if w < 4 then R (21 + 5 * c + w) else if w = 4 then Y c else if w = 5 then Y (15 + c) else Y (30 + c)
theorem nIne {a c : Nat} (ha : a < 2 ^ 31) (hc : c < 2 ^ 31) (h : a ≠ c) : ¬ nI a = nI c := fun e => h ((nI_eq ha hc).mp e)
theorem q_crate (x1 x2 : Int32) (h5 : R 5 ≤ 15) : PQ n p b R Y r (d + 3) 77 181 [.int x1, .int x2] := by
  rcases in_or x1 (n := R 5) (by omega) with ⟨c, hc, rfl⟩ | ho
  · rcases in_or x2 (n := 7) (by decide) with ⟨w, hw, rfl⟩ | ho2
    · refine ⟨nI (crV R Y c w), nI 0, e0, fun g j hV => ?_, fun g j hV => ?_⟩
      · have hx := (hV.yx.2.2.2.2 c hc)
        have hp := hV.px.2.2.1 c hc
        have hS := SH_cr (c := c) hV.hp (by omega)
        refine vX9_crate_0 (X_noCrate hV (fun _ _ _ => ⟨fun _ => ⟨fun a => absurd a (nlt_0 (by omega)), fun _ => ⟨fun _ => ⟨p, hV.rp, crate_i hV.hp rfl (by omega) ?_⟩, fun a => absurd (nI_le (by omega) (by omega)) a⟩⟩, fun a => absurd n00 a⟩) (fun o => (o c hc rfl).elim))
        rw [hp.1, hp.2.1, hp.2.2.1, hp.2.2.2.1]
        have : w = 0 ∨ w = 1 ∨ w = 2 ∨ w = 3 ∨ w = 4 ∨ w = 5 ∨ w = 6 := by omega
        rcases this with rfl | rfl | rfl | rfl | rfl | rfl | rfl
        · exact ⟨fun _ => OB_i hS (X_ans Ag.rf), fun z => absurd rfl z⟩
        · refine ⟨fun z => absurd z (nIne (by decide) (by decide) (by decide)), fun _ => ⟨fun _ => OB_i hS ?_, fun z => absurd rfl z⟩⟩
          have e : R (22 + 5 * c) = crV R Y c 1 := by unfold crV; rw [if_pos (by decide)]; congr 1; omega
          rw [e]; exact X_ans Ag.rf
        · refine ⟨fun z => absurd z (nIne (by decide) (by decide) (by decide)), fun _ => ⟨fun z => absurd z (nIne (by decide) (by decide) (by decide)), fun _ => ⟨fun _ => OB_i hS ?_, fun z => absurd rfl z⟩⟩⟩
          have e : R (23 + 5 * c) = crV R Y c 2 := by unfold crV; rw [if_pos (by decide)]; congr 1; omega
          rw [e]; exact X_ans Ag.rf
        · refine ⟨fun z => absurd z (nIne (by decide) (by decide) (by decide)), fun _ => ⟨fun z => absurd z (nIne (by decide) (by decide) (by decide)), fun _ => ⟨fun z => absurd z (nIne (by decide) (by decide) (by decide)), fun _ => ⟨fun _ => OB_i hS ?_, fun z => absurd rfl z⟩⟩⟩⟩
          have e : R (24 + 5 * c) = crV R Y c 3 := by unfold crV; rw [if_pos (by decide)]; congr 1; omega
          rw [e]; exact X_ans Ag.rf
        · refine ⟨fun z => absurd z (nIne (by decide) (by decide) (by decide)), fun _ => ⟨fun z => absurd z (nIne (by decide) (by decide) (by decide)), fun _ => ⟨fun z => absurd z (nIne (by decide) (by decide) (by decide)), fun _ => ⟨fun z => absurd z (nIne (by decide) (by decide) (by decide)), fun _ => ⟨fun _ => IX_l (by omega) ?_, fun z => absurd rfl z⟩⟩⟩⟩⟩
          rw [show g 66 c = _ from hx.1]; exact X_ans Ag.rf
        · refine ⟨fun z => absurd z (nIne (by decide) (by decide) (by decide)), fun _ => ⟨fun z => absurd z (nIne (by decide) (by decide) (by decide)), fun _ => ⟨fun z => absurd z (nIne (by decide) (by decide) (by decide)), fun _ => ⟨fun z => absurd z (nIne (by decide) (by decide) (by decide)), fun _ => ⟨fun z => absurd z (nIne (by decide) (by decide) (by decide)), fun _ => ⟨fun _ => IX_l (by omega) ?_, fun z => absurd rfl z⟩⟩⟩⟩⟩⟩
          rw [show g 67 c = _ from hx.2.1]; exact X_ans Ag.rf
        · refine ⟨fun z => absurd z (nIne (by decide) (by decide) (by decide)), fun _ => ⟨fun z => absurd z (nIne (by decide) (by decide) (by decide)), fun _ => ⟨fun z => absurd z (nIne (by decide) (by decide) (by decide)), fun _ => ⟨fun z => absurd z (nIne (by decide) (by decide) (by decide)), fun _ => ⟨fun z => absurd z (nIne (by decide) (by decide) (by decide)), fun _ => ⟨fun z => absurd z (nIne (by decide) (by decide) (by decide)), fun _ => ⟨p, hV.rp, X_isBroken hV hc ⟨fun e => vX9_crate_157 ?_, fun e => vX9_crate_157 ?_⟩⟩⟩⟩⟩⟩⟩⟩
          · have hy := (hV.yo.2.2.2.2.2.2.2.1 c hc).2.2.1
            have h01 : Y (30 + c) ≤ 1 := by rw [hy]; split <;> omega
            rw [nI_z (by omega)] at e
            have e2 : crV R Y c 6 = 0 := e
            rw [e2]; exact X_ans Ag.rf
          · have hy := (hV.yo.2.2.2.2.2.2.2.1 c hc).2.2.1
            have h01 : Y (30 + c) ≤ 1 := by rw [hy]; split <;> omega
            rw [nI_z (by omega)] at e
            have e2 : crV R Y c 6 = 1 := by show Y (30 + c) = 1; omega
            rw [e2]; exact X_ans Ag.rf
      · refine vX10_crate_0 (M_good fun g2 ha ht h7 => M_isCrate (hV.ag ha) (fun _ _ _ => ⟨fun a => absurd a n10, fun _ => M_in 6 (by decide) (fun _ _ _ => ⟨fun a => absurd a n10, fun _ => ⟨fun f => ?_, fun f => ?_⟩⟩) (fun o => (o w hw rfl).elim)⟩) (fun o => (o c hc rfl).elim))
        · have hV2 := hV.ag ha
          have f := le_n (by decide) (by omega) f
          refine ⟨fun e => IX_e (q := 0 + c) (nI_add 0 c) (by omega) ?_, fun e => ⟨fun e2 => IX_e (q := 15 + c) (nI_add 15 c) (by omega) ?_, fun e2 => IX_e (q := 30 + c) (nI_add 30 c) (by omega) ?_⟩⟩
          · rw [nI_eq (by omega) (by decide)] at e
            subst e
            exact ⟨by rw [Nat.zero_add]; exact hV2.ms (by omega), rfl, ha, ht, h7⟩
          · rw [nI_eq (by omega) (by decide)] at e2
            subst e2
            exact ⟨hV2.ms (by omega), rfl, ha, ht, h7⟩
          · rw [nI_eq (by omega) (by decide)] at e e2
            have : w = 6 := by omega
            subst this
            exact ⟨hV2.ms (by omega), rfl, ha, ht, h7⟩
        · have f : w < 4 := by
            rcases Nat.lt_or_ge w 4 with z | z
            · exact z
            · exact absurd (nI_le z (by omega)) f
          refine M_ofCrate (hV.ag ha) (c := c) (w := w) (by omega) (by omega) ⟨?_, rfl, ha, ht, h7⟩
          unfold crV
          rw [if_pos f]
    · refine ⟨-1, nI 1, e1, fun g j hV => ?_, fun g j hV => ?_⟩
      · refine vX9_crate_0 (X_noCrate hV (fun _ _ _ => ⟨fun _ => ⟨fun _ => vX9_crate_18 (X_ref Ag.rf), fun a => ⟨fun f => ?_, fun _ => vX9_crate_18 (X_ref Ag.rf)⟩⟩, fun a => absurd n00 a⟩) (fun o => (o c hc rfl).elim))
        have h2 := out_c (by decide) ho2 a
        exfalso
        rw [Int32.le_iff_toInt_le, nI_toInt (by decide)] at f h2
        omega
      · exact vX10_crate_0 (M_good fun g2 ha ht h7 => M_isCrate (hV.ag ha) (fun _ _ _ => ⟨fun a => absurd a n10, fun _ => M_in 6 (by decide) (fun k hk e => (ho2 k (by omega) e).elim) (fun _ => ⟨fun _ => vX10_crate_22 (M_no ha h7), fun a => absurd n00 a⟩)⟩) (fun o => (o c hc rfl).elim))
  · refine ⟨-1, nI 1, e1, fun g j hV => ?_, fun g j hV => ?_⟩
    · exact vX9_crate_0 (X_noCrate hV (fun k hk e => (ho k hk e).elim) (fun _ => ⟨fun a => absurd a n10, fun _ => vX9_crate_18 (X_ref Ag.rf)⟩))
    · exact vX10_crate_0 (M_good fun g2 ha ht h7 => M_isCrate (hV.ag ha) (fun k hk e => (ho k hk e).elim) (fun _ => ⟨fun _ => vX10_crate_22 (M_no ha h7), fun a => absurd n00 a⟩))
end
