/-! SPECS: queries of NOW: lies, quay, had, hadOn, evenings -/
def numHad (R Y : Nat → Nat) (k : Nat) : Nat := if Y (147 + k) = 0 then 0 else R (23 + 5 * (Y (147 + k) - 1))
section
variable {n p b d : Nat} {R Y : Nat → Nat} {r : Rr} {g : Gi} {j : Gl} {K : Int32 → Rr → Gi → Gl → Prop} {x x1 x2 : Int32} {Q : QT}
theorem M_ofCrate (hV : Vw n p b R Y r g) {c w : Nat} (hc : c < 15) (hw : w < 5) (h : K (nI (R (21 + 5 * c + w))) r g j) : Cm d 179 [.ref 263, .int (nI c), .int (nI w)] r g j (rkI K) := by
  refine vX10_ofCrate_0 (IX_e (q := 21 + 5 * c + w) (by rw [pk_mul, nI_add, nI_add]) (by omega) ?_)
  show K (g 266 (21 + 5 * c + w)) r g j
  rw [hV.mr (by omega)]; exact h
theorem M_ofShip (hV : Vw n p b R Y r g) {s w : Nat} (hs : s < 3) (hw : w < 4) (h : K (nI (R (9 + 4 * s + w))) r g j) : Cm d 180 [.ref 263, .int (nI s), .int (nI w)] r g j (rkI K) := by
  refine vX10_ofShip_0 (IX_e (q := 9 + 4 * s + w) (by rw [pk_mul, nI_add, nI_add]) (by omega) ?_)
  show K (g 266 (9 + 4 * s + w)) r g j
  rw [hV.mr (by omega)]; exact h
theorem M_highOf (hV : Vw n p b R Y r g) {k t : Nat} (hk : k < 3) (ht : t < 3) (h : K (nI (Y (120 + (3 * k + t)))) r g j) : Cm d 183 [.ref 263, .int (nI k), .int (nI t)] r g j (rkI K) := by
  refine vX10_highOf_0 (IX_e (q := 120 + (3 * k + t)) (by rw [pk_mul, nI_add, nI_add, Nat.add_assoc]) (by omega) ?_)
  show K (g 268 _) r g j
  rw [hV.ms (by omega)]; exact h
theorem M_lyingAt (hV : Vw n p b R Y r g) {k t i : Nat} (hk : k < 3) (ht : t < 3) (hi : i < Y (120 + (3 * k + t))) (h : K (nI (Y (75 + 5 * (3 * k + t) + i) - 1)) r g j) : Cm d 184 [.ref 263, .int (nI k), .int (nI t), .int (nI i)] r g j (rkI K) := by
  have hy := hV.yo.1 (3 * k + t) (by omega)
  refine vX10_lyingAt_0 (IX_e (q := 75 + 5 * (3 * k + t) + i) (by rw [pk_mul, nI_add, pk_mul, nI_add, nI_add]) (by omega) ?_)
  show K (g 268 _ - nI 1) r g j
  rw [hV.ms (by omega), pk_sub (hy.2.2 i hi).1]; exact h
theorem X_height (hV : Vw n p b R Y r g) {k t : Nat} (hk : k < 3) (ht : t < 3) (h : K (nI (Y (120 + (3 * k + t)))) r g j) : Cm d 59 [.ref 62, .int (nI k), .int (nI t)] r g j (rkI K) := by
  refine vX8_height_0 (IX_e (q := 3 * k + t) (by rw [pk_mul, nI_add]; congr 1; omega) (by omega) ?_)
  show K (g 64 _) r g j
  have e := (hV.yx.2.1 (3 * k + t) (by omega)).1
  rw [show g 64 (3 * k + t) = _ from e]; exact h
theorem X_crateAt (hV : Vw n p b R Y r g) {k t i : Nat} (hk : k < 3) (ht : t < 3) (hi : i < Y (120 + (3 * k + t))) (h : K (nI (Y (75 + 5 * (3 * k + t) + i) - 1)) r g j) : Cm d 60 [.ref 62, .int (nI k), .int (nI t), .int (nI i)] r g j (rkI K) := by
  have hy := hV.yo.1 (3 * k + t) (by omega)
  refine vX8_crateAt_0 (IX_e (q := 5 * (3 * k + t) + i) (by rw [pk_mul, nI_add, pk_mul, nI_add]; congr 1; omega) (by omega) ?_)
  show K (g 63 _) r g j
  have e := (hV.yx.2.1 (3 * k + t) (by omega)).2 i hi
  rw [show g 63 (5 * (3 * k + t) + i) = _ from e]; exact h
theorem q_lies (x1 x2 x3 : Int32) (h4 : R 4 ≤ 3) (hY : ∀ k, k < 9 → Y (120 + k) ≤ 5) : PQ n p b R Y r (d + 3) 79 186 [.int x1, .int x2, .int x3] := by
  by_cases hv : ∃ k t i, k < R 4 ∧ t < 3 ∧ i < Y (120 + (3 * k + t)) ∧ x1 = nI k ∧ x2 = nI t ∧ x3 = nI i
  · obtain ⟨k, t, i, hk, ht, hi, rfl, rfl, rfl⟩ := hv
    have h5 := hY (3 * k + t) (by omega)
    refine ⟨nI (Y (75 + 5 * (3 * k + t) + i) - 1), nI 0, e0, fun g j hV => ?_, fun g j hV => ?_⟩
    · refine vX9_lies_0 (X_noStack hV (fun k' t' _ _ _ _ => ⟨fun _ => ⟨fun a => absurd a (nlt_0 (by omega)), fun _ => X_height hV (by omega) ht ⟨fun _ => X_crateAt hV (by omega) ht hi (X_ans Ag.rf), fun a => absurd (nI_lt hi (by omega)) a⟩⟩, fun a => absurd n00 a⟩) (fun o => (o.elim (fun o => o k hk rfl) (fun o => o t ht rfl)).elim))
    · refine vX10_lies_0 (M_good fun g2 ha ht2 h7 => M_isStack (hV.ag ha) (fun k' t' _ _ _ _ => ⟨fun a => absurd a n10, fun _ => M_highOf (hV.ag ha) (by omega) ht (sM_in (by omega) (fun q hq e => ⟨fun a => absurd a n10, fun _ => M_lyingAt (hV.ag ha) (by omega) ht hi ⟨rfl, rfl, ha, ht2, h7⟩⟩) (fun o => (o i hi rfl).elim))⟩) (fun o => (o.elim (fun o => o k hk rfl) (fun o => o t ht rfl)).elim))
  · refine ⟨-1, nI 1, e1, fun g j hV => ?_, fun g j hV => ?_⟩
    · refine vX9_lies_0 (X_noStack hV (fun k t hk ht e1 e2 => ⟨fun _ => ⟨fun _ => vX9_lies_26 (X_ref Ag.rf), fun a0 => ?_⟩, fun a => absurd n00 a⟩) (fun o => ⟨fun a => absurd a n10, fun _ => vX9_lies_26 (X_ref Ag.rf)⟩))
      subst e1; subst e2
      have h5 := hY (3 * k + t) (by omega)
      have ho : out x3 (Y (120 + (3 * k + t))) := fun i hi e3 => hv ⟨k, t, i, hk, ht, hi, rfl, rfl, e3⟩
      exact X_height hV (by omega) ht ⟨fun a => absurd a (out_nlt (by omega) ho a0), fun _ => vX9_lies_26 (X_ref Ag.rf)⟩
    · refine vX10_lies_0 (M_good fun g2 ha ht2 h7 => M_isStack (hV.ag ha) (fun k t hk ht e1 e2 => ⟨fun a => absurd a n10, fun _ => ?_⟩) (fun o => ⟨fun _ => vX10_lies_39 (M_no ha h7), fun a => absurd n00 a⟩))
      subst e1; subst e2
      have h5 := hY (3 * k + t) (by omega)
      exact M_highOf (hV.ag ha) (by omega) ht (sM_in (by omega) (fun i hi e3 => absurd ⟨k, t, i, hk, ht, hi, rfl, rfl, e3⟩ hv) (fun o => ⟨fun _ => vX10_lies_39 (M_no ha h7), fun a => absurd n00 a⟩))
theorem q_quay (x1 : Int32) (hq : Y 144 ≤ 15) (hb : b = 0 → Y 144 = 0) : PQ n p b R Y r (d + 3) 80 187 [.int x1] := by
  by_cases hv : ∃ i, i < Y 144 ∧ x1 = nI i
  · obtain ⟨i, hi, rfl⟩ := hv
    refine ⟨nI (Y (129 + i)), nI 0, e0, fun g j hV => ?_, fun g j hV => ?_⟩
    · have hb1 : b = 1 := by rcases hV.b01 with h | h
                             · have := hb h; omega
                             · exact h
      refine vX9_quay_0 ⟨fun a => absurd (by rw [hV.tx, hb1] at a; exact a) n10, fun _ => ⟨fun a => absurd a (nlt_0 (by omega)), fun _ => ⟨fun _ => IX_l (by omega) ?_, fun a => absurd ?_ a⟩⟩⟩
      · have e := hV.yx.2.2.1 i hi
        rw [show g 65 i = _ from e]
        exact X_ans Ag.rf
      · have e := hV.yx.1.1
        rw [e]; exact nI_lt hi (by omega)
    · have hb1 : b = 1 := by rcases hV.b01 with h | h
                             · have := hb h; omega
                             · exact h
      refine vX10_quay_0 (M_good fun g2 ha ht2 h7 => ⟨fun a => absurd (by rw [(hV.ag ha).tm, hb1] at a; exact a) n10, fun _ => IX_l (by decide) ?_⟩)
      rw [(hV.ag ha).ms (by decide)]
      refine sM_in (by omega) (fun q hq2 e => ⟨fun a => absurd a n10, fun _ => IX_e (q := 129 + i) (nI_add 129 i) (by omega) ?_⟩) (fun o => (o i hi rfl).elim)
      exact ⟨(hV.ag ha).ms (by omega), rfl, ha, ht2, h7⟩
  · have ho : out x1 (Y 144) := fun i hi e => hv ⟨i, hi, e⟩
    refine ⟨-1, nI 1, e1, fun g j hV => ?_, fun g j hV => ?_⟩
    · refine vX9_quay_0 ⟨fun _ => vX9_quay_22 (X_ref Ag.rf), fun _ => ⟨fun _ => vX9_quay_22 (X_ref Ag.rf), fun a0 => ⟨fun a => absurd a ?_, fun _ => vX9_quay_22 (X_ref Ag.rf)⟩⟩⟩
      have e := hV.yx.1.1
      rw [e]; exact out_nlt (by omega) ho a0
    · refine vX10_quay_0 (M_good fun g2 ha ht2 h7 => ⟨fun _ => vX10_quay_42 (M_no ha h7), fun _ => IX_l (by decide) ?_⟩)
      rw [(hV.ag ha).ms (by decide)]
      exact sM_in (by omega) (fun q hq2 e => (ho q hq2 e).elim) (fun o => ⟨fun _ => vX10_quay_42 (M_no ha h7), fun a => absurd n00 a⟩)
theorem nI_z {a : Nat} (h : a < 2 ^ 31) : nI a = 0 ↔ a = 0 := by
  rw [← nI_0]; exact nI_eq h (by decide)
/-- numberHad(day) of the reference -/
theorem M_numberHad (hV : Vw n p b R Y r g) {k : Nat} (hk : k < 99) (h : K (nI (numHad R Y k)) r g j) : Cm (d + 1) 190 [.ref 263, .int (nI k)] r g j (rkI K) := by
  have hy := hV.yo.2.2.2.2.2.2.2.2.2.1.2 k hk
  have h5 := hV.b5
  refine vX10_numberHad_0 (IX_e (q := 147 + k) (nI_add 147 k) (by omega) ⟨fun a => ?_, fun a => IX_e (q := 147 + k) (nI_add 147 k) (by omega) ?_⟩)
  · rw [hV.ms (by omega), nI_z (by omega)] at a
    unfold numHad at h
    rw [if_pos a] at h
    exact h
  · rw [hV.ms (by omega), nI_z (by omega)] at a
    rw [hV.ms (by omega), pk_sub (by omega)]
    unfold numHad at h
    rw [if_neg a] at h
    refine M_ofCrate hV (c := Y (147 + k) - 1) (w := 2) (by omega) (by decide) ?_
    rw [show 21 + 5 * (Y (147 + k) - 1) + 2 = 23 + 5 * (Y (147 + k) - 1) by omega]
    exact h
/-- the class's hadDay of a crate -/
theorem X_hadDay (hV : Vw n p b R Y r g) {c k : Nat} (hc : c < R 5) (hk : k < 99) : g 70 c = nI k ↔ Y (147 + k) = c + 1 := by
  have hx := hV.yx.2.2.2.2 c hc
  have hyo := hV.yo
  have h145 := hyo.2.2.2.2.2.2.2.2.2.1.1
  by_cases h4 : Y c = 4
  · obtain ⟨d', hd', e1, e2⟩ := hx.2.2.2.1 h4
    rw [show g 70 c = _ from e2, nI_eq (by omega) (by omega)]
    constructor
    · intro e; rw [← e]; exact e1
    · intro e
      exact hyo.2.2.2.2.2.2.2.2.2.2.1 d' k (by omega) hk (by omega) (by omega)
  · rw [show g 70 c = _ from hx.2.2.2.2 h4]
    constructor
    · intro e
      exfalso
      have h1 : (-(nI 2) : Int32) < 0 := by decide +kernel
      rw [e] at h1
      exact nI_pos (by omega) h1
    · intro e
      exfalso
      have := (hyo.2.2.2.2.2.2.2.2.2.1.2 k hk).2 (by omega)
      rw [e] at this
      exact h4 this.2
theorem X_nho {k : Nat} (hV : Vw n p b R Y r g) (hk : k < 99) : ∀ m c, c + m = R 5 → (∀ c', c ≤ c' → c' < R 5 → Y (147 + k) = c' + 1 → rkI K (some (.int (nI (R (23 + 5 * c'))))) r g j) → ((∀ c', c ≤ c' → c' < R 5 → Y (147 + k) ≠ c' + 1) → rkI K (some (.int (nI 0))) r g j) → G d 67 2 [(0, .ref 62), (1, .ref p), (2, .int (nI k)), (3, .int (nI c))] [] r g j (rkI K) := by
  have h5 := hV.b5
  intro m
  induction m with
  | zero =>
    intro c hc h1 h2
    refine vX8_numberHadOn_2 (OB_i (SH_p hV.hp) ⟨fun _ => h2 (fun c' _ _ => by omega), fun a => absurd ?_ a⟩)
    rw [hV.px.1.2.2.2.2.2.1]; exact nI_le (by omega) (by omega)
  | succ m ih =>
    intro c hc h1 h2
    refine vX8_numberHadOn_2 (OB_i (SH_p hV.hp) ⟨fun a => absurd a ?_, fun _ => IX_l (by omega) ⟨fun a => crate_f hV.hp rfl (by omega) ?_, fun a => ?_⟩⟩)
    · rw [hV.px.1.2.2.2.2.2.1]; exact nI_ge (by omega) (by omega)
    · rw [(hV.px.2.2.1 c (by omega)).2.2.1]
      exact h1 c (Nat.le_refl _) (by omega) ((X_hadDay hV (by omega) hk).mp a)
    · rw [nI_add]
      have hne : Y (147 + k) ≠ c + 1 := fun e => a ((X_hadDay hV (by omega) hk).mpr e)
      refine ih (c + 1) (by omega) (fun c' h3 h4 e => h1 c' (by omega) h4 e) (fun h3 => h2 (fun c' h4 h5 => ?_))
      by_cases e : c' = c
      · subst e; exact hne
      · exact h3 c' (by omega) h5
theorem X_numberHadOn {k : Nat} (hV : Vw n p b R Y r g) (hk : k < 99) (h : K (nI (numHad R Y k)) r g j) : Cm d 67 [.ref 62, .ref p, .int (nI k)] r g j (rkI K) := by
  have hy := hV.yo.2.2.2.2.2.2.2.2.2.1.2 k hk
  refine vX8_numberHadOn_0 (X_nho hV hk (R 5) 0 (by omega) (fun c' _ h1 e => ?_) (fun h1 => ?_))
  · unfold numHad at h
    rw [if_neg (by omega), e] at h
    exact h
  · unfold numHad at h
    have : Y (147 + k) = 0 := by
      rcases Nat.eq_zero_or_pos (Y (147 + k)) with e | e
      · exact e
      · exact absurd (show Y (147 + k) = Y (147 + k) - 1 + 1 by omega) (h1 _ (by omega) (by omega))
    rw [if_pos this] at h
    exact h
theorem q_had (x1 : Int32) (hq : Y 145 ≤ 99) (hb : b = 0 → Y 145 = 0) : PQ n p b R Y r (d + 3) 82 191 [.int x1] := by
  by_cases hv : ∃ i, i < Y 145 ∧ x1 = nI i
  · obtain ⟨i, hi, rfl⟩ := hv
    refine ⟨nI (numHad R Y i), nI 0, e0, fun g j hV => ?_, fun g j hV => ?_⟩
    · have hb1 : b = 1 := by rcases hV.b01 with h | h
                             · have := hb h; omega
                             · exact h
      refine vX9_had_0 ⟨fun a => absurd (by rw [hV.tx, hb1] at a; exact a) n10, fun _ => ⟨fun a => absurd a (nlt_0 (by omega)), fun _ => ⟨fun _ => ⟨p, hV.rp, X_numberHadOn hV (by omega) (X_ans Ag.rf)⟩, fun a => absurd ?_ a⟩⟩⟩
      rw [hV.yx.1.2.1]; exact nI_lt hi (by omega)
    · have hb1 : b = 1 := by rcases hV.b01 with h | h
                             · have := hb h; omega
                             · exact h
      refine vX10_had_0 (M_good fun g2 ha ht2 h7 => ⟨fun a => absurd (by rw [(hV.ag ha).tm, hb1] at a; exact a) n10, fun _ => IX_l (by decide) ?_⟩)
      rw [(hV.ag ha).ms (by decide)]
      exact sM_in (by omega) (fun q hq2 e => ⟨fun a => absurd a n10, fun _ => M_numberHad (hV.ag ha) (by omega) ⟨rfl, rfl, ha, ht2, h7⟩⟩) (fun o => (o i hi rfl).elim)
  · have ho : out x1 (Y 145) := fun i hi e => hv ⟨i, hi, e⟩
    refine ⟨-1, nI 1, e1, fun g j hV => ?_, fun g j hV => ?_⟩
    · refine vX9_had_0 ⟨fun _ => vX9_had_22 (X_ref Ag.rf), fun _ => ⟨fun _ => vX9_had_22 (X_ref Ag.rf), fun a0 => ⟨fun a => absurd a ?_, fun _ => vX9_had_22 (X_ref Ag.rf)⟩⟩⟩
      rw [hV.yx.1.2.1]; exact out_nlt (by omega) ho a0
    · refine vX10_had_0 (M_good fun g2 ha ht2 h7 => ⟨fun _ => vX10_had_37 (M_no ha h7), fun _ => IX_l (by decide) ?_⟩)
      rw [(hV.ag ha).ms (by decide)]
      exact sM_in (by omega) (fun q hq2 e => (ho q hq2 e).elim) (fun o => ⟨fun _ => vX10_had_37 (M_no ha h7), fun a => absurd n00 a⟩)
end
