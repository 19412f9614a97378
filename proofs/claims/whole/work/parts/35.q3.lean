/-! SPECS: next, judge, sure, heaviest -/
section
variable {n p b d : Nat} {R Y : Nat → Nat} {r : Rr} {g : Gi} {j : Gl} {K : Int32 → Rr → Gi → Gl → Prop} {x x1 x2 : Int32} {Q : QT}
/-- the i-th on the quay isn't dry -/
def wetAt (R Y : Nat → Nat) (i : Nat) : Prop := R (21 + 5 * Y (129 + i)) = 1 ∧ Y (45 + Y (129 + i)) = 0
/-- the first dry place of the quay from i on -/
def dryF (R Y : Nat → Nat) (i : Nat) (v : Int32) : Prop := (∃ k, i ≤ k ∧ k < Y 144 ∧ ¬ wetAt R Y k ∧ (∀ k', i ≤ k' → k' < k → wetAt R Y k') ∧ v = nI k) ∨ ((∀ k, i ≤ k → k < Y 144 → wetAt R Y k) ∧ v = -1)
theorem dryF_u {i : Nat} {v w : Int32} (h : dryF R Y i v) (h' : dryF R Y i w) : v = w := by
  rcases h with ⟨k, a1, a2, a3, a4, rfl⟩ | ⟨h, rfl⟩ <;> rcases h' with ⟨k', b1, b2, b3, b4, rfl⟩ | ⟨h', rfl⟩
  · rcases Nat.lt_trichotomy k k' with e | e | e
    · exact absurd (b4 k a1 e) a3
    · rw [e]
    · exact absurd (a4 k' b1 e) b3
  · exact absurd (h' k a1 a2) a3
  · exact absurd (h k' b1 b2) b3
  · rfl
theorem dryF_ex (R Y : Nat → Nat) : ∃ v, dryF R Y 0 v := by
  by_cases h : ∃ k, k < Y 144 ∧ ¬ wetAt R Y k
  · obtain ⟨k, h1, h2⟩ := pk_least (fun k => k < Y 144 ∧ ¬ wetAt R Y k) h
    exact ⟨_, Or.inl ⟨k, Nat.zero_le _, h1.1, h1.2, fun k' _ hk' => Classical.byContradiction fun c => h2 k' hk' ⟨by omega, c⟩, rfl⟩⟩
  · exact ⟨_, Or.inr ⟨fun k _ hk => Classical.byContradiction fun c => h ⟨k, hk, c⟩, rfl⟩⟩
theorem X_dry_loop (hV : Vw n p b R Y r g) : ∀ q i, i + q = Y 144 → (∀ v, dryF R Y i v → rkI K (some (.int v)) r g j) → G d 66 2 [(0, .ref 62), (1, .ref p), (2, .int (nI i))] [] r g j (rkI K) := by
  have h5 := hV.b5
  have hq := hV.yo.2.2.2.2.1
  have h145 := hV.yo.2.2.2.2.2.2.2.2.2.1.1
  intro q
  induction q with
  | zero =>
    intro i hi h
    exact vX8_firstDry_2 ⟨fun _ => h _ (Or.inr ⟨fun k a c => by omega, rfl⟩), fun a => absurd (by rw [hV.yx.1.1]; exact nI_le (by omega) (by omega)) a⟩
  | succ q ih =>
    intro i hi h
    have hc := hq.2 i (by omega)
    have hR := hV.ro.2.2.2.2.1 _ hc.1
    have hx := (hV.yx.2.2.2.2 _ hc.1).2.2.1 hc.2
    have hd := (hV.yo.2.2.2.2.2.2.2.1 _ hc.1).2.2.2
    have e65 : g 65 i = nI (Y (129 + i)) := hV.yx.2.2.1 i (by omega)
    refine vX8_firstDry_2 ⟨fun a => absurd a (by rw [hV.yx.1.1]; exact nI_ge (by omega) (by omega)), fun _ => IX_l (by omega) (crate_f hV.hp e65 (by omega) ?_)⟩
    rw [(hV.px.2.2.1 _ hc.1).1]
    refine ⟨fun e => IX_e e65 (by omega) ?_, fun e => ?_⟩
    · rw [nI_eq (by omega) (by decide)] at e
      rw [show g 69 (Y (129 + i)) = _ from hx, show g 62 9 = _ from hV.yx.1.2.1]
      refine ⟨fun a => ?_, fun a => ?_⟩
      · have a := le_n (by omega) (by omega) a
        have hw : wetAt R Y i := ⟨e, by omega⟩
        rw [nI_add]
        refine ih (i + 1) (by omega) (fun v hv => h v ?_)
        rcases hv with ⟨k, a1, a2, a3, a4, a5⟩ | ⟨a1, a2⟩
        · refine Or.inl ⟨k, by omega, a2, a3, fun k' b1 b2 => ?_, a5⟩
          by_cases e2 : k' = i
          · subst e2; exact hw
          · exact a4 k' (by omega) b2
        · refine Or.inr ⟨fun k' b1 b2 => ?_, a2⟩
          by_cases e2 : k' = i
          · subst e2; exact hw
          · exact a1 k' (by omega) b2
      · refine h _ (Or.inl ⟨i, Nat.le_refl _, by omega, fun hw => a ?_, fun k' a1 a2 => by omega, rfl⟩)
        exact nI_le (by have := hw.2; omega) (by omega)
    · rw [nI_eq (by omega) (by decide)] at e
      exact h _ (Or.inl ⟨i, Nat.le_refl _, by omega, fun hw => e hw.1, fun k' a1 a2 => by omega, rfl⟩)
theorem X_firstDry (hV : Vw n p b R Y r g) (h : ∀ v, dryF R Y 0 v → K v r g j) : Cm d 66 [.ref 62, .ref p] r g j (rkI K) := vX8_firstDry_0 (X_dry_loop hV (Y 144) 0 (by omega) h)
theorem M_dry_loop (hV : Vw n p b R Y r g) : ∀ q i, i + q = Y 144 → (∀ v, dryF R Y i v → rkI K (some (.int v)) r g j) → G (d + 1) 188 2 [(0, .ref 263), (1, .int (nI i))] [] r g j (rkI K) := by
  have h5 := hV.b5
  have hq := hV.yo.2.2.2.2.1
  have h145 := hV.yo.2.2.2.2.2.2.2.2.2.1.1
  intro q
  induction q with
  | zero =>
    intro i hi h
    exact vX10_nextOnQuay_2 (IX_l (by decide) ⟨fun _ => h _ (Or.inr ⟨fun k a c => by omega, rfl⟩), fun a => absurd (by rw [hV.ms (by decide)]; exact nI_le (by omega) (by omega)) a⟩)
  | succ q ih =>
    intro i hi h
    have hc := hq.2 i (by omega)
    have hR := hV.ro.2.2.2.2.1 _ hc.1
    have hd := (hV.yo.2.2.2.2.2.2.2.1 _ hc.1).2.2.2
    refine vX10_nextOnQuay_2 (IX_l (by decide) ⟨fun a => absurd a (by rw [hV.ms (by decide)]; exact nI_ge (by omega) (by omega)), fun _ => IX_e (q := 129 + i) (nI_add 129 i) (by omega) ?_⟩)
    rw [hV.ms (by omega)]
    refine M_ofCrate hV (c := Y (129 + i)) (w := 0) (by omega) (by decide) ⟨fun e => IX_e (q := 129 + i) (nI_add 129 i) (by omega) (IX_e (q := 45 + Y (129 + i)) (by rw [hV.ms (by omega), nI_add]) (by omega) ?_), fun e => ?_⟩
    · rw [nI_eq (by rw [Nat.add_zero]; omega) (by decide), Nat.add_zero] at e
      rw [hV.ms (by omega)]
      refine ⟨fun a => ?_, fun a => ?_⟩
      · rw [← nI_0] at a
        have a := le_n (by omega) (by decide) a
        have hw : wetAt R Y i := ⟨e, by omega⟩
        rw [nI_add]
        refine ih (i + 1) (by omega) (fun v hv => h v ?_)
        rcases hv with ⟨k, a1, a2, a3, a4, a5⟩ | ⟨a1, a2⟩
        · refine Or.inl ⟨k, by omega, a2, a3, fun k' b1 b2 => ?_, a5⟩
          by_cases e2 : k' = i
          · subst e2; exact hw
          · exact a4 k' (by omega) b2
        · refine Or.inr ⟨fun k' b1 b2 => ?_, a2⟩
          by_cases e2 : k' = i
          · subst e2; exact hw
          · exact a1 k' (by omega) b2
      · refine h _ (Or.inl ⟨i, Nat.le_refl _, by omega, fun hw => a ?_, fun k' a1 a2 => by omega, rfl⟩)
        rw [hw.2, n00]
        exact Int32.le_refl 0
    · rw [nI_eq (by rw [Nat.add_zero]; omega) (by decide), Nat.add_zero] at e
      exact h _ (Or.inl ⟨i, Nat.le_refl _, by omega, fun hw => e hw.1, fun k' a1 a2 => by omega, rfl⟩)
theorem M_nextOnQuay (hV : Vw n p b R Y r g) (h : ∀ v, dryF R Y 0 v → K v r g j) : Cm (d + 1) 188 [.ref 263] r g j (rkI K) := vX10_nextOnQuay_0 (M_dry_loop hV (Y 144) 0 (by omega) h)
theorem ge0 {k : Nat} (h : k < 2 ^ 31) : 0 ≤ nI k := nI_pos' h
theorem nge0 : ¬ (0 : Int32) ≤ -1 := by decide +kernel
theorem q_next : PQ n p b R Y r (d + 3) 81 189 [] := by
  by_cases hb : b = 0
  · refine ⟨-1, nI 1, e1, fun g j hV => ?_, fun g j hV => ?_⟩
    · exact vX9_next_0 ⟨fun _ => X_ref Ag.rf, fun a => absurd (hV.tx0 hb) a⟩
    · exact vX10_next_0 (M_good fun g2 ha ht h7 => ⟨fun _ => M_no ha h7, fun a => absurd ((hV.ag ha).tm0 hb) a⟩)
  · obtain ⟨w, hw⟩ := dryF_ex R Y
    rcases id hw with ⟨k, a1, a2, a3, a4, rfl⟩ | ⟨a1, rfl⟩
    · refine ⟨nI (Y (129 + k)), nI 0, e0, fun g j hV => ?_, fun g j hV => ?_⟩
      · have hq := hV.yo.2.2.2.2.1
        refine vX9_next_0 ⟨fun a => absurd a (hV.tx1 hb), fun _ => ⟨p, hV.rp, X_firstDry hV fun v hv => ?_⟩⟩
        rw [dryF_u hv hw]
        refine ⟨fun _ => IX_l (by omega) (vX9_next_44 ?_), fun a => absurd (ge0 (by omega)) a⟩
        rw [show g 65 k = _ from hV.yx.2.2.1 k a2]
        exact X_ans Ag.rf
      · have hq := hV.yo.2.2.2.2.1
        refine vX10_next_0 (M_good fun g2 ha ht h7 => ⟨fun a => absurd a ((hV.ag ha).tm1 hb), fun _ => M_nextOnQuay (hV.ag ha) fun v hv => ?_⟩)
        rw [dryF_u hv hw]
        refine ⟨fun _ => M_nextOnQuay (hV.ag ha) fun v hv => ?_, fun a => absurd (ge0 (by omega)) a⟩
        rw [dryF_u hv hw]
        exact IX_e (q := 129 + k) (nI_add 129 k) (by omega) ⟨(hV.ag ha).ms (by omega), rfl, ha, ht, h7⟩
    · refine ⟨-(nI 2), nI 0, e0, fun g j hV => ?_, fun g j hV => ?_⟩
      · refine vX9_next_0 ⟨fun a => absurd a (hV.tx1 hb), fun _ => ⟨p, hV.rp, X_firstDry hV fun v hv => ?_⟩⟩
        rw [dryF_u hv hw]
        exact ⟨fun a => absurd a nge0, fun _ => vX9_next_44 (X_ans Ag.rf)⟩
      · refine vX10_next_0 (M_good fun g2 ha ht h7 => ⟨fun a => absurd a ((hV.ag ha).tm1 hb), fun _ => M_nextOnQuay (hV.ag ha) fun v hv => ?_⟩)
        rw [dryF_u hv hw]
        exact ⟨fun a => absurd a nge0, fun _ => ⟨rfl, rfl, ha, ht, h7⟩⟩
/-- how many crates a ship has, in the reference -/
theorem M_cratesOf_loop (hV : Vw n p b R Y r g) {s : Nat} (hs : s < 3) : ∀ q c, c + q = R 5 → K (nI (cntS R s (R 5))) r g j → G (d + 1) 196 4 [(0, .ref 263), (1, .int (nI s)), (2, .int (nI (cntS R s c))), (3, .int (nI c))] [] r g j (rkI K) := by
  have h5 := hV.b5
  intro q
  induction q with
  | zero =>
    intro c hc h
    have : c = R 5 := by omega
    subst this
    exact vX10_cratesOf_4 (IX_l (by decide) ⟨fun _ => h, fun a => absurd (by rw [hV.mr (by decide)]; exact nI_le (by omega) (by omega)) a⟩)
  | succ q ih =>
    intro c hc h
    have hR := hV.ro.2.2.2.2.1 c (by omega)
    have h4 := hV.b4
    refine vX10_cratesOf_4 (IX_l (by decide) ⟨fun a => absurd a (by rw [hV.mr (by decide)]; exact nI_ge (by omega) (by omega)), fun _ => M_ofCrate hV (c := c) (w := 1) (by omega) (by decide) ?_⟩)
    rw [show 21 + 5 * c + 1 = 22 + 5 * c by omega]
    have e3 : ∀ z, cntS R s c + z = cntS R s (c + 1) → G (d + 1) 196 30 [(0, .ref 263), (1, .int (nI s)), (3, .int (nI c))] [.int (nI z), .int (nI (cntS R s c))] r g j (rkI K) := by
      intro z hz
      refine vX10_cratesOf_30 ?_
      rw [nI_add, nI_add, hz]
      exact ih (c + 1) (by omega) h
    refine ⟨fun e => e3 1 ?_, fun e => e3 0 ?_⟩
    · rw [nI_eq (by omega) (by omega)] at e
      show _ = cntS R s c + (if R (22 + 5 * c) = s then 1 else 0)
      rw [if_pos e]
    · rw [nI_eq (by omega) (by omega)] at e
      show _ = cntS R s c + (if R (22 + 5 * c) = s then 1 else 0)
      rw [if_neg e]
theorem M_cratesOf (hV : Vw n p b R Y r g) {s : Nat} (hs : s < 3) (h : K (nI (cntS R s (R 5))) r g j) : Cm (d + 1) 196 [.ref 263, .int (nI s)] r g j (rkI K) := vX10_cratesOf_0 (M_cratesOf_loop hV hs (R 5) 0 (by omega) h)
/-- the first ship that says another number -/
def jdF (R : Nat → Nat) (i : Nat) (v : Int32) : Prop := (∃ k, i ≤ k ∧ k < R 4 ∧ R (12 + 4 * k) ≠ cntS R k (R 5) ∧ (∀ k', i ≤ k' → k' < k → R (12 + 4 * k') = cntS R k' (R 5)) ∧ v = nI k) ∨ ((∀ k, i ≤ k → k < R 4 → R (12 + 4 * k) = cntS R k (R 5)) ∧ v = -(nI 2))
theorem jdF_u {i : Nat} {v w : Int32} (h : jdF R i v) (h' : jdF R i w) : v = w := by
  rcases h with ⟨k, a1, a2, a3, a4, rfl⟩ | ⟨h, rfl⟩ <;> rcases h' with ⟨k', b1, b2, b3, b4, rfl⟩ | ⟨h', rfl⟩
  · rcases Nat.lt_trichotomy k k' with e | e | e
    · exact absurd (b4 k a1 e) a3
    · rw [e]
    · exact absurd (a4 k' b1 e) b3
  · exact absurd (h' k a1 a2) a3
  · exact absurd (h k' b1 b2) b3
  · rfl
theorem jdF_ex (R : Nat → Nat) : ∃ v, jdF R 0 v := by
  by_cases h : ∃ k, k < R 4 ∧ R (12 + 4 * k) ≠ cntS R k (R 5)
  · obtain ⟨k, h1, h2⟩ := pk_least (fun k => k < R 4 ∧ R (12 + 4 * k) ≠ cntS R k (R 5)) h
    exact ⟨_, Or.inl ⟨k, Nat.zero_le _, h1.1, h1.2, fun k' _ hk' => Classical.byContradiction fun c => h2 k' hk' ⟨by omega, c⟩, rfl⟩⟩
  · exact ⟨_, Or.inr ⟨fun k _ hk => Classical.byContradiction fun c => h ⟨k, hk, c⟩, rfl⟩⟩
theorem jdF_s {i : Nat} {v : Int32} (e : R (12 + 4 * i) = cntS R i (R 5)) (h : jdF R (i + 1) v) : jdF R i v := by
  rcases h with ⟨k, a1, a2, a3, a4, a5⟩ | ⟨a1, a2⟩
  · refine Or.inl ⟨k, by omega, a2, a3, fun k' b1 b2 => ?_, a5⟩
    by_cases e2 : k' = i
    · subst e2; exact e
    · exact a4 k' (by omega) b2
  · refine Or.inr ⟨fun k' b1 b2 => ?_, a2⟩
    by_cases e2 : k' = i
    · subst e2; exact e
    · exact a1 k' (by omega) b2
theorem X_judge_loop (hV : Vw n p b R Y r g) {g0 : Gi} (ha : Ag g0 g) {v : Int32} : ∀ q i, i + q = R 4 → jdF R i v → G (d + 1) 86 15 [(0, .ref 0), (1, .int (nI i))] [] r g j (rkI (EX v (nI 0) r g0)) := by
  have h4 := hV.b4
  intro q
  induction q with
  | zero =>
    intro i hi h
    refine vX9_judge_15 ⟨p, hV.rp, OB_i (SH_p hV.hp) ⟨fun _ => ?_, fun a => absurd (by rw [hV.px.1.2.2.2.2.1]; exact nI_le (by omega) (by omega)) a⟩⟩
    have : v = -(nI 2) := jdF_u h (Or.inr ⟨fun k a c => by omega, rfl⟩)
    subst this
    exact X_ans ha
  | succ q ih =>
    intro i hi h
    have hs := hV.px.2.1 i (by omega)
    have hr := hV.ro.2.2.2.1 i (by omega)
    have hc := hV.ro.2.2.2.2.2.2.1 i
    refine vX9_judge_15 ⟨p, hV.rp, OB_i (SH_p hV.hp) ⟨fun a => absurd a (by rw [hV.px.1.2.2.2.2.1]; exact nI_ge (by omega) (by omega)), fun _ => ⟨p, hV.rp, ship_f hV.hp rfl (by omega) ⟨p, hV.rp, ship_f hV.hp rfl (by omega) ?_⟩⟩⟩⟩
    rw [hs.2.2.2.1, hs.2.2.2.2, nI_eq (by omega) (by omega)]
    refine ⟨fun e => ?_, fun e => ?_⟩
    · rw [nI_add]
      refine ih (i + 1) (by omega) ?_
      obtain ⟨w, hw⟩ : ∃ w, jdF R (i + 1) w := by
        rcases h with ⟨k, a1, a2, a3, a4, a5⟩ | ⟨a1, a2⟩
        · refine ⟨v, Or.inl ⟨k, ?_, a2, a3, fun k' b1 b2 => a4 k' (by omega) b2, a5⟩⟩
          rcases Nat.lt_or_ge i k with z | z
          · exact z
          · exact absurd (show R (12 + 4 * k) = cntS R k (R 5) by rw [show k = i by omega]; exact e) a3
        · exact ⟨v, Or.inr ⟨fun k' b1 b2 => a1 k' (by omega) b2, a2⟩⟩
      rw [jdF_u h (jdF_s e hw)]
      exact hw
    · have : v = nI i := jdF_u h (Or.inl ⟨i, Nat.le_refl _, by omega, e, fun k' a c => by omega, rfl⟩)
      subst this
      exact X_ans ha
theorem M_judge_loop (hV : Vw n p b R Y r g) : ∀ q i, i + q = R 4 → (∀ v, jdF R i v → K v r g j) → G (d + 2) 197 19 [(0, .ref 263), (1, .int (nI i))] [] r g j (rkI K) := by
  have h4 := hV.b4
  intro q
  induction q with
  | zero =>
    intro i hi h
    exact vX10_judge_19 (IX_l (by decide) ⟨fun _ => h _ (Or.inr ⟨fun k a c => by omega, rfl⟩), fun a => absurd (by rw [hV.mr (by decide)]; exact nI_le (by omega) (by omega)) a⟩)
  | succ q ih =>
    intro i hi h
    have hr := hV.ro.2.2.2.1 i (by omega)
    have hc := hV.ro.2.2.2.2.2.2.1 i
    refine vX10_judge_19 (IX_l (by decide) ⟨fun a => absurd a (by rw [hV.mr (by decide)]; exact nI_ge (by omega) (by omega)), fun _ => M_ofShip hV (s := i) (w := 3) (by omega) (by decide) (M_cratesOf hV (by omega) ?_)⟩)
    rw [show 9 + 4 * i + 3 = 12 + 4 * i by omega, nI_eq (by omega) (by omega)]
    refine ⟨fun e => ?_, fun e => ?_⟩
    · rw [nI_add]
      exact ih (i + 1) (by omega) (fun v hv => h v (jdF_s e hv))
    · exact h _ (Or.inl ⟨i, Nat.le_refl _, by omega, e, fun k' a c => by omega, rfl⟩)
theorem q_judge : PQ n p b R Y r (d + 3) 86 197 [] := by
  by_cases hb : b = 0
  · refine ⟨-1, nI 1, e1, fun g j hV => ?_, fun g j hV => ?_⟩
    · exact vX9_judge_0 ⟨fun _ => X_ref Ag.rf, fun a => absurd (hV.tx0 hb) a⟩
    · exact vX10_judge_0 (M_good fun g2 ha ht h7 => ⟨fun _ => M_no ha h7, fun a => absurd ((hV.ag ha).tm0 hb) a⟩)
  · obtain ⟨w, hw⟩ := jdF_ex R
    refine ⟨w, nI 0, e0, fun g j hV => ?_, fun g j hV => ?_⟩
    · exact vX9_judge_0 ⟨fun a => absurd a (hV.tx1 hb), fun _ => X_judge_loop hV Ag.rf (R 4) 0 (by omega) hw⟩
    · exact vX10_judge_0 (M_good fun g2 ha ht h7 => ⟨fun a => absurd a ((hV.ag ha).tm1 hb), fun _ => M_judge_loop (hV.ag ha) (R 4) 0 (by omega) fun v hv => ⟨jdF_u hv hw, rfl, ha, ht, h7⟩⟩)
end
