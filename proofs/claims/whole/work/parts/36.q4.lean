/-! SPECS: sure, heaviest, wrongly -/
section
variable {n p b d : Nat} {R Y : Nat → Nat} {r : Rr} {g : Gi} {j : Gl} {K : Int32 → Rr → Gi → Gl → Prop} {x x1 x2 : Int32} {Q : QT}
/-- in how many of a hundred a ship has come by a day -/
def comeF (R : Nat → Nat) (s day : Nat) : Nat := if day < R (9 + 4 * s) then 0 else if day < R (9 + 4 * s) + R (11 + 4 * s) then 100 - R (10 + 4 * s) else 100
theorem comeF_le (R : Nat → Nat) (s day : Nat) : comeF R s day ≤ 100 := by unfold comeF; split; omega; split <;> omega
theorem X_hundredthsBy (hV : Vw n p b R Y r g) {s k : Nat} (hs : s < R 4) (hk : k ≤ 99) (h : K (nI (comeF R s k)) r g j) : Cm d 49 [.ref (p + 10 + s), .int (nI k)] r g j (rkI K) := by
  have h4 := hV.b4
  have hx := hV.px.2.1 s hs
  have hr := hV.ro.2.2.2.1 s hs
  have hS := SH_sh (s := s) hV.hp (by omega)
  unfold comeF at h
  refine vX6_hundredthsBy_0 (OB_i hS ?_)
  rw [hx.1, hx.2.1, hx.2.2.1, nI_add]
  refine ⟨fun a => OB_i hS (OB_i hS ⟨fun c => ?_, fun c => OB_i hS ?_⟩), fun a => ?_⟩
  · have a := le_n (by omega) (by omega) a
    have c := le_n (by omega) (by omega) c
    rw [if_neg (by omega), if_neg (by omega)] at h
    exact h
  · have a := le_n (by omega) (by omega) a
    have c : ¬ (R (9 + 4 * s) + R (11 + 4 * s) ≤ k) := fun z => c (nI_le z (by omega))
    rw [if_neg (by omega), if_pos (by omega)] at h
    rw [pk_sub (by omega)]
    exact h
  · have a : ¬ (R (9 + 4 * s) ≤ k) := fun z => a (nI_le z (by omega))
    rw [if_pos (by omega)] at h
    exact h
theorem M_comeOf (hV : Vw n p b R Y r g) {s k : Nat} (hs : s < R 4) (hk : k ≤ 99) (h : K (nI (comeF R s k)) r g j) : Cm (d + 1) 198 [.ref 263, .int (nI s), .int (nI k)] r g j (rkI K) := by
  have h4 := hV.b4
  have hr := hV.ro.2.2.2.1 s hs
  unfold comeF at h
  refine vX10_comeOf_0 (M_ofShip hV (s := s) (w := 0) (by omega) (by decide) ?_)
  rw [show 9 + 4 * s + 0 = 9 + 4 * s by omega]
  refine ⟨fun a => M_ofShip hV (s := s) (w := 0) (by omega) (by decide) (M_ofShip hV (s := s) (w := 2) (by omega) (by decide) ?_), fun a => ?_⟩
  · rw [show 9 + 4 * s + 0 = 9 + 4 * s by omega, show 9 + 4 * s + 2 = 11 + 4 * s by omega, nI_add]
    have a := le_n (by omega) (by omega) a
    refine ⟨fun c => ?_, fun c => M_ofShip hV (s := s) (w := 1) (by omega) (by decide) ?_⟩
    · have c := le_n (by omega) (by omega) c
      rw [if_neg (by omega), if_neg (by omega)] at h
      exact h
    · have c : ¬ (R (9 + 4 * s) + R (11 + 4 * s) ≤ k) := fun z => c (nI_le z (by omega))
      rw [if_neg (by omega), if_pos (by omega)] at h
      rw [show 9 + 4 * s + 1 = 10 + 4 * s by omega, pk_sub (by omega)]
      exact h
  · have a : ¬ (R (9 + 4 * s) ≤ k) := fun z => a (nI_le z (by omega))
    rw [if_pos (by omega)] at h
    exact h
def sureF (R : Nat → Nat) (day : Nat) : Nat → Nat
  | 0 => 0
  | s + 1 => sureF R day s + (if comeF R s day = 100 then cntS R s (R 5) else 0)
theorem sureF_le (hR : RO b R) (day : Nat) : ∀ s, sureF R day s ≤ 5 * s := by
  intro s
  induction s with
  | zero => exact Nat.le_refl _
  | succ s ih =>
    have := hR.2.2.2.2.2.2.1 s
    unfold sureF
    split <;> omega
theorem X_sure_loop (hV : Vw n p b R Y r g) {k : Nat} (hk : k ≤ 99) {g0 : Gi} (ha : Ag g0 g) : ∀ q s, s + q = R 4 → G (d + 1) 89 30 [(0, .ref 0), (1, .int (nI k)), (2, .int (nI (sureF R k s))), (3, .int (nI s))] [] r g j (rkI (EX (nI (sureF R k (R 4))) (nI 0) r g0)) := by
  have h4 := hV.b4
  intro q
  induction q with
  | zero =>
    intro s hs
    have : s = R 4 := by omega
    subst this
    exact vX9_sure_30 ⟨p, hV.rp, OB_i (SH_p hV.hp) ⟨fun _ => X_ans ha, fun a => absurd (by rw [hV.px.1.2.2.2.2.1]; exact nI_le (by omega) (by omega)) a⟩⟩
  | succ q ih =>
    intro s hs
    have hx := hV.px.2.1 s (by omega)
    have hl := sureF_le hV.ro k s
    have hc := hV.ro.2.2.2.2.2.2.1 s
    have hcl := comeF_le R s k
    refine vX9_sure_30 ⟨p, hV.rp, OB_i (SH_p hV.hp) ⟨fun a => absurd a (by rw [hV.px.1.2.2.2.2.1]; exact nI_ge (by omega) (by omega)), fun _ => ⟨p, hV.rp, ship_f hV.hp rfl (by omega) (X_hundredthsBy hV (by omega) hk ⟨fun e => ⟨p, hV.rp, ship_f hV.hp rfl (by omega) (vX9_sure_74 ?_)⟩, fun e => vX9_sure_74 ?_⟩)⟩⟩⟩
    · rw [nI_eq (by omega) (by decide)] at e
      rw [hx.2.2.2.2, nI_add, nI_add]
      have e2 : sureF R k s + cntS R s (R 5) = sureF R k (s + 1) := by
        show _ = sureF R k s + (if comeF R s k = 100 then cntS R s (R 5) else 0)
        rw [if_pos e]
      rw [e2]
      exact ih (s + 1) (by omega)
    · rw [nI_eq (by omega) (by decide)] at e
      rw [nI_add]
      have e2 : sureF R k s = sureF R k (s + 1) := by
        show _ = sureF R k s + (if comeF R s k = 100 then cntS R s (R 5) else 0)
        rw [if_neg e, Nat.add_zero]
      rw [e2]
      exact ih (s + 1) (by omega)
theorem M_sure_loop (hV : Vw n p b R Y r g) {k : Nat} (hk : k ≤ 99) (h : K (nI (sureF R k (R 4))) r g j) : ∀ q s, s + q = R 4 → G (d + 2) 201 37 [(0, .ref 263), (1, .int (nI k)), (2, .int (nI (sureF R k s))), (3, .int (nI s))] [] r g j (rkI K) := by
  have h4 := hV.b4
  intro q
  induction q with
  | zero =>
    intro s hs
    have : s = R 4 := by omega
    subst this
    exact vX10_sure_37 (IX_l (by decide) ⟨fun _ => h, fun a => absurd (by rw [hV.mr (by decide)]; exact nI_le (by omega) (by omega)) a⟩)
  | succ q ih =>
    intro s hs
    have hl := sureF_le hV.ro k s
    have hcl := comeF_le R s k
    have st : ∀ z, sureF R k s + z = sureF R k (s + 1) → G (d + 2) 201 68 [(0, .ref 263), (1, .int (nI k)), (3, .int (nI s))] [.int (nI z), .int (nI (sureF R k s))] r g j (rkI K) := by
      intro z hz
      refine vX10_sure_68 ?_
      rw [nI_add, nI_add, hz]
      exact ih (s + 1) (by omega)
    refine vX10_sure_37 (IX_l (by decide) ⟨fun a => absurd a (by rw [hV.mr (by decide)]; exact nI_ge (by omega) (by omega)), fun _ => M_comeOf hV (by omega) hk ⟨fun e => M_cratesOf hV (by omega) (st _ ?_), fun e => st 0 ?_⟩⟩)
    · rw [nI_eq (by omega) (by decide)] at e
      show _ = sureF R k s + (if comeF R s k = 100 then cntS R s (R 5) else 0)
      rw [if_pos e]
    · rw [nI_eq (by omega) (by decide)] at e
      show _ = sureF R k s + (if comeF R s k = 100 then cntS R s (R 5) else 0)
      rw [if_neg e]
theorem q_sure (x1 : Int32) : PQ n p b R Y r (d + 3) 89 201 [.int x1] := by
  by_cases hb : b = 0
  · refine ⟨-1, nI 1, e1, fun g j hV => ?_, fun g j hV => ?_⟩
    · exact vX9_sure_0 ⟨fun _ => X_ref Ag.rf, fun a => absurd (hV.tx0 hb) a⟩
    · exact vX10_sure_0 (M_good fun g2 ha ht h7 => ⟨fun _ => M_no ha h7, fun a => absurd ((hV.ag ha).tm0 hb) a⟩)
  · rcases in_or x1 (n := 100) (by decide) with ⟨k, hk, rfl⟩ | ho
    · refine ⟨nI (sureF R k (R 4)), nI 0, e0, fun g j hV => ?_, fun g j hV => ?_⟩
      · exact vX9_sure_0 ⟨fun a => absurd a (hV.tx1 hb), fun _ => X_noComingDay (fun k' _ _ => ⟨fun _ => X_sure_loop hV (by omega) Ag.rf (R 4) 0 (by omega), fun a => absurd n00 a⟩) (fun o => (o k hk rfl).elim)⟩
      · exact vX10_sure_0 (M_good fun g2 ha ht h7 => ⟨fun a => absurd a ((hV.ag ha).tm1 hb), fun _ => M_in 99 (by decide) (fun k' _ _ => ⟨fun a => absurd a n10, fun _ => M_sure_loop (hV.ag ha) (by omega) ⟨rfl, rfl, ha, ht, h7⟩ (R 4) 0 (by omega)⟩) (fun o => (o k hk rfl).elim)⟩)
    · refine ⟨-1, nI 2, e2, fun g j hV => ?_, fun g j hV => ?_⟩
      · exact vX9_sure_0 ⟨fun a => absurd a (hV.tx1 hb), fun _ => X_noComingDay (fun k' hk e => (ho k' (by omega) e).elim) (fun o => ⟨fun a => absurd a n10, fun _ => X_ref Ag.rf⟩)⟩
      · exact vX10_sure_0 (M_good fun g2 ha ht h7 => ⟨fun a => absurd a ((hV.ag ha).tm1 hb), fun _ => M_in 99 (by decide) (fun k' hk e => (ho k' (by omega) e).elim) (fun o => ⟨fun _ => M_no ha h7, fun a => absurd n00 a⟩)⟩)
/-- what a stack weighs: its first i crates -/
def stW (R Y : Nat → Nat) (k : Nat) : Nat → Nat
  | 0 => 0
  | i + 1 => stW R Y k i + R (24 + 5 * (Y (75 + 5 * k + i) - 1))
theorem stW_le (hR : RO b R) (hY : YO n R Y) {k : Nat} (hk : k < 9) : ∀ i, i ≤ Y (120 + k) → stW R Y k i ≤ 30 * i := by
  intro i
  induction i with
  | zero => intro _; exact Nat.le_refl _
  | succ i ih =>
    intro hi
    have h1 := (hY.1 k hk).2.2 i (by omega)
    have h2 := hR.2.2.2.2.1 (Y (75 + 5 * k + i) - 1) (by omega)
    have := ih (by omega)
    unfold stW
    omega
def sw (R Y : Nat → Nat) (s t : Nat) : Nat := stW R Y (3 * s + t) (Y (120 + (3 * s + t)))
theorem X_stackWeighs (hV : Vw n p b R Y r g) {s t : Nat} (hs : s < 3) (ht : t < 3) (h : K (nI (sw R Y s t)) r g j) : Cm (d + 1) 64 [.ref 62, .ref p, .int (nI s), .int (nI t)] r g j (rkI K) := by
  have hy := hV.yo.1 (3 * s + t) (by omega)
  have h5 := hV.b5
  have loop : ∀ q i, i + q = Y (120 + (3 * s + t)) → G (d + 1) 64 6 [(0, .ref 62), (1, .ref p), (2, .int (nI s)), (3, .int (nI t)), (4, .int (nI (stW R Y (3 * s + t) i))), (5, .int (nI i))] [] r g j (rkI K) := by
    intro q
    induction q with
    | zero =>
      intro i hi
      have : i = Y (120 + (3 * s + t)) := by omega
      subst this
      exact vX8_stackWeighs_6 (X_height hV hs ht ⟨fun _ => h, fun a => absurd (nI_le (Nat.le_refl _) (by omega)) a⟩)
    | succ q ih =>
      intro i hi
      have hc := hy.2.2 i (by omega)
      refine vX8_stackWeighs_6 (X_height hV hs ht ⟨fun a => absurd a (nI_ge (by omega) (by omega)), fun _ => OB_i (SH_p hV.hp) (RF_i (Or.inl (RS_p6 hV.hp)) (X_crateAt hV hs ht (by omega) (AY_i (SH_p2 hV.hp) (IX_l (by omega) (RF_i (Or.inl (RS_cr hV.hp (by omega))) (OB_i (SH_cr hV.hp (by omega)) ?_))))))⟩)
      rw [(hV.px.2.2.1 _ (by omega)).2.2.2.1, nI_add, nI_add]
      exact ih (i + 1) (by omega)
  exact vX8_stackWeighs_0 (loop (Y (120 + (3 * s + t))) 0 (by omega))
theorem M_weightOn (hV : Vw n p b R Y r g) {s t : Nat} (hs : s < 3) (ht : t < 3) (h : K (nI (sw R Y s t)) r g j) : Cm (d + 1) 215 [.ref 263, .int (nI s), .int (nI t)] r g j (rkI K) := by
  have hy := hV.yo.1 (3 * s + t) (by omega)
  have h5 := hV.b5
  have loop : ∀ q i, i + q = Y (120 + (3 * s + t)) → G (d + 1) 215 5 [(0, .ref 263), (1, .int (nI s)), (2, .int (nI t)), (3, .int (nI (stW R Y (3 * s + t) i))), (4, .int (nI i))] [] r g j (rkI K) := by
    intro q
    induction q with
    | zero =>
      intro i hi
      have : i = Y (120 + (3 * s + t)) := by omega
      subst this
      exact vX10_weightOn_5 (M_highOf hV hs ht ⟨fun _ => h, fun a => absurd (nI_le (Nat.le_refl _) (by omega)) a⟩)
    | succ q ih =>
      intro i hi
      have hc := hy.2.2 i (by omega)
      refine vX10_weightOn_5 (M_highOf hV hs ht ⟨fun a => absurd a (nI_ge (by omega) (by omega)), fun _ => M_lyingAt hV hs ht (by omega) (M_ofCrate hV (w := 3) (by omega) (by decide) ?_)⟩)
      rw [show 21 + 5 * (Y (75 + 5 * (3 * s + t) + i) - 1) + 3 = 24 + 5 * (Y (75 + 5 * (3 * s + t) + i) - 1) by omega, nI_add, nI_add]
      exact ih (i + 1) (by omega)
  exact vX10_weightOn_0 (loop (Y (120 + (3 * s + t))) 0 (by omega))
def hvF (R Y : Nat → Nat) (s : Nat) : Nat := let a := if sw R Y s 0 < sw R Y s 1 then 1 else 0
  if sw R Y s a < sw R Y s 2 then 2 else a
theorem sw_le (hR : RO b R) (hY : YO n R Y) {s t : Nat} (hs : s < 3) (ht : t < 3) : sw R Y s t ≤ 150 := by
  have h1 := stW_le hR hY (show 3 * s + t < 9 by omega) _ (Nat.le_refl _)
  have h2 := (hY.1 (3 * s + t) (by omega)).1
  show stW R Y (3 * s + t) (Y (120 + (3 * s + t))) ≤ 150
  omega
theorem q_heaviest (x1 : Int32) (h4 : R 4 ≤ 3) : PQ n p b R Y r (d + 3) 92 216 [.int x1] := by
  rcases in_or x1 (n := R 4) (by omega) with ⟨s, hs, rfl⟩ | ho
  · refine ⟨nI (hvF R Y s), nI 0, e0, fun g j hV => ?_, fun g j hV => ?_⟩
    · refine vX9_heaviest_0 (X_noShip hV (fun _ _ _ => ⟨fun _ => ?_, fun a => absurd n00 a⟩) (fun o => (o s hs rfl).elim))
      have w0 := sw_le hV.ro hV.yo (show s < 3 by omega) (show 0 < 3 by omega)
      have w1 := sw_le hV.ro hV.yo (show s < 3 by omega) (show 1 < 3 by omega)
      have w2 := sw_le hV.ro hV.yo (show s < 3 by omega) (show 2 < 3 by omega)
      have step3 : ∀ m, nI m = nI (hvF R Y s) → G (d + 3) 92 18 [(0, .ref 0), (1, .int (nI s)), (2, .int (nI m)), (3, .int (nI 3))] [] r g j (rkI (EX (nI (hvF R Y s)) (nI 0) r g)) := by
        intro m hm
        rw [hm]
        exact vX9_heaviest_18 ⟨fun _ => X_ans Ag.rf, fun a => absurd (Int32.le_refl _) a⟩
      have step2 : ∀ m, m < 2 → (if sw R Y s m < sw R Y s 2 then 2 else m) = hvF R Y s → G (d + 3) 92 18 [(0, .ref 0), (1, .int (nI s)), (2, .int (nI m)), (3, .int (nI 2))] [] r g j (rkI (EX (nI (hvF R Y s)) (nI 0) r g)) := by
        intro m hm he
        have wm := sw_le hV.ro hV.yo (show s < 3 by omega) (show m < 3 by omega)
        refine vX9_heaviest_18 ⟨fun a => absurd a (nI_ge (by decide) (by decide)), fun _ => ⟨p, hV.rp, X_stackWeighs hV (by omega) (by decide) ⟨p, hV.rp, X_stackWeighs hV (by omega) (by omega) ⟨fun a => vX9_heaviest_54 ?_, fun a => vX9_heaviest_54 ?_⟩⟩⟩⟩
        · have a := le_n (by omega) (by omega) a
          rw [nI_add]
          exact step3 m (by rw [← he, if_neg (by omega)])
        · have a : ¬ (sw R Y s 2 ≤ sw R Y s m) := fun z => a (nI_le z (by omega))
          rw [nI_add]
          exact step3 2 (by rw [← he, if_pos (by omega)])
      refine vX9_heaviest_18 ⟨fun a => absurd a (nI_ge (by decide) (by decide)), fun _ => ⟨p, hV.rp, X_stackWeighs hV (by omega) (by decide) ⟨p, hV.rp, X_stackWeighs hV (by omega) (by decide) ⟨fun a => vX9_heaviest_54 ?_, fun a => vX9_heaviest_54 ?_⟩⟩⟩⟩
      · have a := le_n (by omega) (by omega) a
        rw [nI_add]
        refine step2 0 (by decide) ?_
        unfold hvF
        rw [if_neg (show ¬ sw R Y s 0 < sw R Y s 1 by omega)]
      · have a : ¬ (sw R Y s 1 ≤ sw R Y s 0) := fun z => a (nI_le z (by omega))
        rw [nI_add]
        refine step2 1 (by decide) ?_
        unfold hvF
        rw [if_pos (show sw R Y s 0 < sw R Y s 1 by omega)]
    · refine vX10_heaviest_0 (M_good fun g2 ha ht h7 => M_isShip (hV.ag ha) (fun _ _ _ => ⟨fun a => absurd a n10, fun _ => ?_⟩) (fun o => (o s hs rfl).elim))
      have hV2 := hV.ag ha
      have w0 := sw_le hV.ro hV.yo (show s < 3 by omega) (show 0 < 3 by omega)
      have w1 := sw_le hV.ro hV.yo (show s < 3 by omega) (show 1 < 3 by omega)
      have w2 := sw_le hV.ro hV.yo (show s < 3 by omega) (show 2 < 3 by omega)
      have step3 : ∀ m, nI m = nI (hvF R Y s) → G (d + 3) 216 22 [(0, .ref 263), (1, .int (nI s)), (2, .int (nI m)), (3, .int (nI 3))] [] r g2 j (rkI (EM (nI (hvF R Y s)) (nI 0) r g)) := by
        intro m hm
        rw [hm]
        exact vX10_heaviest_22 ⟨fun _ => ⟨rfl, rfl, ha, ht, h7⟩, fun a => absurd (Int32.le_refl _) a⟩
      have step2 : ∀ m, m < 2 → (if sw R Y s m < sw R Y s 2 then 2 else m) = hvF R Y s → G (d + 3) 216 22 [(0, .ref 263), (1, .int (nI s)), (2, .int (nI m)), (3, .int (nI 2))] [] r g2 j (rkI (EM (nI (hvF R Y s)) (nI 0) r g)) := by
        intro m hm he
        have wm := sw_le hV.ro hV.yo (show s < 3 by omega) (show m < 3 by omega)
        refine vX10_heaviest_22 ⟨fun a => absurd a (nI_ge (by decide) (by decide)), fun _ => M_weightOn hV2 (by omega) (by decide) (M_weightOn hV2 (by omega) (by omega) ⟨fun a => vX10_heaviest_47 ?_, fun a => vX10_heaviest_47 ?_⟩)⟩
        · have a := le_n (by omega) (by omega) a
          rw [nI_add]
          exact step3 m (by rw [← he, if_neg (by omega)])
        · have a : ¬ (sw R Y s 2 ≤ sw R Y s m) := fun z => a (nI_le z (by omega))
          rw [nI_add]
          exact step3 2 (by rw [← he, if_pos (by omega)])
      refine vX10_heaviest_22 ⟨fun a => absurd a (nI_ge (by decide) (by decide)), fun _ => M_weightOn hV2 (by omega) (by decide) (M_weightOn hV2 (by omega) (by decide) ⟨fun a => vX10_heaviest_47 ?_, fun a => vX10_heaviest_47 ?_⟩)⟩
      · have a := le_n (by omega) (by omega) a
        rw [nI_add]
        refine step2 0 (by decide) ?_
        unfold hvF
        rw [if_neg (show ¬ sw R Y s 0 < sw R Y s 1 by omega)]
      · have a : ¬ (sw R Y s 1 ≤ sw R Y s 0) := fun z => a (nI_le z (by omega))
        rw [nI_add]
        refine step2 1 (by decide) ?_
        unfold hvF
        rw [if_pos (show sw R Y s 0 < sw R Y s 1 by omega)]
  · refine ⟨-1, nI 1, e1, fun g j hV => ?_, fun g j hV => ?_⟩
    · exact vX9_heaviest_0 (X_noShip hV (fun k hk e => (ho k hk e).elim) (fun o => ⟨fun a => absurd a n10, fun _ => X_ref Ag.rf⟩))
    · exact vX10_heaviest_0 (M_good fun g2 ha ht h7 => M_isShip (hV.ag ha) (fun k hk e => (ho k hk e).elim) (fun o => ⟨fun _ => M_no ha h7, fun a => absurd n00 a⟩))
end
