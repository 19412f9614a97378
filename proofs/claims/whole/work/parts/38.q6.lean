/-! SPECS: winter and lates in the reference; both queries -/
def Ag1 (g g' : Gi) : Prop := Ag g g' ∧ g' 263 11 = g 263 11 ∧ g' 0 7 = g 0 7
theorem Ag1.rf {g : Gi} : Ag1 g g := ⟨Ag.rf, rfl, rfl⟩
theorem Ag1.tr {g g' g'' : Gi} (h : Ag1 g g') (h' : Ag1 g' g'') : Ag1 g g'' := ⟨h.1.tr h'.1, h'.2.1.trans h.2.1, h'.2.2.trans h.2.2⟩
theorem uI_d {g : Gi} {a k a' k' : Nat} {v : Int32} (h : ¬ (a' = a ∧ k' = k)) : uI g a k v a' k' = g a' k' := by
  by_cases ha : a' = a
  · subst ha
    exact uI_n (fun e => h ⟨rfl, e⟩)
  · rw [uI_o ha]
theorem Ag1.u {g g' : Gi} {a k : Nat} {v : Int32} (h : Ag1 g g') (e : exc a k = true) (e1 : ¬ (263 = a ∧ 11 = k)) (e2 : ¬ (0 = a ∧ 7 = k)) : Ag1 g (uI g' a k v) :=
  ⟨h.1.u e, by rw [uI_d e1]; exact h.2.1, by rw [uI_d e2]; exact h.2.2⟩
section
variable {n p b d : Nat} {R Y : Nat → Nat} {r : Rr} {g : Gi} {j : Gl} {K : Int32 → Rr → Gi → Gl → Prop} {x x1 x2 : Int32} {Q : QT}
def bitF (R : Nat → Nat) (s : Nat) : Nat → Nat
  | 0 => 0
  | i + 1 => bitF R s i + 2 ^ i * ltF R i (seedF s (i + 1))
theorem bitF_lt (R : Nat → Nat) (s : Nat) : ∀ i, bitF R s i < 2 ^ i := by
  intro i
  induction i with
  | zero => exact Nat.one_pos
  | succ i ih =>
    have := ltF_01 R i (seedF s (i + 1))
    unfold bitF
    rw [Nat.pow_succ]
    rcases this with e | e <;> rw [e] <;> omega
theorem or_bit : ∀ i, i < 3 → ∀ c, c < 2 ^ i → (nI c ||| (nI 1 <<< (nI i &&& 31))) = nI (c + 2 ^ i) := by decide +kernel
theorem or_0 : ∀ c, c < 8 → (nI c ||| nI 0) = nI c := by decide +kernel
theorem sh_bit : ∀ i, i < 3 → ∀ c, c < 8 → (nI c >>> (nI i &&& 31)) &&& nI 1 = nI (c / 2 ^ i % 2) := by decide +kernel
theorem M_go_loop {K : Rr → Gi → Gl → Prop} {s : Nat} (hs : s ≤ 65536) (h4 : R 4 ≤ 3) : ∀ q i g, i + q = R 4 → Vw n p b R Y r g → g 263 33 = nI (seedF s i) → g 263 34 = nI (lastF R s i) → g 263 35 = nI (bitF R s i) →
    (∀ g', Ag1 g g' → g' 263 33 = nI (seedF s (R 4)) → g' 263 34 = nI (lastF R s (R 4)) → g' 263 35 = nI (bitF R s (R 4)) → K r g' j) → G (d + 1) 240 12 [(0, .ref 263), (1, .int (nI i))] [] r g j (rkV K) := by
  intro q
  induction q with
  | zero =>
    intro i g hi hV c1 c2 c3 h
    have : i = R 4 := by omega
    subst this
    exact vX10_goThrough_12 (IX_l (by decide) ⟨fun _ => h g Ag1.rf c1 c2 c3, fun a => absurd (by rw [hV.mr (by decide)]; exact nI_le (by omega) (by omega)) a⟩)
  | succ q ih =>
    intro i g hi hV c1 c2 c3 h
    have hl := lastF_le hV.ro s i (by omega)
    have hsi := seedF_lt hs i
    have hsi1 := seedF_lt hs (i + 1)
    have hr := hV.ro.2.2.2.1 i (by omega)
    have hb := bitF_lt R s i
    have hp8 : 2 ^ i ≤ 4 := by
      have : i = 0 ∨ i = 1 ∨ i = 2 := by omega
      rcases this with rfl | rfl | rfl <;> decide
    have h01 := ltF_01 R i (seedF s (i + 1))
    have hcm : cmF R i (seedF s (i + 1)) ≤ 90 := by unfold cmF; split <;> omega
    refine vX10_goThrough_12 (IX_l (by decide) ⟨fun a => absurd a (by rw [hV.mr (by decide)]; exact nI_ge (by omega) (by omega)), fun _ => ⟨n65, n100, ?_⟩⟩)
    rw [c1, nI_dr hsi]
    have e1 : drF (seedF s i) = seedF s (i + 1) := rfl
    rw [e1, nI_h hsi1]
    obtain ⟨g1, hg1⟩ : ∃ z, z = uI g 263 33 (nI (seedF s (i + 1))) := ⟨_, rfl⟩
    rw [← hg1]
    have a1 : Ag1 g g1 := by rw [hg1]; exact Ag1.rf.u rfl (by decide) (by decide)
    have d1 : g1 263 33 = nI (seedF s (i + 1)) := by rw [hg1]; exact uI_s
    have d2 : g1 263 34 = nI (lastF R s i) := by rw [hg1, uI_d (by decide)]; exact c2
    have d3 : g1 263 35 = nI (bitF R s i) := by rw [hg1, uI_d (by decide)]; exact c3
    have hV1 := hV.ag a1.1
    refine M_ofShip hV1 (s := i) (w := 1) (by omega) (by decide) ?_
    rw [show 9 + 4 * i + 1 = 10 + 4 * i by omega]
    have last : ∀ z, z = cmF R i (seedF s (i + 1)) → ∀ g2, Ag1 g g2 → g2 263 33 = nI (seedF s (i + 1)) → g2 263 34 = nI (lastF R s i) → g2 263 35 = nI (bitF R s (i + 1)) → ∀ y w, y + w = z → G (d + 1) 240 102 [(0, .ref 263), (1, .int (nI i))] [.int (nI w), .int (nI y)] r g2 j (rkV K) := by
      intro z hz g2 a2 f1 f2 f3 y w hyw
      have fin : ∀ v, v = lastF R s (i + 1) → G (d + 1) 240 121 [(0, .ref 263), (1, .int (nI i))] [.int (nI v), .ref 263] r g2 j (rkV K) := by
        intro v hv
        refine vX10_goThrough_121 ?_
        rw [nI_add]
        have a3 : Ag1 g (uI g2 263 34 (nI v)) := a2.u rfl (by decide) (by decide)
        refine ih (i + 1) _ (by omega) (hV.ag a3.1) (by rw [uI_d (by decide)]; exact f1) (by rw [uI_s, hv]) (by rw [uI_d (by decide)]; exact f3) (fun g' b1 b2 b3 b4 => h g' (a3.tr b1) b2 b3 b4)
      refine vX10_goThrough_102 ⟨fun e => ?_, fun e => ?_⟩
      · rw [f2, nI_add] at e
        have := le_n (by omega) (by omega) e
        rw [f2]
        refine fin _ ?_
        show lastF R s i = if lastF R s i < cmF R i (seedF s (i + 1)) then cmF R i (seedF s (i + 1)) else lastF R s i
        rw [if_neg (by omega)]
      · rw [f2, nI_add] at e
        have : ¬ (y + w ≤ lastF R s i) := fun q => e (nI_le q (by omega))
        rw [nI_add]
        refine fin _ ?_
        show y + w = if lastF R s i < cmF R i (seedF s (i + 1)) then cmF R i (seedF s (i + 1)) else lastF R s i
        rw [if_pos (by omega)]
        omega
    have mid : ∀ l, l = ltF R i (seedF s (i + 1)) → G (d + 1) 240 61 [(0, .ref 263), (1, .int (nI i))] [.int (nI l)] r g1 j (rkV K) := by
      intro l hl2
      have fin2 : ∀ w : Int32, (nI (bitF R s i) ||| w) = nI (bitF R s (i + 1)) → G (d + 1) 240 78 [(0, .ref 263), (1, .int (nI i)), (2, .int (nI l))] [.int w, .int (g1 263 35), .ref 263] r g1 j (rkV K) := by
        intro w hw
        refine vX10_goThrough_78 ?_
        rw [d3, hw]
        have a2 : Ag1 g (uI g1 263 35 (nI (bitF R s (i + 1)))) := a1.u rfl (by decide) (by decide)
        have f1 : uI g1 263 35 (nI (bitF R s (i + 1))) 263 33 = nI (seedF s (i + 1)) := by rw [uI_d (by decide)]; exact d1
        have f2 : uI g1 263 35 (nI (bitF R s (i + 1))) 263 34 = nI (lastF R s i) := by rw [uI_d (by decide)]; exact d2
        refine M_ofShip (hV.ag a2.1) (s := i) (w := 0) (by omega) (by decide) ⟨fun e => ?_, fun e => M_ofShip (hV.ag a2.1) (s := i) (w := 2) (by omega) (by decide) ?_⟩
        · rw [nI_z (by omega)] at e
          refine last _ rfl _ a2 f1 f2 uI_s _ 0 ?_
          unfold cmF
          rw [if_pos (by omega), show 9 + 4 * i + 0 = 9 + 4 * i by omega]
        · rw [nI_z (by omega)] at e
          refine last _ rfl _ a2 f1 f2 uI_s _ _ ?_
          unfold cmF
          rw [if_neg (by omega), show 9 + 4 * i + 0 = 9 + 4 * i by omega, show 9 + 4 * i + 2 = 11 + 4 * i by omega]
      refine vX10_goThrough_61 ⟨fun e => fin2 _ ?_, fun e => fin2 _ ?_⟩
      · rw [nI_z (by omega)] at e
        rw [or_0 _ (by omega)]
        show _ = nI (bitF R s i + 2 ^ i * ltF R i (seedF s (i + 1)))
        rw [← hl2, e, Nat.mul_zero, Nat.add_zero]
      · rw [nI_z (by omega)] at e
        rw [or_bit i (by omega) _ hb]
        show _ = nI (bitF R s i + 2 ^ i * ltF R i (seedF s (i + 1)))
        rw [← hl2, show l = 1 by omega, Nat.mul_one]
    refine ⟨fun e => mid 0 ?_, fun e => mid 1 ?_⟩
    · have := le_n (by omega) (by omega) e
      unfold ltF
      rw [if_neg (by omega)]
    · have : ¬ (R (10 + 4 * i) ≤ seedF s (i + 1) % 100) := fun z => e (nI_le z (by omega))
      unfold ltF
      rw [if_pos (by omega)]
theorem M_goThrough {K : Rr → Gi → Gl → Prop} {s : Nat} (hs : s ≤ 65536) (hV : Vw n p b R Y r g) (c1 : g 263 33 = nI s) (h : ∀ g', Ag1 g g' → g' 263 33 = nI (seedF s (R 4)) → g' 263 34 = nI (lastF R s (R 4)) → g' 263 35 = nI (bitF R s (R 4)) → K r g' j) : Cm (d + 1) 240 [.ref 263] r g j (rkV K) := by
  refine vX10_goThrough_0 ?_
  have a1 : Ag1 g (uI (uI g 263 34 (nI 0)) 263 35 (nI 0)) := (Ag1.rf.u rfl (by decide) (by decide)).u rfl (by decide) (by decide)
  refine M_go_loop hs hV.b4 (R 4) 0 _ (by omega) (hV.ag a1.1) ?_ ?_ ?_ (fun g' b1 b2 b3 b4 => h g' (a1.tr b1) b2 b3 b4)
  · rw [uI_d (by decide), uI_d (by decide)]; exact c1
  · rw [uI_d (by decide)]; exact uI_s
  · exact uI_s
theorem q_winter (x1 : Int32) : PQ n p b R Y r (d + 3) 110 241 [.int x1] := by
  by_cases hb : b = 0
  · refine ⟨-1, nI 1, e1, fun g j hV => ?_, fun g j hV => ?_⟩
    · exact vX9_winter_0 ⟨fun _ => X_ref Ag.rf, fun a => absurd (hV.tx0 hb) a⟩
    · exact vX10_winter_0 (M_good fun g2 ha ht h7 => ⟨fun _ => M_no ha h7, fun a => absurd ((hV.ag ha).tm0 hb) a⟩)
  · rcases in_or x1 (n := 65537) (by decide) with ⟨s, hs, rfl⟩ | ho
    · refine ⟨nI (lastF R s (R 4)), nI 0, e0, fun g j hV => ?_, fun g j hV => ?_⟩
      · exact vX9_winter_0 ⟨fun a => absurd a (hV.tx1 hb), fun _ => X_noSeed (fun _ _ _ => ⟨fun _ => X_winter_loop hV (by omega) Ag.rf (R 4) 0 (by omega), fun a => absurd n00 a⟩) (fun o => (o s hs rfl).elim)⟩
      · refine vX10_winter_0 (M_good fun g2 ha ht h7 => ⟨fun a => absurd a ((hV.ag ha).tm1 hb), fun _ => M_in 65536 (by decide) (fun _ _ _ => ⟨fun a => absurd a n10, fun _ => ?_⟩) (fun o => (o s hs rfl).elim)⟩)
        have a1 : Ag1 g2 (uI g2 263 33 (nI s)) := Ag1.rf.u rfl (by decide) (by decide)
        exact M_goThrough (s := s) (by omega) ((hV.ag ha).ag a1.1) uI_s fun g' b1 b2 b3 b4 => ⟨b3, rfl, ha.tr (a1.1.tr b1.1), by rw [(a1.tr b1).2.1]; exact ht, by rw [(a1.tr b1).2.2]; exact h7⟩
    · refine ⟨-1, nI 2, e2, fun g j hV => ?_, fun g j hV => ?_⟩
      · exact vX9_winter_0 ⟨fun a => absurd a (hV.tx1 hb), fun _ => X_noSeed (fun k hk e => (ho k (by omega) e).elim) (fun o => ⟨fun a => absurd a n10, fun _ => X_ref Ag.rf⟩)⟩
      · exact vX10_winter_0 (M_good fun g2 ha ht h7 => ⟨fun a => absurd a ((hV.ag ha).tm1 hb), fun _ => M_in 65536 (by decide) (fun k hk e => (ho k (by omega) e).elim) (fun o => ⟨fun _ => M_no ha h7, fun a => absurd n00 a⟩)⟩)
/-- in how many of the first k winters the ship is late -/
def ltsF (R : Nat → Nat) (ship s : Nat) : Nat → Nat
  | 0 => 0
  | k + 1 => ltsF R ship s k + ltF R ship (seedF s (k * R 4 + ship + 1))
theorem ltsF_le (R : Nat → Nat) (ship s : Nat) : ∀ k, ltsF R ship s k ≤ k := by
  intro k
  induction k with
  | zero => exact Nat.le_refl _
  | succ k ih =>
    have := ltF_01 R ship (seedF s (k * R 4 + ship + 1))
    unfold ltsF
    omega
theorem bit_ship (R : Nat → Nat) (s : Nat) : ∀ i ship, ship < i → i ≤ 3 → bitF R s i / 2 ^ ship % 2 = ltF R ship (seedF s (ship + 1)) := by
  intro i
  induction i with
  | zero => intro ship h; omega
  | succ i ih =>
    intro ship h h3
    have hb := bitF_lt R s i
    have h01 := ltF_01 R i (seedF s (i + 1))
    unfold bitF
    by_cases e : ship = i
    · subst e
      rw [Nat.add_mul_div_left _ _ (Nat.two_pow_pos ship), Nat.div_eq_of_lt hb]
      omega
    · have := ih ship (by omega) (by omega)
      rw [← this]
      obtain ⟨m, rfl⟩ : ∃ m, i = ship + 1 + m := ⟨i - ship - 1, by omega⟩
      have e2 : 2 ^ (ship + 1 + m) * ltF R (ship + 1 + m) (seedF s (ship + 1 + m + 1)) = 2 ^ ship * (2 * (2 ^ m * ltF R (ship + 1 + m) (seedF s (ship + 1 + m + 1)))) := by
        rw [Nat.pow_add, Nat.pow_add]; simp [Nat.mul_assoc, Nat.mul_left_comm, Nat.mul_comm]
      rw [e2, Nat.add_mul_div_left _ _ (Nat.two_pow_pos ship)]
      omega
theorem X_lates_in (hV : Vw n p b R Y r g) {ship s0 s m k cnt : Nat} (hsh : ship < R 4) (hs : s ≤ 65536) : ∀ q i c, i + q = R 4 → c = cnt + (if ship < i then ltF R ship (seedF s (ship + 1)) else 0) → cnt ≤ 60 →
    (G (d + 2) 111 47 [(0, .ref 0), (1, .int (nI ship)), (3, .int (nI m)), (4, .int (nI (cnt + ltF R ship (seedF s (ship + 1))))), (5, .int (nI (seedF s (R 4)))), (6, .int (nI (k + 1)))] [] r g j Q) →
    G (d + 2) 111 56 [(0, .ref 0), (1, .int (nI ship)), (3, .int (nI m)), (4, .int (nI c)), (5, .int (nI (seedF s i))), (6, .int (nI k)), (7, .int (nI i))] [] r g j Q := by
  have h4 := hV.b4
  intro q
  induction q with
  | zero =>
    intro i c hi hc hcn h
    have : i = R 4 := by omega
    subst this
    rw [if_pos hsh] at hc
    subst hc
    refine vX9_lates_56 ⟨p, hV.rp, OB_i (SH_p hV.hp) ⟨fun _ => ?_, fun a => absurd (by rw [hV.px.1.2.2.2.2.1]; exact nI_le (by omega) (by omega)) a⟩⟩
    rw [nI_add]
    exact h
  | succ q ih =>
    intro i c hi hc hcn h
    have hsi := seedF_lt hs i
    have hsi1 := seedF_lt hs (i + 1)
    have h01 := ltF_01 R i (seedF s (i + 1))
    refine vX9_lates_56 ⟨p, hV.rp, OB_i (SH_p hV.hp) ⟨fun a => absurd a (by rw [hV.px.1.2.2.2.2.1]; exact nI_ge (by omega) (by omega)), fun _ => X_draw hsi ⟨fun e => ⟨p, hV.rp, ship_f hV.hp rfl (by omega) (X_isLateBy (s := seedF s (i + 1)) hV (by omega) hsi1 ⟨fun e2 => vX9_lates_102 ?_, fun e2 => vX9_lates_102 ?_⟩)⟩, fun e => vX9_lates_102 ?_⟩⟩⟩
    · rw [nI_eq (by omega) (by omega)] at e
      subst e
      rw [nI_z (by omega)] at e2
      rw [if_neg (by omega)] at hc
      rw [nI_add]
      refine ih (i + 1) _ (by omega) ?_ hcn h
      rw [if_pos (by omega), e2]; exact hc
    · rw [nI_eq (by omega) (by omega)] at e
      subst e
      rw [nI_z (by omega)] at e2
      rw [if_neg (by omega)] at hc
      rw [nI_add, nI_add]
      refine ih (i + 1) _ (by omega) ?_ hcn h
      rw [if_pos (by omega)]; omega
    · rw [nI_eq (by omega) (by omega)] at e
      rw [nI_add]
      refine ih (i + 1) _ (by omega) ?_ hcn h
      rw [hc]
      congr 1
      by_cases z : ship < i
      · rw [if_pos z, if_pos (by omega)]
      · rw [if_neg z, if_neg (by omega)]
theorem X_lates_out (hV : Vw n p b R Y r g) {ship s m : Nat} (hsh : ship < R 4) (hs : s ≤ 65536) (hm : m ≤ 60) {g0 : Gi} (ha : Ag g0 g) : ∀ q k, k + q = m → G (d + 2) 111 47 [(0, .ref 0), (1, .int (nI ship)), (3, .int (nI m)), (4, .int (nI (ltsF R ship s k))), (5, .int (nI (seedF s (k * R 4)))), (6, .int (nI k))] [] r g j (rkI (EX (nI (ltsF R ship s m)) (nI 0) r g0)) := by
  have h4 := hV.b4
  intro q
  induction q with
  | zero =>
    intro k hk
    have : k = m := by omega
    subst this
    exact vX9_lates_47 ⟨fun _ => X_ans ha, fun a => absurd (Int32.le_refl _) a⟩
  | succ q ih =>
    intro k hk
    have hl := ltsF_le R ship s k
    refine vX9_lates_47 ⟨fun a => absurd a (nI_ge (by omega) (by omega)), fun _ => ?_⟩
    refine X_lates_in (s0 := 0) (s := seedF s (k * R 4)) (cnt := ltsF R ship s k) hV hsh (seedF_lt hs _) (R 4) 0 _ (by omega) (by rw [if_neg (by omega)]; rfl) (by omega) ?_
    have := ih (k + 1) (by omega)
    rw [← seedF_add, ← seedF_add]
    have e1 : ltsF R ship s k + ltF R ship (seedF s (k * R 4 + (ship + 1))) = ltsF R ship s (k + 1) := rfl
    have e2 : k * R 4 + R 4 = (k + 1) * R 4 := by rw [Nat.succ_mul]
    rw [e1, e2]
    exact this
theorem M_lates_out {ship s m : Nat} (h4 : R 4 ≤ 3) (hsh : ship < R 4) (hs : s ≤ 65536) (hm : m ≤ 60) : ∀ q k g, k + q = m → Vw n p b R Y r g → g 263 33 = nI (seedF s (k * R 4)) → (∀ g', Ag1 g g' → K (nI (ltsF R ship s m)) r g' j) → G (d + 2) 242 56 [(0, .ref 263), (1, .int (nI ship)), (3, .int (nI m)), (4, .int (nI (ltsF R ship s k))), (5, .int (nI k))] [] r g j (rkI K) := by
  intro q
  induction q with
  | zero =>
    intro k g hk hV c1 h
    have : k = m := by omega
    subst this
    exact vX10_lates_56 ⟨fun _ => h g Ag1.rf, fun a => absurd (Int32.le_refl _) a⟩
  | succ q ih =>
    intro k g hk hV c1 h
    refine vX10_lates_56 ⟨fun a => absurd a (nI_ge (by omega) (by omega)), fun _ => M_goThrough (s := seedF s (k * R 4)) (seedF_lt hs _) hV c1 fun g' b1 b2 b3 b4 => ?_⟩
    have hb := bitF_lt R (seedF s (k * R 4)) (R 4)
    have hp8 : 2 ^ (R 4) ≤ 8 := by
      have : R 4 = 0 ∨ R 4 = 1 ∨ R 4 = 2 ∨ R 4 = 3 := by omega
      rcases this with e | e | e | e <;> rw [e] <;> decide
    rw [b4, sh_bit ship (by omega) _ (by omega), bit_ship R _ (R 4) ship hsh h4, nI_add, nI_add, ← seedF_add]
    have e1 : ltsF R ship s k + ltF R ship (seedF s (k * R 4 + (ship + 1))) = ltsF R ship s (k + 1) := rfl
    rw [e1]
    refine ih (k + 1) g' (by omega) (hV.ag b1.1) ?_ (fun g2 c2 => h g2 (b1.tr c2))
    rw [b2, ← seedF_add, Nat.succ_mul]
theorem q_lates (x1 x2 x3 : Int32) (h4 : R 4 ≤ 3) : PQ n p b R Y r (d + 4) 111 242 [.int x1, .int x2, .int x3] := by
  have in60 : ∀ x : Int32, (∃ m, 1 ≤ m ∧ m ≤ 60 ∧ x = nI m) ∨ (x < nI 1) ∨ (nI 60 < x ∧ ¬ x < nI 1) := fun x => in_1 x 60 (by decide)
  rcases in_or x1 (n := R 4) (by omega) with ⟨ship, hsh, rfl⟩ | ho
  · rcases in_or x2 (n := 65537) (by decide) with ⟨s, hs, rfl⟩ | ho2
    · rcases in60 x3 with ⟨m, hm1, hm2, rfl⟩ | hlt | ⟨hgt, hnl⟩
      · refine ⟨nI (ltsF R ship s m), nI 0, e0, fun g j hV => ?_, fun g j hV => ?_⟩
        · refine vX9_lates_0 (X_noShip hV (fun _ _ _ => ⟨fun _ => X_noSeed (fun _ _ _ => ⟨fun _ => ⟨fun a => absurd a (nI_nlt (by omega) (by omega)), fun _ => ⟨fun _ => ?_, fun a => absurd (nI_le (by omega) (by omega)) a⟩⟩, fun a => absurd n00 a⟩) (fun o => (o s hs rfl).elim), fun a => absurd n00 a⟩) (fun o => (o ship hsh rfl).elim))
          have := X_lates_out (d := d + 2) (j := j) hV hsh (show s ≤ 65536 by omega) hm2 Ag.rf m 0 (by omega)
          rw [Nat.zero_mul] at this
          exact this
        · refine vX10_lates_0 (M_good fun g2 ha ht h7 => M_isShip (hV.ag ha) (fun _ _ _ => ⟨fun a => absurd a n10, fun _ => M_in 65536 (by decide) (fun _ _ _ => ⟨fun a => absurd a n10, fun _ => vX10_in_0 ⟨fun a => absurd a (nI_nlt (by omega) (by omega)), fun _ => ⟨fun a => absurd a (nI_nlt (by omega) (by omega)), fun _ => ⟨bo1, ⟨fun a => absurd a n10, fun _ => ?_⟩⟩⟩⟩⟩) (fun o => (o s hs rfl).elim)⟩) (fun o => (o ship hsh rfl).elim))
          have a1 : Ag1 g2 (uI g2 263 33 (nI s)) := Ag1.rf.u rfl (by decide) (by decide)
          exact M_lates_out h4 hsh (show s ≤ 65536 by omega) hm2 m 0 _ (by omega) ((hV.ag ha).ag a1.1) (by rw [Nat.zero_mul]; exact uI_s) fun g' b1 => ⟨rfl, rfl, ha.tr (a1.1.tr b1.1), by rw [(a1.tr b1).2.1]; exact ht, by rw [(a1.tr b1).2.2]; exact h7⟩
      · refine ⟨-1, nI 2, e2, fun g j hV => ?_, fun g j hV => ?_⟩
        · exact vX9_lates_0 (X_noShip hV (fun _ _ _ => ⟨fun _ => X_noSeed (fun _ _ _ => ⟨fun _ => ⟨fun _ => vX9_lates_32 (X_ref Ag.rf), fun a => absurd hlt a⟩, fun a => absurd n00 a⟩) (fun o => (o s hs rfl).elim), fun a => absurd n00 a⟩) (fun o => (o ship hsh rfl).elim))
        · exact vX10_lates_0 (M_good fun g2 ha ht h7 => M_isShip (hV.ag ha) (fun _ _ _ => ⟨fun a => absurd a n10, fun _ => M_in 65536 (by decide) (fun _ _ _ => ⟨fun a => absurd a n10, fun _ => vX10_in_0 ⟨fun _ => ⟨bo0, ⟨fun _ => vX10_lates_39 (M_no ha h7), fun a => absurd n00 a⟩⟩, fun a => absurd hlt a⟩⟩) (fun o => (o s hs rfl).elim)⟩) (fun o => (o ship hsh rfl).elim))
      · refine ⟨-1, nI 2, e2, fun g j hV => ?_, fun g j hV => ?_⟩
        · exact vX9_lates_0 (X_noShip hV (fun _ _ _ => ⟨fun _ => X_noSeed (fun _ _ _ => ⟨fun _ => ⟨fun a => absurd a hnl, fun _ => ⟨fun a => absurd a (nle_of hgt), fun _ => vX9_lates_32 (X_ref Ag.rf)⟩⟩, fun a => absurd n00 a⟩) (fun o => (o s hs rfl).elim), fun a => absurd n00 a⟩) (fun o => (o ship hsh rfl).elim))
        · exact vX10_lates_0 (M_good fun g2 ha ht h7 => M_isShip (hV.ag ha) (fun _ _ _ => ⟨fun a => absurd a n10, fun _ => M_in 65536 (by decide) (fun _ _ _ => ⟨fun a => absurd a n10, fun _ => vX10_in_0 ⟨fun a => absurd a hnl, fun _ => ⟨fun _ => ⟨bo0, ⟨fun _ => vX10_lates_39 (M_no ha h7), fun a => absurd n00 a⟩⟩, fun a => absurd hgt a⟩⟩⟩) (fun o => (o s hs rfl).elim)⟩) (fun o => (o ship hsh rfl).elim))
    · refine ⟨-1, nI 2, e2, fun g j hV => ?_, fun g j hV => ?_⟩
      · exact vX9_lates_0 (X_noShip hV (fun _ _ _ => ⟨fun _ => X_noSeed (fun k hk e => (ho2 k (by omega) e).elim) (fun _ => ⟨fun a => absurd a n10, fun _ => vX9_lates_32 (X_ref Ag.rf)⟩), fun a => absurd n00 a⟩) (fun o => (o ship hsh rfl).elim))
      · exact vX10_lates_0 (M_good fun g2 ha ht h7 => M_isShip (hV.ag ha) (fun _ _ _ => ⟨fun a => absurd a n10, fun _ => M_in 65536 (by decide) (fun k hk e => (ho2 k (by omega) e).elim) (fun _ => ⟨fun _ => vX10_lates_39 (M_no ha h7), fun a => absurd n00 a⟩)⟩) (fun o => (o ship hsh rfl).elim))
  · refine ⟨-1, nI 1, e1, fun g j hV => ?_, fun g j hV => ?_⟩
    · exact vX9_lates_0 (X_noShip hV (fun k hk e => (ho k hk e).elim) (fun _ => ⟨fun a => absurd a n10, fun _ => X_ref Ag.rf⟩))
    · exact vX10_lates_0 (M_good fun g2 ha ht h7 => M_isShip (hV.ag ha) (fun k hk e => (ho k hk e).elim) (fun _ => ⟨fun _ => M_no ha h7, fun a => absurd n00 a⟩))
end
