/-! SPECS: come, allCome, mean (longs, lowest terms) -/
section
variable {n p b d : Nat} {R Y : Nat → Nat} {r : Rr} {g : Gi} {j : Gl} {K : Int64 → Rr → Gi → Gl → Prop} {x x1 x2 x3 : Int32} {Q : QT}
def EXl (v : Int64) (e : Int32) (r : Rr) (g : Gi) : Int64 → Rr → Gi → Gl → Prop := fun v' r' g' _ => v' = v ∧ r' = r ∧ Ag g g' ∧ g' 0 7 = e
def EMl (v : Int64) (e : Int32) (r : Rr) (g : Gi) : Int64 → Rr → Gi → Gl → Prop := fun v' r' g' _ => v' = v ∧ r' = r ∧ Ag g g' ∧ g' 263 11 = e ∧ g' 0 7 = g 0 7
def PQl (n p b : Nat) (R Y : Nat → Nat) (r : Rr) (d xm mm : Nat) (as : List Value) : Prop := ∃ (v : Int64) (e : Int32), e ≠ nI 4 ∧
  (∀ g j, Vw n p b R Y r g → Cm d xm (.ref 0 :: as) r g j (rkJ (EXl v e r g))) ∧ (∀ g j, Vw n p b R Y r g → Cm d mm (.ref 263 :: as) r g j (rkJ (EMl v e r g)))
theorem X_refl {e : Int32} : Cm d 121 [.ref 0, .int e] r g j (rkI (fun y r2 g2 j2 => rkJ (EXl (-1 : Int32).toInt64 e r g) (some (.long y.toInt64)) r2 g2 j2)) := vX9_refused_0 ⟨rfl, rfl, Ag.rf.u rfl, uI_s⟩
theorem M_nol {e : Int32} {g0 : Gi} (h : Ag g0 g) (h7 : g 0 7 = g0 0 7) : Cm d 142 [.ref 263, .int e] r g j (rkI (fun y r2 g2 j2 => rkJ (EMl (-1 : Int32).toInt64 e r g0) (some (.long y.toInt64)) r2 g2 j2)) := vX10_no_0 ⟨rfl, rfl, h.u rfl, uI_s, h7⟩
theorem lg0 {a : Nat} (h : a < 2 ^ 62) : lg_cmp (lN a) (lN 0) = 0 ↔ a = 0 := by
  unfold lg_cmp
  by_cases e : a = 0
  · subst e
    rw [if_neg (by decide +kernel), if_pos rfl]
    exact ⟨fun _ => rfl, fun _ => rfl⟩
  · have : lN a > lN 0 := (pk_lLT (by decide) (by omega)).mpr (by omega)
    rw [if_pos this]
    exact ⟨fun z => absurd z (by decide +kernel), fun z => absurd z e⟩
theorem lg1 {a : Nat} (h : a < 2 ^ 62) : 0 < lg_cmp (lN a) (lN 0) ↔ 0 < a := by
  unfold lg_cmp
  by_cases e : a = 0
  · subst e
    rw [if_neg (by decide +kernel), if_pos rfl]
    exact ⟨fun z => absurd z (by decide +kernel), fun z => absurd z (by decide)⟩
  · have : lN a > lN 0 := (pk_lLT (by decide) (by omega)).mpr (by omega)
    rw [if_pos this]
    exact ⟨fun _ => by omega, fun _ => by decide +kernel⟩
theorem lNz {a : Nat} (h : a < 2 ^ 62) (h0 : 0 < a) : ¬ lN a = 0 := by
  intro e
  have : lN a = lN 0 := e
  rw [pk_lEQ (by omega) (by decide)] at this
  omega
theorem gcd_st (a c : Nat) : Nat.gcd a c = Nat.gcd c (a % c) := by rw [Nat.gcd_comm, Nat.gcd_rec c a, Nat.gcd_comm]
theorem X_gcd_loop : ∀ k a c i, c < 2 ^ k → k ≤ 40 → a < 2 ^ 62 → c < 2 ^ 62 → i + 2 * k + 1 ≤ 128 → K (lN (Nat.gcd a c)) r g j → G d 137 9 [(4, .long (lN a)), (6, .long (lN c)), (8, .int (nI i))] [] r g j (rkJ K) := by
  intro k
  induction k with
  | zero =>
    intro a c i hc hk ha hc2 hi h
    have : c = 0 := by simp at hc; exact hc
    subst this
    rw [Nat.gcd_zero_right] at h
    exact vX9_commonDivisor_9 ⟨fun _ => h, fun _ => ⟨fun _ => h, fun e => absurd ((lg0 (by omega)).mpr rfl) e⟩⟩
  | succ k ih =>
    intro a c i hc hk ha hc2 hi h
    refine vX9_commonDivisor_9 ⟨fun e => absurd e (nI_ge (by omega) (by omega)), fun _ => ⟨fun e => ?_, fun e => ?_⟩⟩
    · have : c = 0 := (lg0 (by omega)).mp e
      subst this
      rw [Nat.gcd_zero_right] at h
      exact h
    · have hc0 : 0 < c := by
        rcases Nat.eq_zero_or_pos c with z | z
        · exact absurd ((lg0 (by omega)).mpr z) e
        · exact z
      have hm := Nat.mod_lt a hc0
      refine ⟨lNz hc2 hc0, ?_⟩
      rw [pk_lRem (by omega) hc0 (by omega), nI_add]
      rw [gcd_st] at h
      refine vX9_commonDivisor_9 ⟨fun e => absurd e (nI_ge (by omega) (by omega)), fun _ => ⟨fun e2 => ?_, fun e2 => ?_⟩⟩
      · have : a % c = 0 := (lg0 (by omega)).mp e2
        rw [this, Nat.gcd_zero_right] at h
        exact h
      · have hd0 : 0 < a % c := by
          rcases Nat.eq_zero_or_pos (a % c) with z | z
          · exact absurd ((lg0 (by omega)).mpr z) e2
          · exact z
        refine ⟨lNz (by omega) hd0, ?_⟩
        rw [pk_lRem (by omega) hd0 (by omega), nI_add]
        rw [gcd_st] at h
        have hm2 := Nat.mod_lt c hd0
        refine ih _ _ _ ?_ (by omega) (by omega) (by omega) (by omega) h
        rw [Nat.pow_succ] at hc
        have h3 := Nat.div_add_mod c (a % c)
        have h4 : 1 ≤ c / (a % c) := Nat.div_pos (by omega) hd0
        have h5 : a % c * 1 ≤ a % c * (c / (a % c)) := Nat.mul_le_mul (Nat.le_refl _) h4
        omega
theorem X_lowest {u w : Nat} (hu : u < 2 ^ 40) (hw : 0 < w) (hw2 : w < 2 ^ 40) (h : K (if x = 0 then lN (u / Nat.gcd u w) else lN (w / Nat.gcd u w)) r g j) : Cm (d + 1) 136 [.long (lN u), .long (lN w), .int x] r g j (rkJ K) := by
  have hg : 0 < Nat.gcd u w := Nat.gcd_pos_of_pos_right _ hw
  have hg2 : Nat.gcd u w ≤ w := Nat.gcd_le_right _ hw
  refine vX9_inLowestTerms_0 (vX9_commonDivisor_0 (X_gcd_loop 40 u w 0 hw2 (by decide) (by omega) (by omega) (by decide) ⟨fun _ => ⟨fun e => ⟨lNz (by omega) hg, ?_⟩, fun e => ⟨lNz (by omega) hg, ?_⟩⟩, fun e => absurd ((lg1 (by omega)).mpr hg) e⟩))
  · rw [if_pos e] at h; rw [pk_lDiv (by omega) hg (by omega)]; exact h
  · rw [if_neg e] at h; rw [pk_lDiv (by omega) hg (by omega)]; exact h
theorem M_lowest_loop {u w : Nat} (hu : u < 2 ^ 40) (hw : 0 < w) (hw2 : w < 2 ^ 40) (h : K (if x = 0 then lN (u / Nat.gcd u w) else lN (w / Nat.gcd u w)) r g j) : ∀ y a, a < 2 ^ 40 → y < 2 ^ 40 → Nat.gcd a y = Nat.gcd u w → G d 147 6 [(0, .long (lN u)), (2, .long (lN w)), (4, .int x), (5, .long (lN a)), (7, .long (lN y))] [] r g j (rkJ K) := by
  have hg : 0 < Nat.gcd u w := Nat.gcd_pos_of_pos_right _ hw
  intro y
  induction y using Nat.strongRecOn with
  | ind y ih =>
    intro a ha hy e
    refine vX10_lowest_6 ⟨fun z => ?_, fun z => ?_⟩
    · have : y = 0 := (lg0 (by omega)).mp z
      subst this
      rw [Nat.gcd_zero_right] at e
      subst e
      refine ⟨fun e => ⟨lNz (by omega) hg, ?_⟩, fun e => ⟨lNz (by omega) hg, ?_⟩⟩
      · rw [if_pos e] at h; rw [pk_lDiv (by omega) hg (by omega)]; exact h
      · rw [if_neg e] at h; rw [pk_lDiv (by omega) hg (by omega)]; exact h
    · have hy0 : 0 < y := by
        rcases Nat.eq_zero_or_pos y with q | q
        · exact absurd ((lg0 (by omega)).mpr q) z
        · exact q
      refine ⟨lNz (by omega) hy0, ?_⟩
      rw [pk_lRem (by omega) hy0 (by omega)]
      have hm := Nat.mod_lt a hy0
      exact ih (a % y) hm y hy (by omega) (by rw [← gcd_st]; exact e)
theorem M_lowest {u w : Nat} (hu : u < 2 ^ 40) (hw : 0 < w) (hw2 : w < 2 ^ 40) (h : K (if x = 0 then lN (u / Nat.gcd u w) else lN (w / Nat.gcd u w)) r g j) : Cm d 147 [.long (lN u), .long (lN w), .int x] r g j (rkJ K) :=
  vX10_lowest_0 (M_lowest_loop hu hw hw2 h u w hw2 hu (Nat.gcd_comm _ _))
abbrev loF (x : Int32) (u w : Nat) : Int64 := if x = 0 then lN (u / Nat.gcd u w) else lN (w / Nat.gcd u w)
theorem q_come (x1 x2 x3 : Int32) (h4 : R 4 ≤ 3) : PQl n p b R Y r (d + 3) 87 199 [.int x1, .int x2, .int x3] := by
  rcases in_or x1 (n := R 4) (by omega) with ⟨s, hs, rfl⟩ | ho
  · rcases in_or x2 (n := 100) (by decide) with ⟨k, hk, rfl⟩ | ho2
    · have hc := comeF_le R s k
      refine ⟨loF x3 (comeF R s k) 100, nI 0, e0, fun g j hV => ?_, fun g j hV => ?_⟩
      · have a1 : Ag g (uI g 0 7 (nI 0)) := Ag.rf.u rfl
        refine vX9_come_0 (X_noShip hV (fun _ _ _ => ⟨fun _ => X_noComingDay (fun _ _ _ => ⟨fun _ => ⟨p, hV.rp, ship_f hV.hp rfl (by omega) (X_hundredthsBy (hV.ag a1) hs (by omega) ?_)⟩, fun a => absurd n00 a⟩) (fun o => (o k hk rfl).elim), fun a => absurd n00 a⟩) (fun o => (o s hs rfl).elim))
        rw [nI_l (by omega)]
        exact X_lowest (by omega) (by decide) (by decide) ⟨rfl, rfl, a1, uI_s⟩
      · refine vX10_come_0 (M_good fun g2 ha ht h7 => M_isShip (hV.ag ha) (fun _ _ _ => ⟨fun a => absurd a n10, fun _ => M_in 99 (by decide) (fun _ _ _ => ⟨fun a => absurd a n10, fun _ => M_comeOf (hV.ag ha) hs (by omega) ?_⟩) (fun o => (o k hk rfl).elim)⟩) (fun o => (o s hs rfl).elim))
        rw [nI_l (by omega)]
        exact M_lowest (by omega) (by decide) (by decide) ⟨rfl, rfl, ha, ht, h7⟩
    · refine ⟨(-1 : Int32).toInt64, nI 2, e2, fun g j hV => ?_, fun g j hV => ?_⟩
      · exact vX9_come_0 (X_noShip hV (fun _ _ _ => ⟨fun _ => X_noComingDay (fun k hk e => (ho2 k (by omega) e).elim) (fun _ => ⟨fun a => absurd a n10, fun _ => X_refl⟩), fun a => absurd n00 a⟩) (fun o => (o s hs rfl).elim))
      · exact vX10_come_0 (M_good fun g2 ha ht h7 => M_isShip (hV.ag ha) (fun _ _ _ => ⟨fun a => absurd a n10, fun _ => M_in 99 (by decide) (fun k hk e => (ho2 k (by omega) e).elim) (fun _ => ⟨fun _ => M_nol ha h7, fun a => absurd n00 a⟩)⟩) (fun o => (o s hs rfl).elim))
  · refine ⟨(-1 : Int32).toInt64, nI 1, e1, fun g j hV => ?_, fun g j hV => ?_⟩
    · exact vX9_come_0 (X_noShip hV (fun k hk e => (ho k hk e).elim) (fun _ => ⟨fun a => absurd a n10, fun _ => X_refl⟩))
    · exact vX10_come_0 (M_good fun g2 ha ht h7 => M_isShip (hV.ag ha) (fun k hk e => (ho k hk e).elim) (fun _ => ⟨fun _ => M_nol ha h7, fun a => absurd n00 a⟩))
/-- the product over the first s ships -/
def acF (R : Nat → Nat) (k : Nat) : Nat → Nat
  | 0 => 1
  | s + 1 => acF R k s * comeF R s k
theorem acF_le (R : Nat → Nat) (k : Nat) : ∀ s, acF R k s ≤ 100 ^ s := by
  intro s
  induction s with
  | zero => exact Nat.le_refl _
  | succ s ih =>
    unfold acF
    rw [Nat.pow_succ]
    exact Nat.mul_le_mul ih (comeF_le R s k)
theorem p100 {s : Nat} (h : s ≤ 3) : 100 ^ s ≤ 1000000 ∧ 0 < 100 ^ s := by
  have : s = 0 ∨ s = 1 ∨ s = 2 ∨ s = 3 := by omega
  rcases this with rfl | rfl | rfl | rfl <;> decide
theorem X_ac_loop (hV : Vw n p b R Y r g) {k : Nat} (hk : k ≤ 99) (h : K (loF x (acF R k (R 4)) (100 ^ R 4)) r g j) : ∀ q s, s + q = R 4 → G (d + 2) 88 41 [(0, .ref 0), (1, .int (nI k)), (2, .int x), (3, .long (lN (acF R k s))), (5, .long (lN (100 ^ s))), (7, .int (nI s))] [] r g j (rkJ K) := by
  have h4 := hV.b4
  intro q
  induction q with
  | zero =>
    intro s hs
    have : s = R 4 := by omega
    subst this
    have h1 := acF_le R k (R 4)
    have h2 := p100 h4
    exact vX9_allCome_41 ⟨p, hV.rp, OB_i (SH_p hV.hp) ⟨fun _ => X_lowest (by omega) h2.2 (by omega) h, fun a => absurd (by rw [hV.px.1.2.2.2.2.1]; exact Int32.le_refl _) a⟩⟩
  | succ q ih =>
    intro s hs
    have hc := comeF_le R s k
    refine vX9_allCome_41 ⟨p, hV.rp, OB_i (SH_p hV.hp) ⟨fun a => absurd a (by rw [hV.px.1.2.2.2.2.1]; exact nI_ge (by omega) (by omega)), fun _ => ⟨p, hV.rp, ship_f hV.hp rfl (by omega) (X_hundredthsBy hV (by omega) hk ?_)⟩⟩⟩
    rw [nI_l (by omega), lN_mul, lN_mul, nI_add, ← Nat.pow_succ]
    exact ih (s + 1) (by omega)
theorem M_ac_loop (hV : Vw n p b R Y r g) {k : Nat} (hk : k ≤ 99) (h : K (loF x (acF R k (R 4)) (100 ^ R 4)) r g j) : ∀ q s, s + q = R 4 → G (d + 2) 200 43 [(0, .ref 263), (1, .int (nI k)), (2, .int x), (3, .long (lN (acF R k s))), (5, .long (lN (100 ^ s))), (7, .int (nI s))] [] r g j (rkJ K) := by
  have h4 := hV.b4
  intro q
  induction q with
  | zero =>
    intro s hs
    have : s = R 4 := by omega
    subst this
    have h1 := acF_le R k (R 4)
    have h2 := p100 h4
    exact vX10_allCome_43 (IX_l (by decide) ⟨fun _ => M_lowest (by omega) h2.2 (by omega) h, fun a => absurd (by rw [hV.mr (by decide)]; exact Int32.le_refl _) a⟩)
  | succ q ih =>
    intro s hs
    have hc := comeF_le R s k
    refine vX10_allCome_43 (IX_l (by decide) ⟨fun a => absurd a (by rw [hV.mr (by decide)]; exact nI_ge (by omega) (by omega)), fun _ => M_comeOf hV (by omega) hk ?_⟩)
    rw [nI_l (by omega), lN_mul, lN_mul, nI_add, ← Nat.pow_succ]
    exact ih (s + 1) (by omega)
theorem q_allCome (x1 x2 : Int32) : PQl n p b R Y r (d + 3) 88 200 [.int x1, .int x2] := by
  by_cases hb : b = 0
  · refine ⟨(-1 : Int32).toInt64, nI 1, e1, fun g j hV => ?_, fun g j hV => ?_⟩
    · exact vX9_allCome_0 ⟨fun _ => X_refl, fun a => absurd (hV.tx0 hb) a⟩
    · exact vX10_allCome_0 (M_good fun g2 ha ht h7 => ⟨fun _ => M_nol ha h7, fun a => absurd ((hV.ag ha).tm0 hb) a⟩)
  · rcases in_or x1 (n := 100) (by decide) with ⟨k, hk, rfl⟩ | ho
    · refine ⟨loF x2 (acF R k (R 4)) (100 ^ R 4), nI 0, e0, fun g j hV => ?_, fun g j hV => ?_⟩
      · have a1 : Ag g (uI g 0 7 (nI 0)) := Ag.rf.u rfl
        exact vX9_allCome_0 ⟨fun a => absurd a (hV.tx1 hb), fun _ => X_noComingDay (fun _ _ _ => ⟨fun _ => X_ac_loop (hV.ag a1) (by omega) ⟨rfl, rfl, a1, uI_s⟩ (R 4) 0 (by omega), fun a => absurd n00 a⟩) (fun o => (o k hk rfl).elim)⟩
      · exact vX10_allCome_0 (M_good fun g2 ha ht h7 => ⟨fun a => absurd a ((hV.ag ha).tm1 hb), fun _ => M_in 99 (by decide) (fun _ _ _ => ⟨fun a => absurd a n10, fun _ => M_ac_loop (hV.ag ha) (by omega) ⟨rfl, rfl, ha, ht, h7⟩ (R 4) 0 (by omega)⟩) (fun o => (o k hk rfl).elim)⟩)
    · refine ⟨(-1 : Int32).toInt64, nI 2, e2, fun g j hV => ?_, fun g j hV => ?_⟩
      · exact vX9_allCome_0 ⟨fun a => absurd a (hV.tx1 hb), fun _ => X_noComingDay (fun k hk e => (ho k (by omega) e).elim) (fun _ => ⟨fun a => absurd a n10, fun _ => X_refl⟩)⟩
      · exact vX10_allCome_0 (M_good fun g2 ha ht h7 => ⟨fun a => absurd a ((hV.ag ha).tm1 hb), fun _ => M_in 99 (by decide) (fun k hk e => (ho k (by omega) e).elim) (fun _ => ⟨fun _ => M_nol ha h7, fun a => absurd n00 a⟩)⟩)
theorem q_mean (x1 x2 : Int32) (h4 : R 4 ≤ 3) : PQl n p b R Y r (d + 3) 90 213 [.int x1, .int x2] := by
  rcases in_or x1 (n := R 4) (by omega) with ⟨s, hs, rfl⟩ | ho
  · refine ⟨loF x2 (100 * R (9 + 4 * s) + R (10 + 4 * s) * R (11 + 4 * s)) 100, nI 0, e0, fun g j hV => ?_, fun g j hV => ?_⟩
    · have a1 : Ag g (uI g 0 7 (nI 0)) := Ag.rf.u rfl
      have hS := SH_sh (s := s) hV.hp (by omega)
      have hx := (hV.ag a1).px.2.1 s hs
      have hr := hV.ro.2.2.2.1 s hs
      have hm : R (10 + 4 * s) * R (11 + 4 * s) ≤ 100 * 30 := Nat.mul_le_mul hr.2.1 hr.2.2.2.1
      refine vX9_mean_0 (X_noShip hV (fun _ _ _ => ⟨fun _ => ⟨p, hV.rp, ship_f hV.hp rfl (by omega) (OB_i hS (OB_i hS ?_))⟩, fun a => absurd n00 a⟩) (fun o => (o s hs rfl).elim))
      rw [hx.1, hx.2.1, hx.2.2.1, pk_mul, nI_l (by omega), nI_l (by omega), lN_mul, lN_add]
      exact X_lowest (by omega) (by decide) (by decide) ⟨rfl, rfl, a1, uI_s⟩
    · have hr := hV.ro.2.2.2.1 s hs
      have hm : R (10 + 4 * s) * R (11 + 4 * s) ≤ 100 * 30 := Nat.mul_le_mul hr.2.1 hr.2.2.2.1
      refine vX10_mean_0 (M_good fun g2 ha ht h7 => M_isShip (hV.ag ha) (fun _ _ _ => ⟨fun a => absurd a n10, fun _ => M_ofShip (hV.ag ha) (s := s) (w := 0) (by omega) (by decide) (M_ofShip (hV.ag ha) (s := s) (w := 1) (by omega) (by decide) (M_ofShip (hV.ag ha) (s := s) (w := 2) (by omega) (by decide) ?_))⟩) (fun o => (o s hs rfl).elim))
      rw [show 9 + 4 * s + 0 = 9 + 4 * s by omega, show 9 + 4 * s + 1 = 10 + 4 * s by omega, show 9 + 4 * s + 2 = 11 + 4 * s by omega, pk_mul, nI_l (by omega), nI_l (by omega), lN_mul, lN_add]
      exact M_lowest (by omega) (by decide) (by decide) ⟨rfl, rfl, ha, ht, h7⟩
  · refine ⟨(-1 : Int32).toInt64, nI 1, e1, fun g j hV => ?_, fun g j hV => ?_⟩
    · exact vX9_mean_0 (X_noShip hV (fun k hk e => (ho k hk e).elim) (fun _ => ⟨fun a => absurd a n10, fun _ => X_refl⟩))
    · exact vX10_mean_0 (M_good fun g2 ha ht h7 => M_isShip (hV.ag ha) (fun k hk e => (ho k hk e).elim) (fun _ => ⟨fun _ => M_nol ha h7, fun a => absurd n00 a⟩))
end
