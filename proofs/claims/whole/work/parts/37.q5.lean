/-! SPECS: strike, winter, lates -/
section
variable {n p b d : Nat} {R Y : Nat → Nat} {r : Rr} {g : Gi} {j : Gl} {K : Int32 → Rr → Gi → Gl → Prop} {x x1 x2 : Int32} {Q : QT}
theorem X_noHold (h0 : ∀ k, k ≤ 9 → x = nI k → K (nI 0) r g j) (h1 : out x 10 → K (nI 1) r g j) : Cm d 131 [.int x] r g j (rkI K) := by
  rcases in_or x (n := 10) (by decide) with ⟨k, hk, e⟩ | ho
  · have := h0 k (by omega) e
    subst e
    exact vX9_noHold_0 ⟨fun a => absurd a (nlt_0 (by omega)), fun _ => ⟨fun _ => ⟨bo0, this⟩, fun a => absurd (nI_le (by omega) (by omega)) a⟩⟩
  · have := h1 ho
    refine vX9_noHold_0 ⟨fun _ => ⟨bo1, this⟩, fun a => ⟨fun c => ?_, fun _ => ⟨bo1, this⟩⟩⟩
    have h2 := out_c (by decide) ho a
    exfalso
    rw [Int32.le_iff_toInt_le, nI_toInt (by decide)] at c h2
    omega
theorem X_noSeed (h0 : ∀ k, k ≤ 65536 → x = nI k → K (nI 0) r g j) (h1 : out x 65537 → K (nI 1) r g j) : Cm d 132 [.int x] r g j (rkI K) := by
  rcases in_or x (n := 65537) (by decide) with ⟨k, hk, e⟩ | ho
  · have := h0 k (by omega) e
    subst e
    exact vX9_noSeed_0 ⟨fun a => absurd a (nlt_0 (by omega)), fun _ => ⟨fun _ => ⟨bo0, this⟩, fun a => absurd (nI_le (by omega) (by omega)) a⟩⟩
  · have := h1 ho
    refine vX9_noSeed_0 ⟨fun _ => ⟨bo1, this⟩, fun a => ⟨fun c => ?_, fun _ => ⟨bo1, this⟩⟩⟩
    have h2 := out_c (by decide) ho a
    exfalso
    rw [Int32.le_iff_toInt_le, nI_toInt (by decide)] at c h2
    omega
def mn (a c : Nat) : Nat := if c < a then c else a
/-- what the gang, the council has -/
def gaV (R : Nat → Nat) (a c : Nat) : Int32 := nI (if c < a then R 1 else 0) - nI (mn a c * R 2)
def coV (R : Nat → Nat) (a c : Nat) : Int32 := -(nI (if c < a then R 1 else 0)) - nI (mn a c * R 3)
theorem X_ofGang (hV : Vw n p b R Y r g) {a c : Nat} (ha : a ≤ 9) (hc : c ≤ 9) (h : K (gaV R a c) r g j) : Cm (d + 1) 53 [.ref p, .int (nI a), .int (nI c)] r g j (rkI K) := by
  have st : ∀ w, w = (if c < a then R 1 else 0) → G (d + 1) 53 13 [(0, .ref p), (1, .int (nI a)), (2, .int (nI c))] [.int (nI w)] r g j (rkI K) := by
    intro w hw
    refine vX7_ofGang_13 (OB_i (SH_p hV.hp) ?_)
    rw [nI_min (by omega) (by omega), hV.px.1.2.2.1, pk_mul, hw]
    exact h
  refine vX7_ofGang_0 ⟨fun e => st 0 ?_, fun e => OB_i (SH_p hV.hp) ?_⟩
  · have := le_n (by omega) (by omega) e
    rw [if_neg (by omega)]
  · have : ¬ (a ≤ c) := fun z => e (nI_le z (by omega))
    rw [hV.px.1.2.1]
    exact st _ (by rw [if_pos (by omega)])
theorem X_ofCouncil (hV : Vw n p b R Y r g) {a c : Nat} (ha : a ≤ 9) (hc : c ≤ 9) (h : K (coV R a c) r g j) : Cm (d + 1) 54 [.ref p, .int (nI a), .int (nI c)] r g j (rkI K) := by
  have st : ∀ w, w = (if c < a then R 1 else 0) → G (d + 1) 54 13 [(0, .ref p), (1, .int (nI a)), (2, .int (nI c))] [.int (nI w)] r g j (rkI K) := by
    intro w hw
    refine vX7_ofCouncil_13 (OB_i (SH_p hV.hp) ?_)
    rw [nI_min (by omega) (by omega), hV.px.1.2.2.2.1, pk_mul, hw]
    exact h
  refine vX7_ofCouncil_0 ⟨fun e => st 0 ?_, fun e => OB_i (SH_p hV.hp) ?_⟩
  · have := le_n (by omega) (by omega) e
    rw [if_neg (by omega)]
  · have : ¬ (a ≤ c) := fun z => e (nI_le z (by omega))
    rw [hV.px.1.2.1]
    exact st _ (by rw [if_pos (by omega)])
theorem M_strikeOf (hV : Vw n p b R Y r g) {a c : Nat} (ha : a ≤ 9) (hc : c ≤ 9) (h : K (if x = 0 then gaV R a c else coV R a c) r g j) : Cm d 234 [.ref 263, .int (nI a), .int (nI c), .int x] r g j (rkI K) := by
  have st2 : ∀ w, w = (if c < a then R 1 else 0) → G d 234 27 [(0, .ref 263), (3, .int x), (4, .int (nI (mn a c)))] [.int (nI w)] r g j (rkI K) := by
    intro w hw
    refine vX10_strikeOf_27 ⟨fun e => IX_l (by decide) ?_, fun e => IX_l (by decide) ?_⟩
    · rw [if_pos e] at h
      rw [hV.mr (by decide), pk_mul, hw, Nat.mul_comm]
      exact h
    · rw [if_neg e] at h
      rw [hV.mr (by decide), pk_mul, hw, Nat.mul_comm]
      exact h
  have st : G d 234 10 [(0, .ref 263), (1, .int (nI a)), (2, .int (nI c)), (3, .int x)] [.int (nI (mn a c))] r g j (rkI K) := by
    refine vX10_strikeOf_10 ⟨fun e => st2 0 ?_, fun e => IX_l (by decide) ?_⟩
    · have := le_n (by omega) (by omega) e
      rw [if_neg (by omega)]
    · have : ¬ (a ≤ c) := fun z => e (nI_le z (by omega))
      rw [hV.mr (by decide)]
      exact st2 _ (by rw [if_pos (by omega)])
  refine vX10_strikeOf_0 ⟨fun e => ?_, fun e => ?_⟩
  · have := le_n (by omega) (by omega) e
    have e2 : mn a c = c := by unfold mn; split <;> omega
    rw [e2] at st; exact st
  · have : ¬ (c ≤ a) := fun z => e (nI_le z (by omega))
    have e2 : mn a c = a := by unfold mn; split <;> omega
    rw [e2] at st; exact st
theorem q_strike (x1 x2 x3 : Int32) : PQ n p b R Y r (d + 3) 107 235 [.int x1, .int x2, .int x3] := by
  by_cases hb : b = 0
  · refine ⟨-(nI 10000), nI 1, e1, fun g j hV => ?_, fun g j hV => ?_⟩
    · exact vX9_strike_0 ⟨fun _ => vX9_refused_0 ⟨rfl, rfl, Ag.rf.u rfl, uI_s⟩, fun a => absurd (hV.tx0 hb) a⟩
    · exact vX10_strike_0 (M_good fun g2 ha ht h7 => ⟨fun _ => vX10_strike_39 ⟨fun _ => vX10_strike_52 ⟨rfl, rfl, ha.u rfl, uI_s, h7⟩, fun a => absurd ((hV.ag ha).tm0 hb) a⟩, fun a => absurd ((hV.ag ha).tm0 hb) a⟩)
  · rcases in_or x1 (n := 10) (by decide) with ⟨a, ha1, rfl⟩ | ho
    · rcases in_or x2 (n := 10) (by decide) with ⟨c, hc1, rfl⟩ | ho2
      · refine ⟨if x3 = 0 then gaV R a c else coV R a c, nI 0, e0, fun g j hV => ?_, fun g j hV => ?_⟩
        · refine vX9_strike_0 ⟨fun z => absurd z (hV.tx1 hb), fun _ => X_noHold (fun _ _ _ => ⟨fun _ => X_noHold (fun _ _ _ => ⟨fun _ => ⟨fun e => ⟨p, hV.rp, X_ofGang hV (by omega) (by omega) (vX9_strike_67 ?_)⟩, fun e => ⟨p, hV.rp, X_ofCouncil hV (by omega) (by omega) (vX9_strike_67 ?_)⟩⟩, fun z => absurd n00 z⟩) (fun o => (o c hc1 rfl).elim), fun z => absurd n00 z⟩) (fun o => (o a ha1 rfl).elim)⟩
          · rw [if_pos e]; exact X_ans Ag.rf
          · rw [if_neg e]; exact X_ans Ag.rf
        · exact vX10_strike_0 (M_good fun g2 ha ht h7 => ⟨fun z => absurd z ((hV.ag ha).tm1 hb), fun _ => M_in 9 (by decide) (fun _ _ _ => ⟨fun z => absurd z n10, fun _ => M_in 9 (by decide) (fun _ _ _ => ⟨fun z => absurd z n10, fun _ => M_strikeOf (hV.ag ha) (by omega) (by omega) ⟨rfl, rfl, ha, ht, h7⟩⟩) (fun o => (o c hc1 rfl).elim)⟩) (fun o => (o a ha1 rfl).elim)⟩)
      · refine ⟨-(nI 10000), nI 2, e2, fun g j hV => ?_, fun g j hV => ?_⟩
        · exact vX9_strike_0 ⟨fun z => absurd z (hV.tx1 hb), fun _ => X_noHold (fun _ _ _ => ⟨fun _ => X_noHold (fun k hk e => (ho2 k (by omega) e).elim) (fun _ => ⟨fun z => absurd z n10, fun _ => vX9_strike_31 (vX9_refused_0 ⟨rfl, rfl, Ag.rf.u rfl, uI_s⟩)⟩), fun z => absurd n00 z⟩) (fun o => (o a ha1 rfl).elim)⟩
        · exact vX10_strike_0 (M_good fun g2 ha ht h7 => ⟨fun z => absurd z ((hV.ag ha).tm1 hb), fun _ => M_in 9 (by decide) (fun _ _ _ => ⟨fun z => absurd z n10, fun _ => M_in 9 (by decide) (fun k hk e => (ho2 k (by omega) e).elim) (fun _ => ⟨fun _ => vX10_strike_39 ⟨fun z => absurd z ((hV.ag ha).tm1 hb), fun _ => vX10_strike_52 ⟨rfl, rfl, ha.u rfl, uI_s, h7⟩⟩, fun z => absurd n00 z⟩)⟩) (fun o => (o a ha1 rfl).elim)⟩)
    · refine ⟨-(nI 10000), nI 2, e2, fun g j hV => ?_, fun g j hV => ?_⟩
      · exact vX9_strike_0 ⟨fun z => absurd z (hV.tx1 hb), fun _ => X_noHold (fun k hk e => (ho k (by omega) e).elim) (fun _ => ⟨fun z => absurd z n10, fun _ => vX9_strike_31 (vX9_refused_0 ⟨rfl, rfl, Ag.rf.u rfl, uI_s⟩)⟩)⟩
      · exact vX10_strike_0 (M_good fun g2 ha ht h7 => ⟨fun z => absurd z ((hV.ag ha).tm1 hb), fun _ => M_in 9 (by decide) (fun k hk e => (ho k (by omega) e).elim) (fun _ => ⟨fun _ => vX10_strike_39 ⟨fun z => absurd z ((hV.ag ha).tm1 hb), fun _ => vX10_strike_52 ⟨rfl, rfl, ha.u rfl, uI_s, h7⟩⟩, fun z => absurd n00 z⟩)⟩)
/-! winters -/
def drF (s : Nat) : Nat := (75 * s + 74) % 65537
def seedF (s : Nat) : Nat → Nat
  | 0 => s
  | k + 1 => drF (seedF s k)
theorem drF_lt (s : Nat) : drF s < 65537 := Nat.mod_lt _ (by decide)
theorem seedF_lt {s : Nat} (h : s ≤ 65536) : ∀ k, seedF s k ≤ 65536 := by
  intro k
  cases k with
  | zero => exact h
  | succ k => have := drF_lt (seedF s k); show drF _ ≤ _; omega
theorem seedF_add (s : Nat) : ∀ k m, seedF s (k + m) = seedF (seedF s k) m := by
  intro k m
  induction m with
  | zero => rfl
  | succ m ih => show drF (seedF s (k + m)) = drF _; rw [ih]
theorem nI_dr {s : Nat} (h : s ≤ 65536) : ((nI 75) * (nI s) + (nI 74)) - ((nI 75) * (nI s) + (nI 74)) / (nI 65537) * (nI 65537) = nI (drF s) := by
  rw [pk_mul, nI_add, pk_rem (by omega) (by decide) (by decide)]
  rfl
theorem nI_h {s : Nat} (h : s ≤ 65536) : nI s - nI s / (nI 100) * (nI 100) = nI (s % 100) := pk_rem (by omega) (by decide) (by decide)
theorem n65 : ¬ (nI 65537) = 0 := by decide +kernel
theorem n100 : ¬ (nI 100) = 0 := by decide +kernel
def ltF (R : Nat → Nat) (i sd : Nat) : Nat := if sd % 100 < R (10 + 4 * i) then 1 else 0
theorem X_draw {s : Nat} (h : s ≤ 65536) (hK : K (nI (drF s)) r g j) : Cm d 135 [.int (nI s)] r g j (rkI K) := by
  refine vX9_draw_0 ⟨n65, ?_⟩
  rw [nI_dr h]; exact hK
theorem X_isLateBy (hV : Vw n p b R Y r g) {s i : Nat} (hi : i < R 4) (h : s ≤ 65536) (hK : K (nI (ltF R i s)) r g j) : Cm d 50 [.ref (p + 10 + i), .int (nI s)] r g j (rkI K) := by
  have h4 := hV.b4
  have hx := hV.px.2.1 i hi
  have hr := hV.ro.2.2.2.1 i hi
  unfold ltF at hK
  refine vX6_isLateBy_0 ⟨n100, OB_i (SH_sh hV.hp (by omega)) ?_⟩
  rw [hx.2.1, nI_h h]
  refine ⟨fun e => ⟨bo0, ?_⟩, fun e => ⟨bo1, ?_⟩⟩
  · have := le_n (by omega) (by omega) e
    rw [if_neg (by omega)] at hK; exact hK
  · have : ¬ (R (10 + 4 * i) ≤ s % 100) := fun z => e (nI_le z (by omega))
    rw [if_pos (by omega)] at hK; exact hK
def cmF (R : Nat → Nat) (i sd : Nat) : Nat := R (9 + 4 * i) + (if ltF R i sd = 0 then 0 else R (11 + 4 * i))
theorem ltF_01 (R : Nat → Nat) (i sd : Nat) : ltF R i sd = 0 ∨ ltF R i sd = 1 := by unfold ltF; split; exact Or.inr rfl; exact Or.inl rfl
theorem X_comesOn (hV : Vw n p b R Y r g) {s i : Nat} (hi : i < R 4) (h : s ≤ 65536) (hK : K (nI (cmF R i s)) r g j) : Cm (d + 1) 51 [.ref (p + 10 + i), .int (nI s)] r g j (rkI K) := by
  have h4 := hV.b4
  have hx := hV.px.2.1 i hi
  have hS := SH_sh (s := i) hV.hp (by omega)
  have h01 := ltF_01 R i s
  unfold cmF at hK
  refine vX6_comesOn_0 (OB_i hS (X_isLateBy hV hi h ⟨fun e => OB_i hS ?_, fun e => OB_i hS (OB_i hS ?_)⟩))
  · rw [nI_z (by omega)] at e
    rw [if_pos e, Nat.add_zero] at hK
    rw [hx.1]; exact hK
  · rw [nI_z (by omega)] at e
    rw [if_neg e] at hK
    rw [hx.1, hx.2.2.1, nI_add]; exact hK
/-- the last day, over the first i ships -/
def lastF (R : Nat → Nat) (s : Nat) : Nat → Nat
  | 0 => 0
  | i + 1 => if lastF R s i < cmF R i (seedF s (i + 1)) then cmF R i (seedF s (i + 1)) else lastF R s i
theorem lastF_le (hR : RO b R) (s : Nat) : ∀ i, i ≤ R 4 → lastF R s i ≤ 90 := by
  intro i
  induction i with
  | zero => intro _; show 0 ≤ 90; omega
  | succ i ih =>
    intro hi
    have := ih (by omega)
    have hr := hR.2.2.2.1 i (by omega)
    have : cmF R i (seedF s (i + 1)) ≤ 90 := by unfold cmF; split <;> omega
    unfold lastF
    split <;> omega
theorem X_winter_loop (hV : Vw n p b R Y r g) {s : Nat} (hs : s ≤ 65536) {g0 : Gi} (ha : Ag g0 g) : ∀ q i, i + q = R 4 → G (d + 2) 110 33 [(0, .ref 0), (2, .int (nI (lastF R s i))), (3, .int (nI (seedF s i))), (4, .int (nI i))] [] r g j (rkI (EX (nI (lastF R s (R 4))) (nI 0) r g0)) := by
  have h4 := hV.b4
  intro q
  induction q with
  | zero =>
    intro i hi
    have : i = R 4 := by omega
    subst this
    exact vX9_winter_33 ⟨p, hV.rp, OB_i (SH_p hV.hp) ⟨fun _ => X_ans ha, fun a => absurd (by rw [hV.px.1.2.2.2.2.1]; exact nI_le (by omega) (by omega)) a⟩⟩
  | succ q ih =>
    intro i hi
    have hl := lastF_le hV.ro s i (by omega)
    have hsi := seedF_lt hs i
    have hsi1 := seedF_lt hs (i + 1)
    have hr := hV.ro.2.2.2.1 i (by omega)
    have hcm : cmF R i (seedF s (i + 1)) ≤ 90 := by unfold cmF; split <;> omega
    refine vX9_winter_33 ⟨p, hV.rp, OB_i (SH_p hV.hp) ⟨fun a => absurd a (by rw [hV.px.1.2.2.2.2.1]; exact nI_ge (by omega) (by omega)), fun _ => X_draw hsi ⟨p, hV.rp, ship_f hV.hp rfl (by omega) (X_comesOn (s := seedF s (i + 1)) hV (by omega) hsi1 ?_)⟩⟩⟩
    rw [nI_max (by omega) (by omega), nI_add]
    exact ih (i + 1) (by omega)
end
