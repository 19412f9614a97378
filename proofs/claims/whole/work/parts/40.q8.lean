/-! SPECS: share -/
section
variable {n p b d : Nat} {R Y : Nat → Nat} {r : Rr} {g : Gi} {j : Gl} {K : Int32 → Rr → Gi → Gl → Prop} {x x1 x2 : Int32} {Q : QT}
/-- people of the first t towns -/
def ppF (R : Nat → Nat) : Nat → Nat
  | 0 => 0
  | t + 1 => ppF R t + R (96 + t)
theorem ppF_le (hR : RO b R) : ∀ t, t ≤ R 6 → ppF R t ≤ 99 * t ∧ (1 ≤ t → 1 ≤ ppF R t) := by
  intro t
  induction t with
  | zero => intro _; exact ⟨Nat.le_refl _, fun h => by omega⟩
  | succ t ih =>
    intro ht
    have := ih (by omega)
    have h1 := hR.2.2.2.2.2.2.2.1 t (by omega)
    unfold ppF
    omega
def qtF (R : Nat → Nat) (m t : Nat) : Nat := m * R (96 + t) / ppF R (R 6)
def rsF (R : Nat → Nat) (m t : Nat) : Nat := m * R (96 + t) % ppF R (R 6)
def lfI (R : Nat → Nat) (m : Nat) : Nat → Int32
  | 0 => nI m
  | t + 1 => lfI R m t - nI (qtF R m t)
def isA (R : Nat → Nat) (m town t : Nat) : Nat := if rsF R m town < rsF R m t then 1 else if rsF R m t = rsF R m town ∧ t < town then 1 else 0
def ahF (R : Nat → Nat) (m town : Nat) : Nat → Nat
  | 0 => 0
  | t + 1 => ahF R m town t + isA R m town t
theorem isA_01 (R : Nat → Nat) (m town t : Nat) : isA R m town t = 0 ∨ isA R m town t = 1 := by
  unfold isA; split
  · exact Or.inr rfl
  · split
    · exact Or.inr rfl
    · exact Or.inl rfl
theorem ahF_le (R : Nat → Nat) (m town : Nat) : ∀ t, ahF R m town t ≤ t := by
  intro t
  induction t with
  | zero => exact Nat.le_refl _
  | succ t ih => have := isA_01 R m town t; unfold ahF; omega
def shF (R : Nat → Nat) (m town : Nat) : Nat := qtF R m town + (if lfI R m (R 6) ≤ nI (ahF R m town (R 6)) then 0 else 1)
theorem people_i {i : Int32} {t : Nat} {K : Nat → Nat → Prop} (hp : p = 2 ∨ p = 30) (hi : i = nI t) (ht : t < 5) (h : K (p + 3) t) : OB p 4 (RF (RS p 8) (r p 8) (fun u => AR u 0 (fun m => IX i m (fun q => K u q)))) :=
  OB_i (SH_p hp) (RF_i (Or.inl (RS_p8 hp)) (AR_i (SH_p3 hp) (IX_e hi ht h)))
theorem X_peopleOfAll (hV : Vw n p b R Y r g) (h : K (nI (ppF R (R 6))) r g j) : Cm d 26 [.ref p] r g j (rkI K) := by
  have h6 := hV.b6
  have loop : ∀ q t, t + q = R 6 → G d 26 4 [(0, .ref p), (1, .int (nI (ppF R t))), (2, .int (nI t))] [] r g j (rkI K) := by
    intro q
    induction q with
    | zero =>
      intro t ht
      have : t = R 6 := by omega
      subst this
      exact vX4_peopleOfAll_4 (OB_i (SH_p hV.hp) ⟨fun _ => h, fun a => absurd (by rw [hV.px.1.2.2.2.2.2.2.1]; exact Int32.le_refl _) a⟩)
    | succ q ih =>
      intro t ht
      refine vX4_peopleOfAll_4 (OB_i (SH_p hV.hp) ⟨fun a => absurd a (by rw [hV.px.1.2.2.2.2.2.2.1]; exact nI_ge (by omega) (by omega)), fun _ => people_i hV.hp rfl (by omega) ?_⟩)
      rw [hV.px.2.2.2.1 t (by omega), nI_add, nI_add]
      exact ih (t + 1) (by omega)
  exact vX4_peopleOfAll_0 (loop (R 6) 0 (by omega))
theorem nq {R : Nat → Nat} {m t : Nat} (hm : m ≤ 9999) (hp1 : R (96 + t) ≤ 99) (ha : 1 ≤ ppF R (R 6)) (ha2 : ppF R (R 6) ≤ 495) : nI m * nI (R (96 + t)) / nI (ppF R (R 6)) = nI (qtF R m t) ∧ nI m * nI (R (96 + t)) - nI m * nI (R (96 + t)) / nI (ppF R (R 6)) * nI (ppF R (R 6)) = nI (rsF R m t) ∧ rsF R m t < 495 ∧ qtF R m t < 2 ^ 30 := by
  have h1 : m * R (96 + t) ≤ 9999 * 99 := Nat.mul_le_mul hm hp1
  rw [pk_mul]
  refine ⟨pk_div (by omega) (by omega) (by omega), pk_rem (by omega) (by omega) (by omega), ?_, ?_⟩
  · have : m * R (96 + t) % ppF R (R 6) < ppF R (R 6) := Nat.mod_lt _ (by omega)
    unfold rsF; omega
  · have : m * R (96 + t) / ppF R (R 6) ≤ m * R (96 + t) := Nat.div_le_self _ _
    unfold qtF; omega
theorem X_minutesOf (hV : Vw n p b R Y r g) {m town : Nat} (hm : m ≤ 9999) (ht : town < R 6) (h : K (nI (shF R m town)) r g j) : Cm (d + 1) 7 [.ref 81, .ref p, .int (nI town), .int (nI m)] r g j (rkI K) := by
  have h6 := hV.b6
  have hpp := ppF_le hV.ro (R 6) (Nat.le_refl _)
  have ha : 1 ≤ ppF R (R 6) := hpp.2 (by omega)
  have ha2 : ppF R (R 6) ≤ 495 := by omega
  have hz : ¬ nI (ppF R (R 6)) = 0 := by rw [nI_z (by omega)]; omega
  have hq : ∀ t, t < R 6 → _ := fun t h => nq (R := R) (m := m) (t := t) hm (hV.ro.2.2.2.2.2.2.2.1 t h).2 ha ha2
  have loop : ∀ q t, t + q = R 6 → G (d + 1) 7 35 [(1, .ref p), (2, .int (nI town)), (3, .int (nI m)), (4, .int (nI (ppF R (R 6)))), (5, .int (lfI R m t)), (6, .int (nI (ahF R m town t))), (7, .int (nI (rsF R m town))), (8, .int (nI t))] [] r g j (rkI K) := by
    intro q
    induction q with
    | zero =>
      intro t ht2
      have : t = R 6 := by omega
      subst this
      refine vX1_minutesOf_35 (OB_i (SH_p hV.hp) ⟨fun _ => people_i hV.hp rfl (by omega) ⟨hz, ?_⟩, fun a => absurd (by rw [hV.px.1.2.2.2.2.2.2.1]; exact Int32.le_refl _) a⟩)
      rw [hV.px.2.2.2.1 town ht, (hq town ht).1]
      unfold shF at h
      refine ⟨fun e => ?_, fun e => ?_⟩
      · rw [if_pos e] at h; rw [nI_add]; exact h
      · rw [if_neg e] at h; rw [nI_add]; exact h
    | succ q ih =>
      intro t ht2
      have hqt := hq t (by omega)
      have hqo := hq town ht
      have h01 := isA_01 R m town t
      have hah := ahF_le R m town t
      have go : ∀ z, z = isA R m town t → G (d + 1) 7 94 [(1, .ref p), (2, .int (nI town)), (3, .int (nI m)), (4, .int (nI (ppF R (R 6)))), (5, .int (lfI R m t - nI (qtF R m t))), (6, .int (nI (ahF R m town t + z))), (7, .int (nI (rsF R m town))), (8, .int (nI t))] [] r g j (rkI K) := by
        intro z hz2
        refine vX1_minutesOf_94 ?_
        rw [nI_add, hz2]
        exact ih (t + 1) (by omega)
      refine vX1_minutesOf_35 (OB_i (SH_p hV.hp) ⟨fun a => absurd a (by rw [hV.px.1.2.2.2.2.2.2.1]; exact nI_ge (by omega) (by omega)), fun _ => people_i hV.hp rfl (by omega) ⟨hz, hz, ?_⟩⟩)
      rw [hV.px.2.2.2.1 t (by omega), hqt.2.1, hqt.1]
      refine ⟨fun e => vX1_minutesOf_91 ?_, fun e => ⟨hz, fun e2 => ⟨fun e3 => ?_, fun e3 => vX1_minutesOf_91 ?_⟩, fun e2 => ?_⟩⟩
      · have e := lt_n (by omega) (by omega) e
        rw [nI_add]
        exact go 1 (by unfold isA; rw [if_pos e])
      · have e : ¬ (rsF R m town < rsF R m t) := fun z => e (nI_lt z (by omega))
        have e3 := le_n (by omega) (by omega) e3
        exact go 0 (by unfold isA; rw [if_neg e, if_neg (by omega)])
      · have e : ¬ (rsF R m town < rsF R m t) := fun z => e (nI_lt z (by omega))
        have e3 : ¬ (town ≤ t) := fun z => e3 (nI_le z (by omega))
        rw [nI_eq (by omega) (by omega)] at e2
        rw [nI_add]
        exact go 1 (by unfold isA; rw [if_neg e, if_pos ⟨e2, by omega⟩])
      · have e : ¬ (rsF R m town < rsF R m t) := fun z => e (nI_lt z (by omega))
        rw [nI_eq (by omega) (by omega)] at e2
        exact go 0 (by unfold isA; rw [if_neg e, if_neg (fun z => e2 z.1)])
  refine vX1_minutesOf_0 (OB_i (SH_p hV.hp) (X_peopleOfAll hV ⟨fun _ => people_i hV.hp rfl (by omega) ⟨hz, ?_⟩, fun a => absurd ?_ a⟩))
  · rw [hV.px.2.2.2.1 town ht, (hq town ht).2.1]
    exact loop (R 6) 0 (by omega)
  · rw [← nI_0]; exact nI_lt (by omega) (by omega)
theorem M_share_end (hV : Vw n p b R Y r g) {m town : Nat} (hm : m ≤ 9999) (ht : town < R 6) (h : K (nI (shF R m town)) r g j) : G (d + 1) 225 40 [(0, .ref 263), (1, .int (nI town)), (2, .int (nI m)), (3, .int (nI 0)), (4, .int (nI 0))] [] r g j (rkI K) := by
  have h6 := hV.b6
  have hpp := ppF_le hV.ro (R 6) (Nat.le_refl _)
  have ha : 1 ≤ ppF R (R 6) := hpp.2 (by omega)
  have ha2 : ppF R (R 6) ≤ 495 := by omega
  have hz : ¬ nI (ppF R (R 6)) = 0 := by rw [nI_z (by omega)]; omega
  have hq : ∀ t, t < R 6 → _ := fun t h => nq (R := R) (m := m) (t := t) hm (hV.ro.2.2.2.2.2.2.2.1 t h).2 ha ha2
  have l3 : ∀ q t, t + q = R 6 → G (d + 1) 225 135 [(0, .ref 263), (1, .int (nI town)), (2, .int (nI m)), (3, .int (nI (ppF R (R 6)))), (4, .int (lfI R m (R 6))), (5, .int (nI (rsF R m town))), (6, .int (nI (ahF R m town t))), (7, .int (nI t))] [] r g j (rkI K) := by
    intro q
    induction q with
    | zero =>
      intro t ht2
      have : t = R 6 := by omega
      subst this
      refine vX10_share_135 (IX_l (by decide) ⟨fun _ => IX_e (q := 96 + town) (nI_add 96 town) (by omega) ⟨hz, ?_⟩, fun a => absurd (by rw [hV.mr (by decide)]; exact Int32.le_refl _) a⟩)
      rw [hV.mr (by omega), (hq town ht).1]
      unfold shF at h
      refine ⟨fun e => ?_, fun e => ?_⟩
      · rw [if_pos e] at h; rw [nI_add]; exact h
      · rw [if_neg e] at h; rw [nI_add]; exact h
    | succ q ih =>
      intro t ht2
      have hqt := hq t (by omega)
      have hqo := hq town ht
      have h01 := isA_01 R m town t
      have hah := ahF_le R m town t
      have go : ∀ z, z = isA R m town t → G (d + 1) 225 190 [(0, .ref 263), (1, .int (nI town)), (2, .int (nI m)), (3, .int (nI (ppF R (R 6)))), (4, .int (lfI R m (R 6))), (5, .int (nI (rsF R m town))), (7, .int (nI t))] [.int (nI z), .int (nI (ahF R m town t))] r g j (rkI K) := by
        intro z hz2
        refine vX10_share_190 ?_
        rw [nI_add, nI_add, hz2]
        exact ih (t + 1) (by omega)
      refine vX10_share_135 (IX_l (by decide) ⟨fun a => absurd a (by rw [hV.mr (by decide)]; exact nI_ge (by omega) (by omega)), fun _ => IX_e (q := 96 + t) (nI_add 96 t) (by omega) ⟨hz, ?_⟩⟩)
      rw [hV.mr (by omega), hqt.2.1]
      refine ⟨fun e => vX10_share_185 ?_, fun e => ⟨fun e2 => ⟨fun e3 => vX10_share_189 ?_, fun e3 => vX10_share_185 ?_⟩, fun e2 => vX10_share_189 ?_⟩⟩
      · have e := lt_n (by omega) (by omega) e
        exact go 1 (by unfold isA; rw [if_pos e])
      · have e : ¬ (rsF R m town < rsF R m t) := fun z => e (nI_lt z (by omega))
        have e3 := le_n (by omega) (by omega) e3
        exact go 0 (by unfold isA; rw [if_neg e, if_neg (by omega)])
      · have e : ¬ (rsF R m town < rsF R m t) := fun z => e (nI_lt z (by omega))
        have e3 : ¬ (town ≤ t) := fun z => e3 (nI_le z (by omega))
        rw [nI_eq (by omega) (by omega)] at e2
        exact go 1 (by unfold isA; rw [if_neg e, if_pos ⟨e2, by omega⟩])
      · have e : ¬ (rsF R m town < rsF R m t) := fun z => e (nI_lt z (by omega))
        rw [nI_eq (by omega) (by omega)] at e2
        exact go 0 (by unfold isA; rw [if_neg e, if_neg (fun z => e2 z.1)])
  have l2 : ∀ q t, t + q = R 6 → G (d + 1) 225 77 [(0, .ref 263), (1, .int (nI town)), (2, .int (nI m)), (3, .int (nI (ppF R (R 6)))), (4, .int (lfI R m t)), (5, .int (nI t))] [] r g j (rkI K) := by
    intro q
    induction q with
    | zero =>
      intro t ht2
      have : t = R 6 := by omega
      subst this
      refine vX10_share_77 (IX_l (by decide) ⟨fun _ => IX_e (q := 96 + town) (nI_add 96 town) (by omega) ⟨hz, ?_⟩, fun a => absurd (by rw [hV.mr (by decide)]; exact Int32.le_refl _) a⟩)
      rw [hV.mr (by omega), (hq town ht).2.1]
      exact l3 (R 6) 0 (by omega)
    | succ q ih =>
      intro t ht2
      refine vX10_share_77 (IX_l (by decide) ⟨fun a => absurd a (by rw [hV.mr (by decide)]; exact nI_ge (by omega) (by omega)), fun _ => IX_e (q := 96 + t) (nI_add 96 t) (by omega) ⟨hz, ?_⟩⟩)
      rw [hV.mr (by omega), (hq t (by omega)).1, nI_add]
      exact ih (t + 1) (by omega)
  have l1 : ∀ q t, t + q = R 6 → G (d + 1) 225 40 [(0, .ref 263), (1, .int (nI town)), (2, .int (nI m)), (3, .int (nI (ppF R t))), (4, .int (nI t))] [] r g j (rkI K) := by
    intro q
    induction q with
    | zero =>
      intro t ht2
      have : t = R 6 := by omega
      subst this
      exact vX10_share_40 (IX_l (by decide) ⟨fun _ => l2 (R 6) 0 (by omega), fun a => absurd (by rw [hV.mr (by decide)]; exact Int32.le_refl _) a⟩)
    | succ q ih =>
      intro t ht2
      refine vX10_share_40 (IX_l (by decide) ⟨fun a => absurd a (by rw [hV.mr (by decide)]; exact nI_ge (by omega) (by omega)), fun _ => IX_e (q := 96 + t) (nI_add 96 t) (by omega) ?_⟩)
      rw [hV.mr (by omega), nI_add, nI_add]
      exact ih (t + 1) (by omega)
  exact l1 (R 6) 0 (by omega)
theorem q_share (x1 x2 : Int32) (h6 : R 6 ≤ 5) : PQ n p b R Y r (d + 3) 101 225 [.int x1, .int x2] := by
  rcases in_or x1 (n := R 6) (by omega) with ⟨t, ht, rfl⟩ | ho
  · rcases in_or x2 (n := 10000) (by decide) with ⟨m, hm, rfl⟩ | ho2
    · refine ⟨nI (shF R m t), nI 0, e0, fun g j hV => ?_, fun g j hV => ?_⟩
      · exact vX9_share_0 (X_noTown hV (fun _ _ _ => ⟨fun _ => ⟨fun a => absurd a (nlt_0 (by omega)), fun _ => ⟨fun _ => ⟨p, hV.rp, X_minutesOf hV (by omega) ht (X_ans Ag.rf)⟩, fun a => absurd (nI_le (by omega) (by omega)) a⟩⟩, fun a => absurd n00 a⟩) (fun o => (o t ht rfl).elim))
      · exact vX10_share_0 (M_good fun g2 ha ht2 h7 => M_isTown (hV.ag ha) (fun _ _ _ => ⟨fun a => absurd a n10, fun _ => M_in 9999 (by decide) (fun _ _ _ => ⟨fun a => absurd a n10, fun _ => M_share_end (hV.ag ha) (by omega) ht ⟨rfl, rfl, ha, ht2, h7⟩⟩) (fun o => (o m hm rfl).elim)⟩) (fun o => (o t ht rfl).elim))
    · refine ⟨-1, nI 2, e2, fun g j hV => ?_, fun g j hV => ?_⟩
      · refine vX9_share_0 (X_noTown hV (fun _ _ _ => ⟨fun _ => ⟨fun _ => vX9_share_25 (X_ref Ag.rf), fun a => ⟨fun c => ?_, fun _ => vX9_share_25 (X_ref Ag.rf)⟩⟩, fun a => absurd n00 a⟩) (fun o => (o t ht rfl).elim))
        have h2 := out_c (by decide) ho2 a
        exfalso
        rw [Int32.le_iff_toInt_le, nI_toInt (by decide)] at c h2
        omega
      · exact vX10_share_0 (M_good fun g2 ha ht2 h7 => M_isTown (hV.ag ha) (fun _ _ _ => ⟨fun a => absurd a n10, fun _ => M_in 9999 (by decide) (fun k hk e => (ho2 k (by omega) e).elim) (fun _ => ⟨fun _ => M_no ha h7, fun a => absurd n00 a⟩)⟩) (fun o => (o t ht rfl).elim))
  · refine ⟨-1, nI 1, e1, fun g j hV => ?_, fun g j hV => ?_⟩
    · exact vX9_share_0 (X_noTown hV (fun k hk e => (ho k hk e).elim) (fun _ => ⟨fun a => absurd a n10, fun _ => X_ref Ag.rf⟩))
    · exact vX10_share_0 (M_good fun g2 ha ht2 h7 => M_isTown (hV.ag ha) (fun k hk e => (ho k hk e).elim) (fun _ => ⟨fun _ => M_no ha h7, fun a => absurd n00 a⟩))
end
