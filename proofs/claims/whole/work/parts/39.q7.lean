/-! SPECS: wrongly, missing -/
section
variable {n p b d : Nat} {R Y : Nat → Nat} {r : Rr} {g : Gi} {j : Gl} {K : Int32 → Rr → Gi → Gl → Prop} {x x1 x2 : Int32} {Q : QT}
/-- the number of the crate at height i of stack k -/
def nbA (R Y : Nat → Nat) (k i : Nat) : Nat := R (23 + 5 * (Y (75 + 5 * k + i) - 1))
/-- does one of the first m crates of stack k have a lesser number than v -/
def lsF (R Y : Nat → Nat) (k v : Nat) : Nat → Nat
  | 0 => 0
  | m + 1 => if lsF R Y k v m = 0 then (if nbA R Y k m < v then 1 else 0) else 1
theorem lsF_01 (R Y : Nat → Nat) (k v : Nat) : ∀ m, lsF R Y k v m = 0 ∨ lsF R Y k v m = 1 := by
  intro m
  cases m with
  | zero => exact Or.inl rfl
  | succ m => unfold lsF; split; split; exact Or.inr rfl; exact Or.inl rfl; exact Or.inr rfl
theorem lsF_ab {R Y : Nat → Nat} {k v : Nat} : ∀ {m m'}, m ≤ m' → lsF R Y k v m = 1 → lsF R Y k v m' = 1 := by
  intro m m' h h1
  induction m' with
  | zero => have : m = 0 := by omega
            subst this; exact h1
  | succ m' ih =>
    by_cases e : m = m' + 1
    · subst e; exact h1
    · have := ih (by omega)
      show (if lsF R Y k v m' = 0 then (if nbA R Y k m' < v then 1 else 0) else 1) = 1
      rw [if_neg (by omega)]
theorem nbA_le (hV : Vw n p b R Y r g) {k i : Nat} (hk : k < 9) (hi : i < Y (120 + k)) : 1 ≤ nbA R Y k i ∧ nbA R Y k i ≤ 99 ∧ Y (75 + 5 * k + i) - 1 < R 5 ∧ 1 ≤ Y (75 + 5 * k + i) := by
  have h1 := (hV.yo.1 k hk).2.2 i hi
  have h2 := hV.ro.2.2.2.2.1 (Y (75 + 5 * k + i) - 1) (by omega)
  exact ⟨h2.2.2.1, h2.2.2.2.1, by omega, h1.1⟩
theorem X_lies_lesser (hV : Vw n p b R Y r g) {s t i : Nat} (hs : s < 3) (ht : t < 3) (hi : i < Y (120 + (3 * s + t))) (h : K (nI (lsF R Y (3 * s + t) (nbA R Y (3 * s + t) i) i)) r g j) : Cm (d + 1) 63 [.ref 62, .ref p, .int (nI s), .int (nI t), .int (nI i)] r g j (rkI K) := by
  have hy := hV.yo.1 (3 * s + t) (by omega)
  have h5 := hV.b5
  have hb := nbA_le hV (show 3 * s + t < 9 by omega) hi
  have loop : ∀ q m, m + q = i → lsF R Y (3 * s + t) (nbA R Y (3 * s + t) i) m = 0 → G (d + 1) 63 21 [(0, .ref 62), (1, .ref p), (2, .int (nI s)), (3, .int (nI t)), (4, .int (nI i)), (5, .int (nI (nbA R Y (3 * s + t) i))), (6, .int (nI m))] [] r g j (rkI K) := by
    intro q
    induction q with
    | zero =>
      intro m hm h0
      have : m = i := by omega
      subst this
      rw [h0] at h
      exact vX8_liesAboveLesser_21 ⟨fun _ => ⟨bo0, h⟩, fun a => absurd (Int32.le_refl _) a⟩
    | succ q ih =>
      intro m hm h0
      have hbm := nbA_le hV (show 3 * s + t < 9 by omega) (show m < Y (120 + (3 * s + t)) by omega)
      refine vX8_liesAboveLesser_21 ⟨fun a => absurd a (nI_ge (by omega) (by omega)), fun _ => OB_i (SH_p hV.hp) (RF_i (Or.inl (RS_p6 hV.hp)) (X_crateAt hV hs ht (by omega) (AY_i (SH_p2 hV.hp) (IX_l (by omega) (RF_i (Or.inl (RS_cr hV.hp (by omega))) (OB_i (SH_cr hV.hp (by omega)) ?_))))))⟩
      rw [(hV.px.2.2.1 _ (by omega)).2.2.1]
      refine ⟨fun e => ?_, fun e => ⟨bo1, ?_⟩⟩
      · have e := le_n (by omega) (by have := hbm.2.1; unfold nbA at this; omega) e
        rw [nI_add]
        refine ih (m + 1) (by omega) ?_
        show (if _ = 0 then (if nbA R Y (3 * s + t) m < _ then 1 else 0) else 1) = 0
        rw [if_pos h0, if_neg (by show ¬ nbA R Y (3 * s + t) m < _; unfold nbA at e ⊢; omega)]
      · have e : ¬ (nbA R Y (3 * s + t) i ≤ nbA R Y (3 * s + t) m) := fun z => e (nI_le z (by have := hbm.2.1; unfold nbA at this; omega))
        have : lsF R Y (3 * s + t) (nbA R Y (3 * s + t) i) (m + 1) = 1 := by
          show (if _ = 0 then (if nbA R Y (3 * s + t) m < _ then 1 else 0) else 1) = 1
          rw [if_pos h0, if_pos (by omega)]
        rw [lsF_ab (show m + 1 ≤ i by omega) this] at h
        exact h
  refine vX8_liesAboveLesser_0 (OB_i (SH_p hV.hp) (RF_i (Or.inl (RS_p6 hV.hp)) (X_crateAt hV hs ht hi (AY_i (SH_p2 hV.hp) (IX_l (by omega) (RF_i (Or.inl (RS_cr hV.hp (by omega))) (OB_i (SH_cr hV.hp (by omega)) ?_)))))))
  rw [(hV.px.2.2.1 _ (by omega)).2.2.1]
  exact loop i 0 (by omega) rfl
/-- how many of the first i crates of stack k lie above a lesser one; over the first t stacks of a ship -/
def wrA (R Y : Nat → Nat) (k : Nat) : Nat → Nat
  | 0 => 0
  | i + 1 => wrA R Y k i + lsF R Y k (nbA R Y k i) i
def wrB (R Y : Nat → Nat) (s : Nat) : Nat → Nat
  | 0 => 0
  | t + 1 => wrB R Y s t + wrA R Y (3 * s + t) (Y (120 + (3 * s + t)))
theorem wrA_le (R Y : Nat → Nat) (k : Nat) : ∀ i, wrA R Y k i ≤ i := by
  intro i
  induction i with
  | zero => exact Nat.le_refl _
  | succ i ih => have := lsF_01 R Y k (nbA R Y k i) i; unfold wrA; omega
theorem wrB_le (hV : Vw n p b R Y r g) {s : Nat} (hs : s < 3) : ∀ t, t ≤ 3 → wrB R Y s t ≤ 5 * t := by
  intro t
  induction t with
  | zero => intro _; exact Nat.le_refl _
  | succ t ih =>
    intro ht
    have := ih (by omega)
    have h1 := wrA_le R Y (3 * s + t) (Y (120 + (3 * s + t)))
    have h2 := (hV.yo.1 (3 * s + t) (by omega)).1
    unfold wrB
    omega
theorem X_wr_in (hV : Vw n p b R Y r g) {s t w : Nat} (hs : s < 3) (ht : t < 3) (hw : w ≤ 15) (h : G (d + 2) 95 18 [(0, .ref 0), (1, .int (nI s)), (2, .int (nI (w + wrA R Y (3 * s + t) (Y (120 + (3 * s + t)))))), (3, .int (nI (t + 1)))] [] r g j Q) : ∀ q i, i + q = Y (120 + (3 * s + t)) → G (d + 2) 95 26 [(0, .ref 0), (1, .int (nI s)), (2, .int (nI (w + wrA R Y (3 * s + t) i))), (3, .int (nI t)), (4, .int (nI i))] [] r g j Q := by
  have h5 := (hV.yo.1 (3 * s + t) (by omega)).1
  intro q
  induction q with
  | zero =>
    intro i hi
    have : i = Y (120 + (3 * s + t)) := by omega
    subst this
    refine vX9_wrongly_26 (X_height hV hs ht ⟨fun _ => ?_, fun a => absurd (Int32.le_refl _) a⟩)
    rw [nI_add]; exact h
  | succ q ih =>
    intro i hi
    have h01 := lsF_01 R Y (3 * s + t) (nbA R Y (3 * s + t) i) i
    have e3 : wrA R Y (3 * s + t) (i + 1) = wrA R Y (3 * s + t) i + lsF R Y (3 * s + t) (nbA R Y (3 * s + t) i) i := rfl
    have := ih (i + 1) (by omega)
    rw [e3] at this
    refine vX9_wrongly_26 (X_height hV hs ht ⟨fun a => absurd a (nI_ge (by omega) (by omega)), fun _ => ⟨p, hV.rp, X_lies_lesser hV hs ht (by omega) ⟨fun e => vX9_wrongly_61 ?_, fun e => vX9_wrongly_61 ?_⟩⟩⟩)
    · rw [nI_z (by omega)] at e
      rw [e, Nat.add_zero] at this
      rw [nI_add]; exact this
    · rw [nI_z (by omega)] at e
      rw [nI_add, nI_add, show w + wrA R Y (3 * s + t) i + 1 = w + (wrA R Y (3 * s + t) i + lsF R Y (3 * s + t) (nbA R Y (3 * s + t) i) i) by omega]
      exact this
theorem X_wr_out (hV : Vw n p b R Y r g) {s : Nat} (hs : s < 3) {g0 : Gi} (ha : Ag g0 g) : ∀ q t, t + q = 3 → G (d + 2) 95 18 [(0, .ref 0), (1, .int (nI s)), (2, .int (nI (wrB R Y s t))), (3, .int (nI t))] [] r g j (rkI (EX (nI (wrB R Y s 3)) (nI 0) r g0)) := by
  intro q
  induction q with
  | zero =>
    intro t ht
    have : t = 3 := by omega
    subst this
    exact vX9_wrongly_18 ⟨fun _ => X_ans ha, fun a => absurd (Int32.le_refl _) a⟩
  | succ q ih =>
    intro t ht
    have hl := wrB_le hV hs t (by omega)
    exact vX9_wrongly_18 ⟨fun a => absurd a (nI_ge (by omega) (by omega)), fun _ => X_wr_in hV hs (by omega) (by omega) (ih (t + 1) (by omega)) (Y (120 + (3 * s + t))) 0 (by omega)⟩
theorem M_wr_3 (hV : Vw n p b R Y r g) {s t w i : Nat} (hs : s < 3) (ht : t < 3) (hw : w ≤ 30) (hi : i < Y (120 + (3 * s + t))) (h : G (d + 2) 212 30 [(0, .ref 263), (1, .int (nI s)), (2, .int (nI (w + lsF R Y (3 * s + t) (nbA R Y (3 * s + t) i) i))), (3, .int (nI t)), (4, .int (nI (i + 1)))] [] r g j Q) : ∀ q m, m + q = i → G (d + 2) 212 47 [(0, .ref 263), (1, .int (nI s)), (2, .int (nI w)), (3, .int (nI t)), (4, .int (nI i)), (5, .int (nI (lsF R Y (3 * s + t) (nbA R Y (3 * s + t) i) m))), (6, .int (nI m))] [] r g j Q := by
  have h5 := (hV.yo.1 (3 * s + t) (by omega)).1
  have hb := nbA_le hV (show 3 * s + t < 9 by omega) hi
  have h55 := hV.b5
  intro q
  induction q with
  | zero =>
    intro m hm
    have : m = i := by omega
    subst this
    have h01 := lsF_01 R Y (3 * s + t) (nbA R Y (3 * s + t) m) m
    refine vX10_wrongly_47 ⟨fun _ => ⟨fun e => vX10_wrongly_112 ?_, fun e => vX10_wrongly_112 ?_⟩, fun a => absurd (Int32.le_refl _) a⟩
    · rw [nI_z (by omega)] at e
      rw [e] at h
      rw [nI_add, nI_add]; exact h
    · rw [nI_z (by omega)] at e
      rw [show lsF R Y (3 * s + t) (nbA R Y (3 * s + t) m) m = 1 by omega] at h
      rw [nI_add, nI_add]; exact h
  | succ q ih =>
    intro m hm
    have h01 := lsF_01 R Y (3 * s + t) (nbA R Y (3 * s + t) i) m
    have hbm := nbA_le hV (show 3 * s + t < 9 by omega) (show m < Y (120 + (3 * s + t)) by omega)
    have e3 : lsF R Y (3 * s + t) (nbA R Y (3 * s + t) i) (m + 1) = if lsF R Y (3 * s + t) (nbA R Y (3 * s + t) i) m = 0 then (if nbA R Y (3 * s + t) m < nbA R Y (3 * s + t) i then 1 else 0) else 1 := rfl
    have := ih (m + 1) (by omega)
    rw [e3] at this
    refine vX10_wrongly_47 ⟨fun a => absurd a (nI_ge (by omega) (by omega)), fun _ => ⟨fun e => ?_, fun e => vX10_wrongly_88 (vX10_wrongly_93 ?_)⟩⟩
    · rw [nI_z (by omega)] at e
      rw [if_pos e] at this
      refine M_lyingAt hV hs ht (by omega) (M_ofCrate hV (w := 2) (by omega) (by decide) (M_lyingAt hV hs ht hi (M_ofCrate hV (w := 2) (by omega) (by decide) ?_)))
      have ea : R (21 + 5 * (Y (75 + 5 * (3 * s + t) + m) - 1) + 2) = nbA R Y (3 * s + t) m := by unfold nbA; congr 1; omega
      have eb : R (21 + 5 * (Y (75 + 5 * (3 * s + t) + i) - 1) + 2) = nbA R Y (3 * s + t) i := by unfold nbA; congr 1; omega
      rw [ea, eb]
      refine ⟨fun z => vX10_wrongly_93 ?_, fun z => vX10_wrongly_88 (vX10_wrongly_93 ?_)⟩
      · have z := le_n (by omega) (by omega) z
        rw [if_neg (by omega)] at this
        rw [nI_add]; exact this
      · have z : ¬ (nbA R Y (3 * s + t) i ≤ nbA R Y (3 * s + t) m) := fun q => z (nI_le q (by omega))
        rw [if_pos (by omega)] at this
        rw [nI_add]; exact this
    · rw [nI_z (by omega)] at e
      rw [if_neg e] at this
      rw [nI_add]; exact this
theorem M_wr_in (hV : Vw n p b R Y r g) {s t w : Nat} (hs : s < 3) (ht : t < 3) (hw : w ≤ 15) (h : G (d + 2) 212 22 [(0, .ref 263), (1, .int (nI s)), (2, .int (nI (w + wrA R Y (3 * s + t) (Y (120 + (3 * s + t)))))), (3, .int (nI (t + 1)))] [] r g j Q) : ∀ q i, i + q = Y (120 + (3 * s + t)) → G (d + 2) 212 30 [(0, .ref 263), (1, .int (nI s)), (2, .int (nI (w + wrA R Y (3 * s + t) i))), (3, .int (nI t)), (4, .int (nI i))] [] r g j Q := by
  have h5 := (hV.yo.1 (3 * s + t) (by omega)).1
  intro q
  induction q with
  | zero =>
    intro i hi
    have : i = Y (120 + (3 * s + t)) := by omega
    subst this
    refine vX10_wrongly_30 (M_highOf hV hs ht ⟨fun _ => ?_, fun a => absurd (Int32.le_refl _) a⟩)
    rw [nI_add]; exact h
  | succ q ih =>
    intro i hi
    have hwa := wrA_le R Y (3 * s + t) i
    have e3 : w + wrA R Y (3 * s + t) (i + 1) = w + wrA R Y (3 * s + t) i + lsF R Y (3 * s + t) (nbA R Y (3 * s + t) i) i := by
      show w + (_ + _) = _; omega
    have := ih (i + 1) (by omega)
    rw [e3] at this
    exact vX10_wrongly_30 (M_highOf hV hs ht ⟨fun a => absurd a (nI_ge (by omega) (by omega)), fun _ => M_wr_3 hV hs ht (by omega) (by omega) this i 0 (by omega)⟩)
theorem M_wr_out (hV : Vw n p b R Y r g) {s : Nat} (hs : s < 3) (h : K (nI (wrB R Y s 3)) r g j) : ∀ q t, t + q = 3 → G (d + 2) 212 22 [(0, .ref 263), (1, .int (nI s)), (2, .int (nI (wrB R Y s t))), (3, .int (nI t))] [] r g j (rkI K) := by
  intro q
  induction q with
  | zero =>
    intro t ht
    have : t = 3 := by omega
    subst this
    exact vX10_wrongly_22 ⟨fun _ => h, fun a => absurd (Int32.le_refl _) a⟩
  | succ q ih =>
    intro t ht
    have hl := wrB_le hV hs t (by omega)
    exact vX10_wrongly_22 ⟨fun a => absurd a (nI_ge (by omega) (by omega)), fun _ => M_wr_in hV hs (by omega) (by omega) (ih (t + 1) (by omega)) (Y (120 + (3 * s + t))) 0 (by omega)⟩
theorem q_wrongly (x1 : Int32) (h4 : R 4 ≤ 3) : PQ n p b R Y r (d + 3) 95 212 [.int x1] := by
  rcases in_or x1 (n := R 4) (by omega) with ⟨s, hs, rfl⟩ | ho
  · refine ⟨nI (wrB R Y s 3), nI 0, e0, fun g j hV => ?_, fun g j hV => ?_⟩
    · exact vX9_wrongly_0 (X_noShip hV (fun _ _ _ => ⟨fun _ => X_wr_out hV (by omega) Ag.rf 3 0 (by omega), fun a => absurd n00 a⟩) (fun o => (o s hs rfl).elim))
    · exact vX10_wrongly_0 (M_good fun g2 ha ht h7 => M_isShip (hV.ag ha) (fun _ _ _ => ⟨fun a => absurd a n10, fun _ => M_wr_out (hV.ag ha) (by omega) ⟨rfl, rfl, ha, ht, h7⟩ 3 0 (by omega)⟩) (fun o => (o s hs rfl).elim))
  · refine ⟨-1, nI 1, e1, fun g j hV => ?_, fun g j hV => ?_⟩
    · exact vX9_wrongly_0 (X_noShip hV (fun k hk e => (ho k hk e).elim) (fun o => ⟨fun a => absurd a n10, fun _ => X_ref Ag.rf⟩))
    · exact vX10_wrongly_0 (M_good fun g2 ha ht h7 => M_isShip (hV.ag ha) (fun k hk e => (ho k hk e).elim) (fun o => ⟨fun _ => M_no ha h7, fun a => absurd n00 a⟩))
end
