/-! ask, askLeaves -/
def lvF (R Y : Nat → Nat) (c : Nat) : Nat := if wthF R Y c < setF R Y - wthF R Y c then setF R Y - wthF R Y c else wthF R Y c
/-- the crate to ask, among the first c: 0 none, else its number + 1 -/
def askN (R Y : Nat → Nat) : Nat → Nat
  | 0 => 0
  | c + 1 => if oY Y c = 0 ∧ (askN R Y c = 0 ∨ lvF R Y c < lvF R Y (askN R Y c - 1)) then c + 1 else askN R Y c
def eN (k : Nat) : Int32 := if k = 0 then -(nI 2) else nI (k - 1)
def eL (R Y : Nat → Nat) (k : Nat) : Int32 := if k = 0 then -(nI 2) else nI (lvF R Y (k - 1))
theorem askN_le (R Y : Nat → Nat) : ∀ c, askN R Y c ≤ c := by
  intro c
  induction c with
  | zero => exact Nat.le_refl _
  | succ c ih =>
    show (if oY Y c = 0 ∧ (askN R Y c = 0 ∨ lvF R Y c < lvF R Y (askN R Y c - 1)) then c + 1 else askN R Y c) ≤ _
    split <;> omega
theorem m2neg : -(nI 2) < 0 := by decide +kernel
theorem m2neg' : ¬ 0 ≤ -(nI 2) := by decide +kernel
theorem lvF_le {R Y : Nat → Nat} {c : Nat} (hc : c < R 5) : lvF R Y c ≤ setF R Y := by
  have := wthF_le (Y := Y) hc
  unfold lvF
  split <;> omega
/-- what choose, asked of all crates, must find -/
def akF (R Y : Nat → Nat) : Nat := if setF R Y = 0 then 0 else askN R Y (R 5)
section
variable {n p b d : Nat} {R Y : Nat → Nat} {r : Rr} {g : Gi} {j : Gl} {K : Int32 → Rr → Gi → Gl → Prop} {Kv : Rr → Gi → Gl → Prop} {x x1 x2 : Int32} {Q : QT}
theorem NG.u1 {v : Int32} (h : NG R Y g) : NG R Y (uI g 79 1 v) := ⟨fun s hs => by rw [uI_o (by decide)]; exact h.1 s hs, by rw [uI_n (by decide)]; exact h.2.1, by rw [uI_n (by decide)]; exact h.2.2⟩
theorem NG.u2 {v : Int32} (h : NG R Y g) : NG R Y (uI g 79 2 v) := ⟨fun s hs => by rw [uI_o (by decide)]; exact h.1 s hs, by rw [uI_n (by decide)]; exact h.2.1, by rw [uI_n (by decide)]; exact h.2.2⟩
theorem lv_max {c : Nat} (hc : c < R 5) (h5 : R 5 ≤ 15) : (if nI (wthF R Y c) < nI (setF R Y) - nI (wthF R Y c) then nI (setF R Y) - nI (wthF R Y c) else nI (wthF R Y c)) = nI (lvF R Y c) := by
  have hw := wthF_le (Y := Y) hc
  have hs := setF_le (Y := Y) h5
  rw [pk_sub hw]
  unfold lvF
  by_cases e : wthF R Y c < setF R Y - wthF R Y c
  · rw [if_pos e, if_pos (nI_lt e (by omega))]
  · rw [if_neg e, if_neg (nI_nlt (by omega) (by omega))]
theorem X_choose_loop (hV : Vw n p b R Y r g) (h : ∀ g', Ag g g' → g' 79 1 = eN (askN R Y (R 5)) → g' 79 2 = eL R Y (askN R Y (R 5)) → Kv r g' j) : ∀ q c g', c + q = R 5 → Ag g g' → NG R Y g' → g' 79 1 = eN (askN R Y c) → g' 79 2 = eL R Y (askN R Y c) →
    G (d + 2) 13 28 [(0, .ref 79), (1, .ref p), (2, .ref 62), (3, .int (nI c))] [] r g' j (rkV Kv) := by
  have h5 := hV.b5
  have hs := setF_le (Y := Y) h5
  intro q
  induction q with
  | zero =>
    intro c g' hc ha hN h1 h2
    obtain rfl : c = R 5 := by omega
    exact vX2_choose_28 (OB_i (SH_p hV.hp) ⟨fun _ => h g' ha h1 h2, fun a => absurd (by rw [(hV.ag ha).px.1.2.2.2.2.2.1]; exact nI_le (by omega) (by omega)) a⟩)
  | succ q ih =>
    intro c g' hc ha hN h1 h2
    have hV' := hV.ag ha
    have hl := askN_le R Y c
    have e68 : g' 68 c = nI (opx (oY Y c)) := hV'.yx.2.2.2.1 c (by omega)
    have e : askN R Y (c + 1) = if oY Y c = 0 ∧ (askN R Y c = 0 ∨ lvF R Y c < lvF R Y (askN R Y c - 1)) then c + 1 else askN R Y c := rfl
    have lc := lvF_le (Y := Y) (show c < R 5 by omega)
    have skip : ¬ (oY Y c = 0 ∧ (askN R Y c = 0 ∨ lvF R Y c < lvF R Y (askN R Y c - 1))) → G (d + 2) 13 95 [(0, .ref 79), (1, .ref p), (2, .ref 62), (3, .int (nI c))] [] r g' j (rkV Kv) := fun z => vX2_choose_95 (by
      rw [nI_add]
      rw [if_neg z] at e
      exact ih (c + 1) g' (by omega) ha hN (by rw [e]; exact h1) (by rw [e]; exact h2))
    have take : (oY Y c = 0 ∧ (askN R Y c = 0 ∨ lvF R Y c < lvF R Y (askN R Y c - 1))) → G (d + 2) 13 84 [(0, .ref 79), (1, .ref p), (2, .ref 62), (3, .int (nI c)), (5, .int (nI (lvF R Y c)))] [] r g' j (rkV Kv) := fun z => vX2_choose_84 (vX2_choose_95 (by
      rw [nI_add]
      rw [if_pos z] at e
      refine ih (c + 1) _ (by omega) ((ha.u rfl).u rfl) hN.u1.u2 ?_ ?_
      · rw [uI_n (by decide), uI_s, e]; unfold eN; rw [if_neg (by omega)]; rfl
      · rw [uI_s, e]; unfold eL; rw [if_neg (by omega)]; rfl))
    refine vX2_choose_28 (OB_i (SH_p hV.hp) ⟨fun a => absurd a (by rw [hV'.px.1.2.2.2.2.2.1]; exact nI_ge (by omega) (by omega)), fun _ => IX_l (by omega) ?_⟩)
    rw [e68, opx_0]
    refine ⟨fun z => X_setsWith hV' hN (by omega) ?_, fun z => skip fun y => z y.1⟩
    rw [hN.2.2, lv_max (by omega) h5, h1, h2]
    by_cases k0 : askN R Y c = 0
    · have : eN (askN R Y c) = -(nI 2) := by unfold eN; rw [if_pos k0]
      rw [this]
      exact ⟨fun _ => take ⟨z, Or.inl k0⟩, fun a => absurd m2neg a⟩
    · have e1 : eN (askN R Y c) = nI (askN R Y c - 1) := by unfold eN; rw [if_neg k0]
      have e2 : eL R Y (askN R Y c) = nI (lvF R Y (askN R Y c - 1)) := by unfold eL; rw [if_neg k0]
      have lb := lvF_le (Y := Y) (show askN R Y c - 1 < R 5 by omega)
      rw [e1, e2]
      refine ⟨fun a => absurd a (nI_pos (by omega)), fun _ => ⟨fun a => skip fun y => ?_, fun a => take ⟨z, Or.inr ?_⟩⟩⟩
      · have := le_n (by omega) (by omega) a
        rcases y.2 with y | y <;> omega
      · rcases Nat.lt_or_ge (lvF R Y c) (lvF R Y (askN R Y c - 1)) with y | y
        · exact y
        · exact absurd (nI_le y (by omega)) a
theorem X_choose (hV : Vw n p b R Y r g) (h : ∀ g', Ag g g' → g' 79 1 = eN (akF R Y) → g' 79 2 = eL R Y (akF R Y) → Kv r g' j) : Cm (d + 3) 13 [.ref 79, .ref p, .ref 62] r g j (rkV Kv) := by
  have hs := setF_le (Y := Y) hV.b5
  refine vX2_choose_0 (X_count hV fun g' ha hN => ?_)
  rw [hN.2.2, nI_z (by omega)]
  refine ⟨fun e => h _ ((ha.u rfl).u rfl) ?_ ?_, fun e => ?_⟩
  · rw [uI_n (by decide), uI_s]; unfold akF; rw [if_pos e]; rfl
  · rw [uI_s]; unfold akF; rw [if_pos e]; rfl
  · have ek : akF R Y = askN R Y (R 5) := by unfold akF; rw [if_neg e]
    rw [ek] at h
    exact X_choose_loop hV h (R 5) 0 _ (by omega) ((ha.u rfl).u rfl) hN.u1.u2 (by rw [uI_n (by decide), uI_s]; rfl) (by rw [uI_s]; rfl)
theorem M_leftBy (hV : Vw n p b R Y r g) (hM : MG R Y g) {c : Nat} (hc : c < R 5) (h : K (nI (lvF R Y c)) r g j) : Cm d 221 [.ref 263, .int (nI c)] r g j (rkI K) := by
  have h5 := hV.b5
  have hs := setF_le (Y := Y) h5
  have hw := wthF_le (Y := Y) hc
  refine vX10_leftBy_0 (IX_l (by omega) (IX_l (by omega) ?_))
  rw [hM.1, hM.2 c hc, pk_sub hw]
  unfold lvF at h
  refine ⟨fun a => ?_, fun a => IX_l (by omega) ?_⟩
  · have a := le_n (by omega) (by omega) a
    by_cases e : wthF R Y c < setF R Y - wthF R Y c
    · rw [if_pos e] at h; exact h
    · rw [if_neg e] at h
      rw [show setF R Y - wthF R Y c = wthF R Y c by omega]; exact h
  · have : ¬ wthF R Y c < setF R Y - wthF R Y c := fun z => a (nI_le (by omega) (by omega))
    rw [if_neg this] at h
    rw [hM.2 c hc]; exact h
theorem M_askOf_loop (hV : Vw n p b R Y r g) (hM : MG R Y g) (h : K (eN (akF R Y)) r g j) : ∀ q c, c + q = R 5 → (setF R Y = 0 → c = 0) → G (d + 1) 222 9 [(0, .ref 263), (1, .int (eN (askN R Y c))), (2, .int (nI c))] [] r g j (rkI K) := by
  have h5 := hV.b5
  have hs := setF_le (Y := Y) h5
  intro q
  induction q with
  | zero =>
    intro c hc h0
    obtain rfl : c = R 5 := by omega
    refine vX10_askOf_9 (IX_l (by decide) ⟨fun _ => ?_, fun a => absurd (by rw [hV.mr (by decide)]; exact nI_le (by omega) (by omega)) a⟩)
    have : akF R Y = askN R Y (R 5) := by
      unfold akF
      by_cases e : setF R Y = 0
      · rw [if_pos e, h0 e]; rfl
      · rw [if_neg e]
    rw [this] at h; exact h
  | succ q ih =>
    intro c hc h0
    have hl := askN_le R Y c
    have hy := (hV.yo.2.2.2.2.2.2.2.2.1 c (by omega)).1
    have ly : oY Y c ≤ 2 := hy
    have e68 : g 268 (60 + c) = nI (oY Y c) := hV.ms (by omega)
    have lc := lvF_le (Y := Y) (show c < R 5 by omega)
    have e : askN R Y (c + 1) = if oY Y c = 0 ∧ (askN R Y c = 0 ∨ lvF R Y c < lvF R Y (askN R Y c - 1)) then c + 1 else askN R Y c := rfl
    refine vX10_askOf_9 (IX_l (by decide) ⟨fun a => absurd a (by rw [hV.mr (by decide)]; exact nI_ge (by omega) (by omega)), fun _ => ?_⟩)
    rw [hM.1]
    by_cases s0 : setF R Y = 0
    · have c0 := h0 s0
      subst c0
      refine ⟨fun _ => ?_, fun a => absurd (by rw [s0, n00]; exact Int32.le_refl _) a⟩
      unfold akF at h
      rw [if_pos s0] at h; exact h
    · refine ⟨fun a => absurd a (nI_nle (by omega) (by omega)), fun _ => IX_e (q := 60 + c) (nI_add 60 c) (by omega) ?_⟩
      have skip : ¬ (oY Y c = 0 ∧ (askN R Y c = 0 ∨ lvF R Y c < lvF R Y (askN R Y c - 1))) → G (d + 1) 222 57 [(0, .ref 263), (1, .int (eN (askN R Y c))), (2, .int (nI c))] [] r g j (rkI K) := fun z => vX10_askOf_57 (by
        rw [nI_add]
        have i := ih (c + 1) (by omega) (fun z => absurd z s0)
        rw [e, if_neg z] at i; exact i)
      have take : (oY Y c = 0 ∧ (askN R Y c = 0 ∨ lvF R Y c < lvF R Y (askN R Y c - 1))) → G (d + 1) 222 55 [(0, .ref 263), (2, .int (nI c))] [] r g j (rkI K) := fun z => vX10_askOf_55 (vX10_askOf_57 (by
        rw [nI_add]
        have i := ih (c + 1) (by omega) (fun z => absurd z s0)
        rw [e, if_pos z] at i
        have : eN (c + 1) = nI c := by unfold eN; rw [if_neg (by omega)]; rfl
        rw [this] at i; exact i))
      rw [e68, nI_z (by omega)]
      refine ⟨fun z => ?_, fun z => skip fun y => z y.1⟩
      by_cases k0 : askN R Y c = 0
      · have : eN (askN R Y c) = -(nI 2) := by unfold eN; rw [if_pos k0]
        rw [this]
        exact ⟨fun _ => take ⟨z, Or.inl k0⟩, fun a => absurd m2neg a⟩
      · have e1 : eN (askN R Y c) = nI (askN R Y c - 1) := by unfold eN; rw [if_neg k0]
        have lb := lvF_le (Y := Y) (show askN R Y c - 1 < R 5 by omega)
        rw [e1] at skip ⊢
        refine ⟨fun a => absurd a (nI_pos (by omega)), fun _ => M_leftBy hV hM (by omega) (M_leftBy hV hM (by omega) ⟨fun a => skip fun y => ?_, fun a => take ⟨z, Or.inr ?_⟩⟩)⟩
        · have := le_n (by omega) (by omega) a
          rcases y.2 with y | y <;> omega
        · rcases Nat.lt_or_ge (lvF R Y c) (lvF R Y (askN R Y c - 1)) with y | y
          · exact y
          · exact absurd (nI_le y (by omega)) a
theorem M_askOf (hV : Vw n p b R Y r g) (h : ∀ g', LsS g g' → MG R Y g' → K (eN (akF R Y)) r g' j) : Cm (d + 2) 222 [.ref 263] r g j (rkI K) :=
  vX10_askOf_0 (M_laySets hV fun g' hl hm => M_askOf_loop (hV.ag hl.ag) hm (h g' hl hm) (R 5) 0 (by omega) (fun _ => rfl))
theorem q_ask : PQ n p b R Y r (d + 4) 99 223 [] := by
  by_cases hb : b = 0
  · refine ⟨-1, nI 1, e1, fun g j hV => ?_, fun g j hV => ?_⟩
    · exact vX9_ask_0 ⟨fun _ => X_ref Ag.rf, fun a => absurd (hV.tx0 hb) a⟩
    · exact vX10_ask_0 (M_good fun g2 ha ht h7 => ⟨fun _ => M_no ha h7, fun a => absurd ((hV.ag ha).tm0 hb) a⟩)
  · refine ⟨eN (akF R Y), nI 0, e0, fun g j hV => ?_, fun g j hV => ?_⟩
    · refine vX9_ask_0 ⟨fun a => absurd a (hV.tx1 hb), fun _ => ⟨p, hV.rp, X_choose hV fun g' ha h1 h2 => ?_⟩⟩
      rw [h1]; exact X_ans ha
    · exact vX10_ask_0 (M_good fun g2 ha ht h7 => ⟨fun a => absurd a ((hV.ag ha).tm1 hb), fun _ => M_askOf (hV.ag ha) fun g' hl hm => ⟨rfl, rfl, ha.tr hl.ag, by rw [hl 263 11 (by decide) (by decide)]; exact ht, by rw [hl 0 7 (by decide) (by decide)]; exact h7⟩⟩)
theorem q_askLeaves : PQ n p b R Y r (d + 4) 100 224 [] := by
  by_cases hb : b = 0
  · refine ⟨-1, nI 1, e1, fun g j hV => ?_, fun g j hV => ?_⟩
    · exact vX9_askLeaves_0 ⟨fun _ => X_ref Ag.rf, fun a => absurd (hV.tx0 hb) a⟩
    · exact vX10_askLeaves_0 (M_good fun g2 ha ht h7 => ⟨fun _ => M_no ha h7, fun a => absurd ((hV.ag ha).tm0 hb) a⟩)
  · refine ⟨eL R Y (akF R Y), nI 0, e0, fun g j hV => ?_, fun g j hV => ?_⟩
    · refine vX9_askLeaves_0 ⟨fun a => absurd a (hV.tx1 hb), fun _ => ⟨p, hV.rp, X_choose hV fun g' ha h1 h2 => ?_⟩⟩
      rw [h2]; exact X_ans ha
    · refine vX10_askLeaves_0 (M_good fun g2 ha ht h7 => ⟨fun a => absurd a ((hV.ag ha).tm1 hb), fun _ => M_askOf (hV.ag ha) fun g' hl hm => ?_⟩)
      have hk : akF R Y ≤ R 5 := by
        unfold akF
        split
        · omega
        · exact askN_le R Y (R 5)
      have h5 := hV.b5
      have f1 : g' 263 11 = nI 0 := by rw [hl 263 11 (by decide) (by decide)]; exact ht
      have f2 : g' 0 7 = g 0 7 := by rw [hl 0 7 (by decide) (by decide)]; exact h7
      by_cases k0 : akF R Y = 0
      · have e1 : eN (akF R Y) = -(nI 2) := by unfold eN; rw [if_pos k0]
        have e2 : eL R Y (akF R Y) = -(nI 2) := by unfold eL; rw [if_pos k0]
        rw [e1, e2]
        exact ⟨fun a => absurd a m2neg', fun _ => ⟨rfl, rfl, ha.tr hl.ag, f1, f2⟩⟩
      · have e1 : eN (akF R Y) = nI (akF R Y - 1) := by unfold eN; rw [if_neg k0]
        have e2 : eL R Y (akF R Y) = nI (lvF R Y (akF R Y - 1)) := by unfold eL; rw [if_neg k0]
        rw [e1, e2]
        exact ⟨fun _ => M_leftBy ((hV.ag ha).ag hl.ag) hm (by omega) ⟨rfl, rfl, ha.tr hl.ag, f1, f2⟩, fun a => absurd (nI_pos' (by omega)) a⟩
theorem o_fits (hn : n + 1 ≤ 512) (hJ : J n r g) : OPi (d + 3) 96 218 [] n r g j := OPi.of hn hJ fun p b R Y hV => q_fits
theorem o_could (hn : n + 1 ≤ 512) (hJ : J n r g) : OPi (d + 3) 97 219 [] n r g j := OPi.of hn hJ fun p b R Y hV => q_could
theorem o_surely (hn : n + 1 ≤ 512) (hJ : J n r g) : OPi (d + 3) 98 220 [] n r g j := OPi.of hn hJ fun p b R Y hV => q_surely
theorem o_ask (hn : n + 1 ≤ 512) (hJ : J n r g) : OPi (d + 4) 99 223 [] n r g j := OPi.of hn hJ fun p b R Y hV => q_ask
theorem o_askLeaves (hn : n + 1 ≤ 512) (hJ : J n r g) : OPi (d + 4) 100 224 [] n r g j := OPi.of hn hJ fun p b R Y hV => q_askLeaves
end
