/-! CRANES, the class: solve -/
section
variable {n p b d sh : Nat} {R Y : Nat → Nat} {r : Rr} {g g0 g' : Gi} {j : Gl}
theorem SkF.ag {dp : Nat} (h : SkF dp g g') : Ag g g' := fun a k e => h a k (fun z => by rw [exc_in (by omega)] at e; cases e)
/-- what solve leaves: a way, the fewest and the first; or none -/
def SvY (R Y : Nat → Nat) (sh : Nat) (n : Nat) (ps : List Nat) (g' : Gi) : Prop := g' 73 3 = nI 1 ∧ g' 73 2 = nI n ∧ g' 73 1 = nI ps.length ∧ ∀ i c, ps[i]? = some c → g' 74 i = nI c
theorem X_solve {K : Rr → Gi → Gl → Prop} (hV : Vw n p b R Y r g) (hsh : sh < R 4) (h1 : ∀ g' n ps, Ag g g' → SvY R Y sh n ps g' → cr_D (crF R Y sh) (crE R Y sh) (cr0 R Y sh) n → n ≤ 30 → cr_L (crF R Y sh) (crE R Y sh) ps (cr0 R Y sh) → K r g' j) (h0 : ∀ g', Ag g g' → g' 73 3 = nI 0 → (∀ l c, ¬ cr_q (crF R Y sh) (crE R Y sh) l c (cr0 R Y sh)) → K r g' j) : Cm (d + 63) 15 [.ref 73, .ref p, .ref 62, .int (nI sh)] r g j (rkV K) := by
  have hb4 := hV.b4
  have hs3 : sh < 3 := by omega
  have hro := hV.ro
  have hyo := hV.yo
  have hV0 := V0 hro hyo hs3
  have hc5 := ct5 (Y := Y) (sh := sh) hro
  have he := fun k => crE_b (R := R) (Y := Y) (sh := sh) k
  have e0 : (nI 0) = nI (cr0 R Y sh).1 := rfl
  refine vX3_solve_0 (X_load (d := d + 60) (hV.ag (Ag.rf.u rfl)) hsh fun g1 hf1 h8 hO1 h77 => ?_)
  have ha1 : Ag g g1 := (Ag.rf.u (a := 73) (k := 1) (v := nI 0) rfl).tr fun a k e => hf1 a k (fun z => by rw [exc_in (by omega)] at e; cases e) (fun z => by rw [z.1, z.2] at e; cases e)
  refine X_canCome (d := d + 60) (hV.ag ha1) hsh (fun hx => ⟨bo1, fun a => absurd a n10, fun _ => ?_⟩) (fun hx => ⟨bo0, fun _ => h0 _ (ha1.u rfl) uI_s (fun l c => X_no l c _ hV0 hx), fun a => absurd n00 a⟩)
  obtain ⟨l, c, hq, hc⟩ := X_can (e := crE R Y sh) (fun k => (he k).2) (ctC R Y sh) (cr0 R Y sh) hV0 hx (by show 0 + _ = _; omega)
  obtain ⟨N, hN⟩ := D_ex ⟨l, c, hq⟩
  have hN30 : N ≤ 30 := by
    have h1 := hN.2 l c hq
    have h2 : ctC R Y sh * (ctC R Y sh + 1) ≤ 5 * (5 + 1) := Nat.mul_le_mul hc5 (by omega)
    omega
  have hh := H_D hV0 hN
  obtain ⟨ps, hps⟩ := L_ex (fun k => (he k).1) N N (cr0 R Y sh) (Nat.le_refl _) hN
  rw [e0]
  refine X_stillE hV0 (hO1.eq fun a q z => uI_d (by omega)) hc5 (by rw [uI_n (by decide)]; exact h8) (fun k hk => by rw [uI_o (by decide)]; exact (h77 k hk).1) ?_
  have loop : ∀ q B gg, B + q = N → cr_s (cr_h (crE R Y sh)) (cr0 R Y sh) ≤ B → Ag g gg → gg 73 9 = nI B → gg 73 8 = nI (ctC R Y sh) → OT (cr0 R Y sh) gg → (∀ k, k < ctC R Y sh → gg 77 k = nI (crE R Y sh k) ∧ gg 78 k = nI (if crF R Y sh k = 0 then 0 else 1)) → G (d + 63) 15 42 [(0, .ref 73), (4, .int (nI 0))] [] r gg j (rkV K) := by
    intro q
    induction q with
    | zero =>
      intro B gg hB hB2 ha h9 h8 hO h77
      have : B = N := by omega
      subst this
      refine vX3_solve_42 ⟨fun a => ?_, fun _ => ⟨fun _ => ?_, fun a => absurd n00 a⟩⟩
      · rw [h9] at a; exact absurd a (nI_nlt hN30 (by omega))
      rw [h9]
      have hO2 : OT (cr0 R Y sh) (uI gg 73 2 (nI B)) := hO.eq fun a q z => uI_d (by omega)
      have hD2 : OD (ctC R Y sh) B (crF R Y sh) (crE R Y sh) (uI gg 73 2 (nI B)) := ⟨hc5, hN30, by rw [uI_n (by decide)]; exact h8, by rw [uI_n (by decide)]; exact h9, fun k hk => by rw [uI_o (by decide), uI_o (by decide)]; exact h77 k hk⟩
      refine Cm_mI (X_seek (d := d) (B := B) he (fun k hk => crF2 hro hyo hs3 hx hk) 30 (cr0 R Y sh) 0 0 (-1) _ j hV0 hO2 hD2 (Nat.le_refl _) (by omega) (by omega) (fun n' z => by have := D_u hN z; omega) (fun f n' t z z2 => ?_)) ?_
      · exfalso
        have h1 : (-1 : Int32) < 0 := by decide +kernel
        rw [z] at h1
        exact nI_pos (by omega) h1
      · rintro v r4 g4 j4 ⟨rfl, rfl, hO4, hfr4, hv⟩
        rcases hv with ⟨rfl, n', ps', y1, y2, y3, y4, y5⟩ | ⟨rfl, z⟩
        · have fin : G (d + 63) 15 87 [(0, .ref 73), (4, .int (nI 1))] [] r4 (uI g4 73 9 (g4 73 9 + nI 1)) j4 (rkV K) := by
            refine vX3_solve_87 ⟨bo1, h1 _ B ps' (((ha.u rfl).tr hfr4.ag).u rfl |>.u rfl) ⟨uI_s, ?_, ?_, fun i c hi => ?_⟩ hN hN30 y3⟩
            · rw [uI_n (by decide), uI_n (by decide), hfr4 73 2 (by omega), uI_s]
            · rw [uI_n (by decide), uI_n (by decide), y4]; congr 1; omega
            · have := y5 i c hi
              rw [Nat.zero_add] at this
              rw [uI_o (by decide), uI_o (by decide)]; exact this
          exact vX3_solve_42 ⟨fun _ => fin, fun _ => ⟨fun a => absurd a n10, fun _ => fin⟩⟩
        · exact absurd (by omega) (z B hN)
    | succ q ih =>
      intro B gg hB hB2 ha h9 h8 hO h77
      refine vX3_solve_42 ⟨fun a => ?_, fun _ => ⟨fun _ => ?_, fun a => absurd n00 a⟩⟩
      · rw [h9] at a; exact absurd a (nI_nlt (by omega) (by omega))
      rw [h9]
      have hO2 : OT (cr0 R Y sh) (uI gg 73 2 (nI B)) := hO.eq fun a q z => uI_d (by omega)
      have hD2 : OD (ctC R Y sh) B (crF R Y sh) (crE R Y sh) (uI gg 73 2 (nI B)) := ⟨hc5, by omega, by rw [uI_n (by decide)]; exact h8, by rw [uI_n (by decide)]; exact h9, fun k hk => by rw [uI_o (by decide), uI_o (by decide)]; exact h77 k hk⟩
      refine Cm_mI (X_seek (d := d) (B := B) he (fun k hk => crF2 hro hyo hs3 hx hk) 30 (cr0 R Y sh) 0 0 (-1) _ j hV0 hO2 hD2 (Nat.le_refl _) (by omega) (by omega) (fun n' z => by have := D_u hN z; omega) (fun f n' t z z2 => ?_)) ?_
      · exfalso
        have h1 : (-1 : Int32) < 0 := by decide +kernel
        rw [z] at h1
        exact nI_pos (by omega) h1
      · rintro v r4 g4 j4 ⟨rfl, rfl, hO4, hfr4, hv⟩
        have hD4 := hfr4.od hD2
        rcases hv with ⟨rfl, n', ps', y1, y2, _⟩ | ⟨rfl, z⟩
        · have := D_u hN y1
          omega
        · rw [hD4.2.2.2.1, nI_add]
          exact ih (B + 1) _ (by omega) (by omega) (((ha.u rfl).tr hfr4.ag).u rfl) uI_s (by rw [uI_n (by decide)]; exact hD4.2.2.1) (hO4.eq fun a q z => uI_d (by omega)) (fun k hk => by rw [uI_o (by decide), uI_o (by decide)]; exact hD4.2.2.2.2 k hk)
  exact loop _ (cr_s (cr_h (crE R Y sh)) (cr0 R Y sh)) _ (Nat.add_sub_cancel' hh) (Nat.le_refl _) ((ha1.u rfl).u rfl) uI_s (by rw [uI_n (by decide), uI_n (by decide)]; exact h8) (hO1.eq fun a q z => by rw [uI_d (by omega), uI_d (by omega)]) (fun k hk => by rw [uI_o (by decide), uI_o (by decide), uI_o (by decide), uI_o (by decide)]; exact h77 k hk)
theorem X_fewest_y (hV : Vw n p b R Y r g) (hsh : sh < R 4) {N : Nat} (hD : cr_D (crF R Y sh) (crE R Y sh) (cr0 R Y sh) N) : Cm (d + 64) 93 [.ref 0, .int (nI sh)] r g j (rkI (EX (nI N) (nI 0) r g)) := by
  refine vX9_fewest_0 (X_noShip hV (fun k hk e => ⟨fun _ => ⟨p, hV.rp, X_solve hV hsh (fun g' n' ps ha hs hd _ _ => ⟨fun a => ?_, fun _ => vX9_fewest_53 ?_⟩) (fun g' _ _ z => ?_)⟩, fun a => absurd n00 a⟩) (fun o => (o sh hsh rfl).elim))
  · rw [hs.1] at a; exact absurd a n10
  · rw [hs.2.1, ← D_u hD hd]
    exact X_ans ha
  · obtain ⟨l, hl⟩ := hD.1
    exact absurd hl (z l N)
theorem X_fewest_n (hV : Vw n p b R Y r g) (hsh : sh < R 4) (hD : ∀ l c, ¬ cr_q (crF R Y sh) (crE R Y sh) l c (cr0 R Y sh)) : Cm (d + 64) 93 [.ref 0, .int (nI sh)] r g j (rkI (EX (-(nI 2)) (nI 0) r g)) := by
  refine vX9_fewest_0 (X_noShip hV (fun k hk e => ⟨fun _ => ⟨p, hV.rp, X_solve hV hsh (fun g' n' ps ha hs hd _ _ => ?_) (fun g' ha h3 z => ⟨fun _ => vX9_fewest_53 (X_ans ha), fun a => ?_⟩)⟩, fun a => absurd n00 a⟩) (fun o => (o sh hsh rfl).elim))
  · obtain ⟨l, hl⟩ := hd.1
    exact absurd hl (hD l n')
  · rw [h3] at a; exact absurd n00 a
theorem L_len (he : ∀ k, 1 ≤ crE R Y sh k) : ∀ ps s n, cr_L (crF R Y sh) (crE R Y sh) ps s → cr_D (crF R Y sh) (crE R Y sh) s n → ps.length ≤ n := by
  intro ps
  induction ps with
  | nil => intro s n _ _; exact Nat.zero_le _
  | cons c ps ih =>
    intro s n hL hD
    obtain ⟨n', f, t, k, s', h1, h2, h3, h4, h5, h6⟩ := hL
    have := D_u hD h2
    subst this
    obtain ⟨k2, s2, n2, g1, g2, g3⟩ := h3.2.2.1
    rw [h5] at g1
    simp only [Option.some.injEq, Prod.mk.injEq] at g1
    obtain ⟨rfl, rfl⟩ := g1
    have := ih s' n2 h6 g2
    have := he k
    rw [List.length_cons]
    omega
theorem X_liftAt_y {x2 : Int32} (hV : Vw n p b R Y r g) (hsh : sh < R 4) {N : Nat} {ps : List Nat} (hD : cr_D (crF R Y sh) (crE R Y sh) (cr0 R Y sh) N) (hL : cr_L (crF R Y sh) (crE R Y sh) ps (cr0 R Y sh)) {v e : Int32} (h1 : ∀ i c, ps[i]? = some c → x2 = nI i → v = nI c ∧ e = nI 0) (h2 : out x2 ps.length → v = -1 ∧ e = nI 1) : Cm (d + 64) 94 [.ref 0, .int (nI sh), .int x2] r g j (rkI (EX v e r g)) := by
  refine vX9_liftAt_0 (X_noShip hV (fun k hk _ => ⟨fun _ => ⟨p, hV.rp, X_solve hV hsh (fun g' n' ps' ha hs hd hn30 hl => ⟨fun a => ?_, fun _ => ?_⟩) (fun g' _ _ z => ?_)⟩, fun a => absurd n00 a⟩) (fun o => (o sh hsh rfl).elim))
  · rw [hs.1] at a; exact absurd a n10
  · have := L_u _ _ _ hL hl
    subst this
    have hlen := L_len (fun k => (crE_b k).1) ps _ n' hL hd
    have no : out x2 ps.length → G (d + 64) 94 62 [(0, .ref 0)] [] r g' j (rkI (EX v e r g)) := fun o => by
      obtain ⟨rfl, rfl⟩ := h2 o
      exact vX9_liftAt_62 (X_ref ha)
    rcases in_or x2 (n := ps.length) (by omega) with ⟨i, hi, rfl⟩ | o
    · have hc : ps[i]? = some ps[i] := List.getElem?_eq_getElem hi
      obtain ⟨rfl, rfl⟩ := h1 i _ hc rfl
      refine ⟨fun a => absurd a (nlt_0 (by omega)), fun _ => ⟨fun _ => IX_l (by omega) ?_, fun a => absurd ?_ a⟩⟩
      · rw [hs.2.2.2 i _ hc]; exact X_ans ha
      · rw [hs.2.2.1]; exact nI_lt hi (by omega)
    · refine ⟨fun _ => no o, fun a0 => ⟨fun a => absurd a ?_, fun _ => no o⟩⟩
      rw [hs.2.2.1]; exact out_nlt (by omega) o a0
  · obtain ⟨l, hl⟩ := hD.1
    exact absurd hl (z l N)
theorem X_liftAt_n {x2 : Int32} (hV : Vw n p b R Y r g) (hsh : sh < R 4) (hD : ∀ l c, ¬ cr_q (crF R Y sh) (crE R Y sh) l c (cr0 R Y sh)) : Cm (d + 64) 94 [.ref 0, .int (nI sh), .int x2] r g j (rkI (EX (-1) (nI 6) r g)) := by
  refine vX9_liftAt_0 (X_noShip hV (fun k hk e => ⟨fun _ => ⟨p, hV.rp, X_solve hV hsh (fun g' n' ps ha hs hd _ _ => ?_) (fun g' ha h3 z => ⟨fun _ => X_ref ha, fun a => ?_⟩)⟩, fun a => absurd n00 a⟩) (fun o => (o sh hsh rfl).elim))
  · obtain ⟨l, hl⟩ := hd.1
    exact absurd hl (hD l n')
  · rw [h3] at a; exact absurd n00 a
end
