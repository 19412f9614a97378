/-! THE TEXT: the class's crates -/
section
variable {d n e k lo hi q a0 k0 cn s0 so ix m : Nat} {τ F F' ν : Nat → Nat} {r : Rr} {g g' g0 H : Gi} {j j' j0 : Gl} {P : Gi → Gl → Prop} {Q : Int32 → Gi → Gl → Prop}
theorem X_kindOfCrate {K : Int32 → Rr → Gi → Gl → Prop} (hR : RdX n τ e g j) (h1 : ∀ kd, kd ≤ 3 → kdL n τ e = .inr kd → tK n τ e = 1 → K (nI kd) r g j) (h0 : kdL n τ e = .inl (1, tA n τ e) → K (-1) r g j) : Cm (d + 5) 44 [.ref 58] r g j (rkI K) := by
  unfold kdL at h1 h0
  refine vX5_kindOfCrate_0 (X_is (by decide) hR (fun w => ⟨fun y => absurd y n10, fun _ => h1 0 (by decide) (by rw [if_pos w]) w.1⟩) (fun w0 => ⟨fun _ => ?_, fun y => absurd n00 y⟩))
  refine X_is (by decide) hR (fun w => ⟨fun y => absurd y n10, fun _ => h1 1 (by decide) (by rw [if_neg w0, if_pos w]) w.1⟩) (fun w1 => ⟨fun _ => ?_, fun y => absurd n00 y⟩)
  refine X_is (by decide) hR (fun w => ⟨fun y => absurd y n10, fun _ => h1 2 (by decide) (by rw [if_neg w0, if_neg w1, if_pos w]) w.1⟩) (fun w2 => ⟨fun _ => ?_, fun y => absurd n00 y⟩)
  refine X_is (by decide) hR (fun w => ⟨fun y => absurd y n10, fun _ => h1 3 (by decide) (by rw [if_neg w0, if_neg w1, if_neg w2, if_pos w]) w.1⟩) (fun w3 => ⟨fun _ => ?_, fun y => absurd n00 y⟩)
  exact h0 (by rw [if_neg w0, if_neg w1, if_neg w2, if_neg w3])
theorem X_hasNumber {K : Int32 → Rr → Gi → Gl → Prop} {v : Nat} (hp : q = 2 ∨ q = 30) (h15 : m ≤ 15) (hv : v ≤ 999) (h7 : g q 7 = nI m) (hc : ∀ c, c < m → g (q + 13 + c) 3 = nI (F (23 + 5 * c)) ∧ F (23 + 5 * c) ≤ 99) (h1 : (∃ c, c < m ∧ F (23 + 5 * c) = v) → K (nI 1) r g j) (h0 : ¬ (∃ c, c < m ∧ F (23 + 5 * c) = v) → K (nI 0) r g j) : Cm d 25 [.ref q, .int (nI v)] r g j (rkI K) := by
  have loop : ∀ w i, i + w = m → (∀ c, c < i → F (23 + 5 * c) ≠ v) → G d 25 2 [(0, .ref q), (1, .int (nI v)), (2, .int (nI i))] [] r g j (rkI K) := by
    intro w
    induction w with
    | zero =>
      intro i hi hno
      refine vX4_hasNumber_2 (OB_i (SH_p hp) ⟨fun _ => ⟨bo0, h0 (fun ⟨c, a, b⟩ => hno c (by omega) b)⟩, fun y => absurd ?_ y⟩)
      rw [h7, nI_leI (by omega) (by omega)]; omega
    | succ w ih =>
      intro i hi hno
      refine vX4_hasNumber_2 (OB_i (SH_p hp) ⟨fun y => ?_, fun _ => crate_f hp rfl (by omega) ?_⟩)
      · rw [h7, nI_leI (by omega) (by omega)] at y; omega
      · obtain ⟨a, b⟩ := hc i (by omega)
        rw [a, nI_eq (by omega) (by omega)]
        refine ⟨fun y => ⟨bo1, h1 ⟨i, by omega, y⟩⟩, fun y => ?_⟩
        rw [nI_add]
        exact ih (i + 1) (by omega) (fun c hc' => by
          by_cases z : c = i
          · subst z; exact y
          · exact hno c (by omega))
  exact vX4_hasNumber_0 (loop m 0 (by omega) (fun c hc => by omega))
def P2 (cn : Nat) (ν F1 : Nat → Nat) (b : Prop) (g : Gi) (j : Gl) : Prop := (g 58 3 = nI 1 ∧ g 58 16 = nI 0) ∧ (∃ cn', NS cn' F1 g j) ∧ (b → NM cn ν F1 g j)
theorem pc2 {b : Prop} : PcW (P2 cn ν F b) := ⟨fun g g' j j' h f => ⟨⟨by rw [f.1 58 3 (by omega)]; exact h.1.1, by rw [f.1 58 16 (by omega)]; exact h.1.2⟩, h.2.1.elim fun c z => ⟨c, z.wf f.wf⟩, fun z => (h.2.2 z).wf f.wf⟩, fun g j a k v z h => ⟨by rw [uI_o (by omega)]; exact h.1, h.2.1.elim fun c y => ⟨c, y.u z⟩, fun y => (h.2.2 y).u (Or.inl z)⟩⟩
theorem Xt1 {K : Int32 → Rr → Gi → Gl → Prop} {f : Nat → LR} {b : Prop} (hX : XB n τ e (P2 cn ν F b) H j0 g j) (hN : FNm F) (hH : HQ q H g0) (hE : XE n τ q (bz (tnm n τ e F 0 2) f) g0 j0 Q)
    (h1 : ∀ s g' j', s ≤ 2 → XB n τ (tZ n τ e) (P2 cn ν F b) H j0 g' j' → g' 58 11 = nI s → g' 58 9 = nI (tA n τ e) → XE n τ q (f s) g0 j0 Q → mtc n τ e F s → K (nI 1) r g' j') (h0 : ∀ g' j', Q (nI 0) g' j' → K (nI 0) r g' j') : Cm (d + 6) 39 [.ref 58, .int (nI 1)] r g j (rkI K) := by
  obtain ⟨hR, hA, hS⟩ := hX
  obtain ⟨cn', hM⟩ := hA.2.1
  refine X_toldName (F := F) (lo := 0) (hi := 2) (by decide) hR hM.1 hM.2.1 (fun i hi' hk e => ?_) (fun s a b hk m => ?_) (fun s g' j' hs a b R' c11 c9 f' => h1 s g' j' b ⟨R', pc2.1 _ _ _ _ hA f', hS.wf f'.wf⟩ c11 c9 (hE.i hs) (tnm_ok hs).2.2.2) (fun num pl g' j' hn a b f' => h0 g' j' (hE.b hn g' j' a b (LnF.of (hS.wf f') hH)))
  · rw [hR.2.2.2.2.2.1 hk] at e
    rcases hM.2.2.1 i hi' with ⟨c1, s, c2, c3, c4, c5⟩ | ⟨c1, c2⟩
    · have m := (mtc_w hN hR.2.1 hk (by omega) c3).mp (c4.symm.trans e)
      exact Or.inl ⟨c1, s, Nat.zero_le _, by omega, m, c5, fun s' y1 y2 y3 => mtc_u hN (by omega) (by omega) y3 m⟩
    · exact Or.inr ⟨c1, fun s y1 y2 y3 => c2 s (by omega) y3.1 (e.trans ((mtc_w hN hR.2.1 hk (by omega) y3.1).mpr y3).symm)⟩
  · obtain ⟨i, y1, y2, y3, y4⟩ := hM.2.2.2 s (by omega) m.1
    exact ⟨i, y1, by rw [hR.2.2.2.2.2.1 hk, y3]; exact (mtc_w hN hR.2.1 hk (by omega) m.1).mpr m⟩
theorem X_crateLine {K : Int32 → Rr → Gi → Gl → Prop} (hp : q = 2 ∨ q = 30) (hq : r 58 2 = some q) (hk1 : tK n τ e ≠ 4) (hT : XT n τ e q F g j) (hI : FI 1 F) (hE : XE n τ q (crateL n τ (tZ n τ e) F) g j (fun y g' j' => K y r g' j')) : Cm (d + 7) 43 [.ref 58] r g j (rkI K) := by
  have hE : XE n τ q (bz (nwN n τ (tZ n τ e) F) fun _ => bz (kdL n τ (tZ n τ (tZ n τ e))) fun kd => bz (onL n τ (tZ n τ (tZ n τ (tZ n τ e)))) fun e3 => bz (tnm n τ e3 (putN n τ (tZ n τ e) F (3 + F 5)) 0 2) fun sh => crateR n τ (tZ n τ e) F kd sh e3) g j (fun y g' j' => K y r g' j') := hE
  obtain ⟨hR, h3, hx, ν, hM⟩ := hT
  obtain ⟨_, i1, _, hB, hN, hU, hL⟩ := hI
  have rb := hB.1
  have x7 : g q 7 = nI (F 5) := hx.1.2.2.2.2.2.1
  refine vX5_crateLine_0 (X_next hR hk1 fun g1 j1 R1 _ f1 => ⟨q, hq, OB_i (SH_p hp) ?_⟩)
  rw [f1.1 q 7 (by omega), x7]
  have X1 : XB n τ (tZ n τ e) (fun g j => (g 58 3 = nI 1 ∧ g 58 16 = nI 0) ∧ NM (F 4 + F 5 + F 6) ν F g j) g j g1 j1 := ⟨R1, pcN.1 _ _ _ _ ⟨h3, hM⟩ f1.ws, Sm.rf.wf f1.wf⟩
  refine Xn (d := d) X1 hN HQ.rf hE (fun hn g2 j2 R2 L2 t2 S2 E2 => ⟨fun y => absurd y n10, fun _ => ?_⟩) (fun g' j' h => ⟨fun _ => ⟨bo0, h⟩, fun y => absurd n00 y⟩)
  have hk := (nwN_y hn).1
  have N1 := hN.put R1.2.1 (s0 := 3 + F 5) (by omega) hn
  have X2 : XB n τ (tZ n τ (tZ n τ e)) (P2 (F 4 + F 5 + F 6 + 1) (upN ν (F 4 + F 5 + F 6) (3 + F 5)) (putN n τ (tZ n τ e) F (3 + F 5)) (F 5 < 15)) g j g2 j2 := by
    refine ⟨R2, ⟨t2, (X1.2.1.2.ns hN).put hN R1.2.1 hn (by omega) (by omega) L2, fun h15 => ?_⟩, S2⟩
    have hz : F (141 + (3 + F 5)) = 0 := by have := hU (3 + F 5) (by omega); omega
    exact X1.2.1.2.put (s0 := 3 + F 5) hN R1.2.1 hk (by omega) hz (by unfold srt ixs; rw [if_neg (by omega), if_pos (by omega), if_neg (by omega), if_pos (by omega), Nat.add_sub_cancel_left]; exact L2) (by omega)
  refine X_kindOfCrate (d := d + 1) X2.1 (fun kd hkd hw hk2 => ⟨fun _ => ?_, fun y => absurd ((nI_leI (a := 0) (b := kd) (by omega) (by omega)).mpr (Nat.zero_le _)) (by rw [n00]; exact y)⟩) (fun hw => ⟨fun y => absurd y (by decide +kernel), fun _ => X_wrong X2.1 fun g4 a b f => ⟨bo0, E2.b hw _ _ a b (LnF.of (X2.2.2.wf f) HQ.rf)⟩⟩)
  have E3 := E2.i hw
  refine X_next X2.1 (by rw [hk2]; decide) fun g3 j3 R3 _ f3 => ?_
  have bad0 : ¬ isW n τ (tZ n τ (tZ n τ (tZ n τ e))) 18 → onL n τ (tZ n τ (tZ n τ (tZ n τ e))) = .inl (1, tA n τ (tZ n τ (tZ n τ (tZ n τ e)))) := fun w => by unfold onL; rw [if_neg w]
  refine X_word (d := d + 1) (by decide) R3 (fun w g4 j4 R4 f4 => ⟨fun y => absurd y n10, fun _ => ?_⟩) (fun w g4 j4 a b f4 => ⟨fun _ => ⟨bo0, E3.b (bad0 w) _ _ a b (LnF.of ((X2.2.2.wf f3.wf).wf f4) HQ.rf)⟩, fun y => absurd n00 y⟩)
  have hw2 : onL n τ (tZ n τ (tZ n τ (tZ n τ e))) = .inr (tZ n τ (tZ n τ (tZ n τ (tZ n τ e)))) := by unfold onL; rw [if_pos w]
  have E4 := E3.i hw2
  have X4 : XB n τ (tZ n τ (tZ n τ (tZ n τ (tZ n τ e)))) (P2 (F 4 + F 5 + F 6 + 1) (upN ν (F 4 + F 5 + F 6) (3 + F 5)) (putN n τ (tZ n τ e) F (3 + F 5)) (F 5 < 15)) g j g4 j4 := ⟨R4, pc2.1 _ _ _ _ (pc2.1 _ _ _ _ X2.2.1 f3.ws) f4, (X2.2.2.wf f3.wf).wf f4.wf⟩
  generalize he3 : tZ n τ (tZ n τ (tZ n τ (tZ n τ e))) = e3 at *
  refine Xt1 (d := d) X4 N1 HQ.rf E4 (fun sh g5 j5 hs X5 t5 p5 E5 ms => ⟨fun y => absurd y n10, fun _ => ⟨q, hq, ship_f hp t5 (by omega) ?_⟩⟩) (fun g' j' h => ⟨fun _ => ⟨bo0, h⟩, fun y => absurd n00 y⟩)
  have pu : ∀ k, k < 141 → putN n τ (tZ n τ e) F (3 + F 5) k = F k := fun k hk => putN_o (by omega) (by omega)
  have hz1 := tK1 R1.2.1 hk
  have hsF : sh < F 4 := by
    have a := ms.1
    rw [putN_o (by omega) (by omega)] at a
    have := (hU sh (by omega)).mp a; omega
  have x4 : g (q + 10 + sh) 4 = nI (cntS F sh (F 5)) := (hx.2.1 sh hsF).2.2.2.2
  have c5 := hB.2.2.2.2.1 sh
  unfold crateR at E5
  have bad : 5 ≤ cntS F sh (F 5) → G (d + 7) 43 92 [(0, .ref 58)] [] r g5 j5 (rkI K) := by
    intro c
    rw [if_pos c] at E5
    exact vX5_crateLine_92 (X_wrongBehind p5 fun g4 a b f => ⟨bo0, E5.2 _ _ _ _ rfl a b (LnF.of (X5.2.2.wf f) HQ.rf)⟩)
  rw [X5.2.2.1 _ _ (by omega), x4, nI_leI (by omega) (by omega)]
  refine ⟨fun y => bad y, fun y => ⟨q, hq, OB_i (SH_p hp) ?_⟩⟩
  have h15 : F 5 < 15 := by
    rcases Nat.lt_or_ge (F 5) 15 with z | z
    · exact z
    · have := cnt15 hB (by omega) (show sh < 3 by omega); omega
  have y7 : g5 q 7 = nI (F 5) := by rw [X5.2.2.1 _ _ (by omega)]; exact x7
  rw [if_neg y] at E5
  rw [y7, nI_ltI (by omega) (by omega)]
  refine ⟨fun _ => ⟨q, hq, OB_i (SH_p hp) (RF_i (Or.inl (RS_p6 hp)) ⟨q, hq, OB_i (SH_p hp) (AY_i (SH_p2 hp) (IX_e y7 h15 (RF_i (Or.inl (RS_cr hp h15)) (OB_i (SH_cr hp h15) (OB_i (SH_cr hp h15) (OB_i (SH_cr hp h15) ?_))))))⟩)⟩, fun z => absurd h15 z⟩
  have q1 : q + 13 + F 5 ≠ 1 := by omega
  have q2 : q + 13 + F 5 < 58 := by omega
  have q3 : q ≤ q + 13 + F 5 ∧ q + 13 + F 5 < q + 28 := by omega
  rw [t5]
  refine Xa (d := d + 1) (by decide) (by decide) (by decide) pc2 (((X5.u (a0 := q + 13 + F 5) (k0 := 0) (v := nI kd) pc2 q1 q2).u (a0 := q + 13 + F 5) (k0 := 1) (v := nI sh) pc2 q1 q2).u (a0 := q + 13 + F 5) (k0 := 5) (v := nI 0) pc2 q1 q2) (((HQ.rf.u q3).u q3).u q3) E5 (fun v0 e4 g6 j6 b0 X6 t6 _ E6 => ⟨fun y => absurd y n10, fun _ => OB_i (SH_cr hp h15) ?_⟩) (fun g' j' h => ⟨fun _ => ⟨bo0, h⟩, fun y => absurd n00 y⟩)
  rw [t6]
  refine Xa (d := d + 1) (by decide) (by decide) (by decide) pc2 (X6.u (a0 := q + 13 + F 5) (k0 := 2) (v := nI v0) pc2 q1 q2) ((((HQ.rf.u q3).u q3).u q3).u q3) E6 (fun v1 e5 g7 j7 b1 X7 t7 p7 E7 => ⟨fun y => absurd y n10, fun _ => ⟨q, hq, OB_i (SH_p hp) ?_⟩⟩) (fun g' j' h => ⟨fun _ => ⟨bo0, h⟩, fun y => absurd n00 y⟩)
  rw [t7]
  refine X_hasNumber (F := F) (m := F 5) hp (by omega) (by omega) ?_ (fun c hc => ⟨?_, (hB.2.2.1 c hc).2.2.2.1⟩) (fun hy => ⟨fun y => absurd y n10, fun _ => ?_⟩) (fun hy => ⟨fun _ => OB_i (SH_cr hp h15) ?_, fun y => absurd n00 y⟩)
  · rw [X7.2.2.1 q 7 (by omega), uI_o (by omega), uI_o (by omega), uI_o (by omega), uI_o (by omega)]; exact x7
  · rw [X7.2.2.1 _ _ (by omega), uI_o (by omega), uI_o (by omega), uI_o (by omega), uI_o (by omega)]; exact (hx.2.2.1 c hc).2.2.1
  · have E7 : XE n τ q (@ite _ (∃ c, c < F 5 ∧ F (23 + 5 * c) = v1) (Classical.propDecidable _) (.inl (3, tA n τ (tZ n τ e4))) _) g j (fun y g' j' => K y r g' j') := E7
    rw [if_pos hy] at E7
    exact X_wrongBehind p7 fun g4 a b f => ⟨bo0, E7.2 _ _ _ _ rfl a b (LnF.of (X7.2.2.wf f) ((((HQ.rf.u q3).u q3).u q3).u q3))⟩
  · have E7 : XE n τ q (@ite _ (∃ c, c < F 5 ∧ F (23 + 5 * c) = v1) (Classical.propDecidable _) (.inl (3, tA n τ (tZ n τ e4))) (bz (waw n τ e5 21 1 30) fun p2 =>
      .inr (p2.2, upN (upN (upN (upN (upN (upN (putN n τ (tZ n τ e) F (3 + F 5)) (21 + 5 * F 5) kd) (22 + 5 * F 5) sh) (23 + 5 * F 5) v1) (24 + 5 * F 5) p2.1) (25 + 5 * F 5) v0) 5 (F 5 + 1)))) g j (fun y g' j' => K y r g' j') := E7
    rw [if_neg hy] at E7
    rw [t7]
    refine Xa (d := d + 1) (by decide) (by decide) (by decide) pc2 (X7.u (a0 := q + 13 + F 5) (k0 := 3) (v := nI v1) pc2 q1 q2) (((((HQ.rf.u q3).u q3).u q3).u q3).u q3) E7 (fun v2 e6 g8 j8 b2 X8 t8 _ E8 => ⟨fun y => absurd y n10, fun _ => OB_i (SH_cr hp h15) ⟨q, hq, ship_f hp rfl (by omega) (OB_i (SH_sh hp (by omega)) ⟨q, hq, OB_i (SH_p hp) (OB_i (SH_p hp) ⟨bo1, ?_⟩)⟩)⟩⟩) (fun g' j' h => ⟨fun _ => ⟨bo0, h⟩, fun y => absurd n00 y⟩)
    rw [t8]
    have n4 : (uI g8 (q + 13 + F 5) 4 (nI v2)) (q + 10 + sh) 4 + nI 1 = nI (cntS F sh (F 5) + 1) := by
      rw [uI_o (by omega), X8.2.2.1 _ _ (by omega), uI_o (by omega), uI_o (by omega), uI_o (by omega), uI_o (by omega), uI_o (by omega), x4, nI_add]
    rw [n4]
    have n7 : (uI (uI g8 (q + 13 + F 5) 4 (nI v2)) (q + 10 + sh) 4 (nI (cntS F sh (F 5) + 1))) q 7 + nI 1 = nI (F 5 + 1) := by
      rw [uI_o (by omega), uI_o (by omega), X8.2.2.1 _ _ (by omega), uI_o (by omega), uI_o (by omega), uI_o (by omega), uI_o (by omega), uI_o (by omega), x7, nI_add]
    rw [n7]
    have X9 := ((X8.u (a0 := q + 13 + F 5) (k0 := 4) (v := nI v2) pc2 q1 q2).u (a0 := q + 10 + sh) (k0 := 4) (v := nI (cntS F sh (F 5) + 1)) pc2 (by omega) (by omega)).u (a0 := q) (k0 := 7) (v := nI (F 5 + 1)) pc2 (by omega) (by omega)
    have up : ∀ k, k < 141 → k ≠ 5 → ¬ (21 + 5 * F 5 ≤ k ∧ k ≤ 25 + 5 * F 5) → upN (upN (upN (upN (upN (upN (putN n τ (tZ n τ e) F (3 + F 5)) (21 + 5 * F 5) kd) (22 + 5 * F 5) sh) (23 + 5 * F 5) v1) (24 + 5 * F 5) v2) (25 + 5 * F 5) v0) 5 (F 5 + 1) k = F k := fun k y1 y2 y3 => by
      unfold upN
      rw [if_neg y2, if_neg (by omega), if_neg (by omega), if_neg (by omega), if_neg (by omega), if_neg (by omega), pu k y1]
    refine E8.1 _ _ _ _ rfl ⟨X9.1, X9.2.1.1, Px.eq ?_ (crate_px (sh := sh) (H := uI (uI (uI (uI (uI (uI (uI (uI g (q + 13 + F 5) 0 (nI kd)) (q + 13 + F 5) 1 (nI sh)) (q + 13 + F 5) 5 (nI 0)) (q + 13 + F 5) 2 (nI v0)) (q + 13 + F 5) 3 (nI v1)) (q + 13 + F 5) 4 (nI v2)) (q + 10 + sh) 4 (nI (cntS F sh (F 5) + 1))) q 7 (nI (F 5 + 1))) hB hx h15 (by omega) up rfl ?_ (fun a k y1 y2 y3 => ?_) uI_s ?_ ?_ ?_ ?_ ?_ ?_ ?_) (fun a k z1 z2 => X9.2.2.1 a k (by omega)), upN ν (F 4 + F 5 + F 6) (3 + F 5), ?_⟩ (LnF.of X9.2.2 ((((((((HQ.rf.u q3).u q3).u q3).u q3).u q3).u q3).u ⟨by omega, by omega⟩).u ⟨Nat.le_refl _, by omega⟩))
    · refine ⟨?_, ?_⟩
      · show upN _ _ _ 4 ≤ 3
        rw [up 4 (by decide) (by decide) (by omega)]; omega
      · show F 5 + 1 ≤ 15; omega
    · unfold upN
      rw [if_neg (by omega), if_neg (by omega), if_neg (by omega), if_neg (by omega), if_pos rfl]
    · rw [uI_d (by omega), uI_d (by omega), uI_d (by omega), uI_d (by omega), uI_d (by omega), uI_d (by omega), uI_d (by omega), uI_d (by omega)]
    · rw [uI_o (by omega), uI_s]
    · rw [uI_o (by omega), uI_o (by omega), uI_n (by decide), uI_n (by decide), uI_n (by decide), uI_n (by decide), uI_n (by decide), uI_s]
      unfold upN
      rw [if_neg (by omega), if_neg (by omega), if_neg (by omega), if_neg (by omega), if_neg (by omega), if_pos rfl]
    · rw [uI_o (by omega), uI_o (by omega), uI_n (by decide), uI_n (by decide), uI_n (by decide), uI_n (by decide), uI_s]
      unfold upN
      rw [if_neg (by omega), if_neg (by omega), if_neg (by omega), if_neg (by omega), if_pos rfl]
    · rw [uI_o (by omega), uI_o (by omega), uI_n (by decide), uI_s]
      unfold upN
      rw [if_neg (by omega), if_neg (by omega), if_neg (by omega), if_pos rfl]
    · rw [uI_o (by omega), uI_o (by omega), uI_s]
      unfold upN
      rw [if_neg (by omega), if_neg (by omega), if_pos rfl]
    · rw [uI_o (by omega), uI_o (by omega), uI_n (by decide), uI_n (by decide), uI_s]
      unfold upN
      rw [if_neg (by omega), if_pos rfl]
    · rw [uI_o (by omega), uI_o (by omega), uI_n (by decide), uI_n (by decide), uI_n (by decide), uI_s]
    · have := (X9.2.1.2.2 h15).eq (F' := upN (upN (upN (upN (upN (upN (putN n τ (tZ n τ e) F (3 + F 5)) (21 + 5 * F 5) kd) (22 + 5 * F 5) sh) (23 + 5 * F 5) v1) (24 + 5 * F 5) v2) (25 + 5 * F 5) v0) 5 (F 5 + 1)) (fun k hk => by
        unfold upN
        rw [if_neg (by omega), if_neg (by omega), if_neg (by omega), if_neg (by omega), if_neg (by omega), if_neg (by omega)])
      refine Eq.mp ?_ this
      congr 1
      rw [up 4 (by decide) (by decide) (by omega), up 6 (by decide) (by decide) (by omega)]
      show _ = F 4 + (F 5 + 1) + F 6
      omega
end
