/-! THE TEXT: the class's roads, openings, crates -/
section
variable {d n e k lo hi q a0 k0 cn s0 so ix : Nat} {τ F F' ν : Nat → Nat} {r : Rr} {g g' g0 H : Gi} {j j' j0 : Gl} {P : Gi → Gl → Prop} {Q : Int32 → Gi → Gl → Prop}
theorem X_roadLine {K : Int32 → Rr → Gi → Gl → Prop} (hp : q = 2 ∨ q = 30) (hq : r 58 2 = some q) (hk1 : tK n τ e ≠ 4) (hT : XT n τ e q F g j) (hI : FI 1 F) (hE : XE n τ q (if F 7 < 8 then roadL n τ (tZ n τ e) F else .inl (5, tA n τ e)) g j (fun y g' j' => K y r g' j')) : Cm (d + 7) 46 [.ref 58] r g j (rkI K) := by
  obtain ⟨hR, h3, hx, ν, hM⟩ := hT
  obtain ⟨_, i1, _, hB, hN, hU, hL⟩ := hI
  have rb := hB.1
  have x11 : g q 11 = nI (F 7) := hx.1.2.2.2.2.2.2.2
  refine vX5_roadLine_0 ⟨q, hq, OB_i (SH_p hp) ?_⟩
  rw [x11, nI_ltI (by omega) (by omega)]
  refine ⟨fun c4 => ?_, fun c4 => ?_⟩
  · rw [if_pos c4] at hE
    unfold roadL at hE
    refine X_next hR hk1 fun g1 j1 R1 _ f1 => ?_
    have X1 : XB n τ (tZ n τ e) (fun g j => (g 58 3 = nI 1 ∧ g 58 16 = nI 0) ∧ NM (F 4 + F 5 + F 6) ν F g j) g j g1 j1 := ⟨R1, pcN.1 _ _ _ _ ⟨h3, hM⟩ f1.ws, Sm.rf.wf f1.wf⟩
    refine Xt (d := d) X1 hN (by decide) (by decide) ss3 HQ.rf hE (fun s1 g2 j2 l1 u1 X2 t2 _ E2 _ => ⟨fun y => absurd y n10, fun _ => ?_⟩) (fun g' j' h => ⟨fun _ => ⟨bo0, h⟩, fun y => absurd n00 y⟩)
    refine Xt (d := d) X2 hN (by decide) (by decide) ss3 HQ.rf E2 (fun s2 g3 j3 l2 u2 X3 t3 p3 E3 _ => ⟨fun y => absurd y n10, fun _ => ?_⟩) (fun g' j' h => ⟨fun _ => ⟨bo0, h⟩, fun y => absurd n00 y⟩)
    have bad : (s1 = s2 ∨ 0 < F (101 + 5 * (s1 - 18) + (s2 - 18))) → G (d + 7) 46 71 [(0, .ref 58)] [] r g3 j3 (rkI K) := by
      intro c
      rw [if_pos c] at E3
      exact vX5_roadLine_71 (X_wrongBehind p3 fun g4 a b f => ⟨bo0, E3.2 _ _ _ _ rfl a b (LnF.of (X3.2.2.wf f) HQ.rf)⟩)
    rw [t2, t3, nI_eq (by omega) (by omega)]
    refine ⟨fun y => bad (Or.inl (by omega)), fun y => ⟨q, hq, road_i hp rfl rfl (by omega) (by omega) ?_⟩⟩
    have hb := (hB.2.2.2.2.2.2.1 (s1 - 18) (s2 - 18) (by omega) (by omega)).1
    rw [X3.2.2.1 _ _ (by omega), hx.2.2.2.2 (s1 - 18) (s2 - 18) (by omega) (by omega)]
    refine ⟨fun y2 => ?_, fun y2 => bad (Or.inr (Nat.pos_of_ne_zero fun y3 => y2 (by rw [y3, n00]; exact Int32.le_refl _)))⟩
    have c : ¬ (s1 = s2 ∨ 0 < F (101 + 5 * (s1 - 18) + (s2 - 18))) := by
      rintro (c | c)
      · subst c; exact y rfl
      · have := le_n (a := F (101 + 5 * (s1 - 18) + (s2 - 18))) (b := 0) (by omega) (by omega) (by rw [n00]; exact y2); omega
    rw [if_neg c] at E3
    refine Xa (d := d + 1) (by decide) (by decide) (by decide) pcN X3 HQ.rf E3 (fun v0 e1 g4 j4 b0 X4 t4 _ E4 => ⟨fun y => absurd y n10, fun _ => ⟨q, hq, road_i hp rfl rfl (by omega) (by omega) ⟨q, hq, road_i hp rfl rfl (by omega) (by omega) ⟨q, hq, OB_i (SH_p hp) (OB_i (SH_p hp) ⟨bo1, ?_⟩)⟩⟩⟩⟩) (fun g' j' h => ⟨fun _ => ⟨bo0, h⟩, fun y => absurd n00 y⟩)
    have z10 : (uI g4 (q + 5 + (s1 - 18)) (s2 - 18) (g4 58 10)) 58 10 = nI v0 := by rw [uI_o (by omega)]; exact t4
    rw [z10, t4]
    have n11 : (uI (uI g4 (q + 5 + (s1 - 18)) (s2 - 18) (nI v0)) (q + 5 + (s2 - 18)) (s1 - 18) (nI v0)) q 11 + nI 1 = nI (F 7 + 1) := by
      rw [uI_o (by omega), uI_o (by omega), X4.2.2.1 q 11 (by omega), x11, nI_add]
    rw [n11]
    have X7 := ((X4.u (a0 := q + 5 + (s1 - 18)) (k0 := s2 - 18) (v := nI v0) pcN (by omega) (by omega)).u (a0 := q + 5 + (s2 - 18)) (k0 := s1 - 18) (v := nI v0) pcN (by omega) (by omega)).u (a0 := q) (k0 := 11) (v := nI (F 7 + 1)) pcN (by omega) (by omega)
    have up : ∀ k, k ≠ 7 → k ≠ 101 + 5 * (s1 - 18) + (s2 - 18) → k ≠ 101 + 5 * (s2 - 18) + (s1 - 18) → upN (upN (upN F (101 + 5 * (s1 - 18) + (s2 - 18)) v0) (101 + 5 * (s2 - 18) + (s1 - 18)) v0) 7 (F 7 + 1) k = F k := fun k y1 y2 y3 => by
      unfold upN; rw [if_neg y1, if_neg y3, if_neg y2]
    refine E4.1 _ _ _ _ rfl ⟨X7.1, X7.2.1.1, Px.eq ?_ (rest_px (H := uI (uI (uI g (q + 5 + (s1 - 18)) (s2 - 18) (nI v0)) (q + 5 + (s2 - 18)) (s1 - 18) (nI v0)) q 11 (nI (F 7 + 1))) hB hx (fun k y1 y2 y3 => up k y3 (by omega) (by omega)) (fun a k y1 y2 y3 => ?_) (fun k y => ?_) ?_ uI_s (fun c hc => ?_) (fun t ht => ?_) (fun a b ha hb => ?_)) (fun a k z1 z2 => X7.2.2.1 a k (by omega)), ν, ?_⟩ (LnF.of X7.2.2 (((HQ.rf.u ⟨by omega, by omega⟩).u ⟨by omega, by omega⟩).u ⟨Nat.le_refl _, by omega⟩))
    · show upN _ _ _ 4 ≤ 3 ∧ upN _ _ _ 5 ≤ 15
      rw [up 4 (by decide) (by omega) (by omega), up 5 (by decide) (by omega) (by omega)]; omega
    · rw [uI_d (by omega), uI_d (by omega), uI_d (by omega)]
    · rw [uI_d (by omega), uI_d (by omega), uI_d (by omega)]
    · show _ = nI (upN _ _ _ 6)
      rw [up 6 (by decide) (by omega) (by omega), uI_d (by omega), uI_d (by omega), uI_d (by omega)]
      exact hx.1.2.2.2.2.2.2.1
    · show _ = nI (opx (upN _ _ _ (126 + c)))
      rw [up _ (by omega) (by omega) (by omega), uI_d (by omega), uI_d (by omega), uI_d (by omega)]
      exact (hx.2.2.1 c hc).2.2.2.2.2
    · have ht : t < upN (upN (upN F (101 + 5 * (s1 - 18) + (s2 - 18)) v0) (101 + 5 * (s2 - 18) + (s1 - 18)) v0) 7 (F 7 + 1) 6 := ht
      rw [up 6 (by decide) (by omega) (by omega)] at ht
      show _ = nI (upN _ _ _ (96 + t))
      rw [up _ (by omega) (by omega) (by omega), uI_d (by omega), uI_d (by omega), uI_d (by omega)]
      exact hx.2.2.2.1 t ht
    · show _ = nI (upN _ _ _ (101 + 5 * a + b))
      by_cases z1 : a = s2 - 18 ∧ b = s1 - 18
      · obtain ⟨rfl, rfl⟩ := z1
        rw [uI_d (by omega), uI_s]
        unfold upN
        rw [if_neg (by omega), if_pos rfl]
      · by_cases z2 : a = s1 - 18 ∧ b = s2 - 18
        · obtain ⟨rfl, rfl⟩ := z2
          rw [uI_d (by omega), uI_d (by omega), uI_s]
          unfold upN
          rw [if_neg (by omega), if_neg (by omega), if_pos rfl]
        · rw [up _ (by omega) (by omega) (by omega), uI_d (by omega), uI_d (by omega), uI_d (by omega)]
          exact hx.2.2.2.2 a b ha hb
    · have := X7.2.1.2.eq (F' := upN (upN (upN F (101 + 5 * (s1 - 18) + (s2 - 18)) v0) (101 + 5 * (s2 - 18) + (s1 - 18)) v0) 7 (F 7 + 1)) (fun k hk => up k (by omega) (by omega) (by omega))
      refine Eq.mp ?_ this
      congr 1
      rw [up 4 (by decide) (by omega) (by omega), up 5 (by decide) (by omega) (by omega), up 6 (by decide) (by omega) (by omega)]
  · rw [if_neg c4] at hE
    exact X_wrong hR fun g1 a b f => ⟨bo0, hE.2 _ _ _ _ rfl a b (LnF.of (Sm.rf.wf f) HQ.rf)⟩
theorem X_openedLine {K : Int32 → Rr → Gi → Gl → Prop} (hp : q = 2 ∨ q = 30) (hq : r 58 2 = some q) (hk1 : tK n τ e ≠ 4) (hT : XT n τ e q F g j) (hI : FI 1 F) (hE : XE n τ q (openL n τ (tZ n τ e) F) g j (fun y g' j' => K y r g' j')) : Cm (d + 7) 47 [.ref 58] r g j (rkI K) := by
  obtain ⟨hR, h3, hx, ν, hM⟩ := hT
  obtain ⟨_, i1, _, hB, hN, hU, hL⟩ := hI
  have rb := hB.1
  unfold openL at hE
  refine vX5_openedLine_0 (X_next hR hk1 fun g1 j1 R1 _ f1 => ?_)
  have X1 : XB n τ (tZ n τ e) (fun g j => (g 58 3 = nI 1 ∧ g 58 16 = nI 0) ∧ NM (F 4 + F 5 + F 6) ν F g j) g j g1 j1 := ⟨R1, pcN.1 _ _ _ _ ⟨h3, hM⟩ f1.ws, Sm.rf.wf f1.wf⟩
  refine Xt (d := d) X1 hN (by decide) (by decide) ss2 HQ.rf hE (fun s g2 j2 l1 u1 X2 t2 p2 E2 m => ⟨fun y => absurd y n10, fun _ => ⟨q, hq, crate_f hp t2 (by omega) ?_⟩⟩) (fun g' j' h => ⟨fun _ => ⟨bo0, h⟩, fun y => absurd n00 y⟩)
  have hs : s - 3 < F 5 := by have := (hU s (by omega)).mp m.1; omega
  have hb := (hB.2.2.2.2.2.2.2 (s - 3) (by omega)).1
  rw [X2.2.2.1 _ _ (by omega), (hx.2.2.1 (s - 3) hs).2.2.2.2.2]
  have key : ∀ v, v = 1 ∨ v = 2 → ¬ 0 < F (126 + (s - 3)) → tK n τ (tZ n τ (tZ n τ e)) ≠ 4 → XE n τ q (.inr (tZ n τ (tZ n τ (tZ n τ e)), upN F (126 + (s - 3)) v)) g j (fun y g' j' => K y r g' j') → G (d + 7) 47 81 [(0, .ref 58)] [] r (uI g2 (q + 13 + (s - 3)) 5 (nI (opx v))) j2 (rkI K) := by
    intro v hv c hk2 E3
    have X3 := X2.u (a0 := q + 13 + (s - 3)) (k0 := 5) (v := nI (opx v)) pcN (by omega) (by omega)
    refine vX5_openedLine_81 (X_next X3.1 hk2 fun g4 j4 R4 _ f4 => ⟨bo1, ?_⟩)
    have P4 := pcN.1 _ _ _ _ X3.2.1 f4.ws
    have S4 := X3.2.2.wf f4.wf
    have up : ∀ k, k ≠ 126 + (s - 3) → upN F (126 + (s - 3)) v k = F k := fun k y1 => by unfold upN; rw [if_neg y1]
    refine E3.1 _ _ _ _ rfl ⟨R4, P4.1, Px.eq ?_ (rest_px (H := uI g (q + 13 + (s - 3)) 5 (nI (opx v))) hB hx (fun k y1 y2 y3 => up k (by omega)) (fun a k y1 y2 y3 => ?_) (fun k y => ?_) ?_ ?_ (fun c hc => ?_) (fun t ht => ?_) (fun a b ha hb => ?_)) (fun a k z1 z2 => S4.1 a k (by omega)), ν, ?_⟩ (LnF.of S4 (HQ.rf.u ⟨by omega, by omega⟩))
    · rw [up 4 (by omega), up 5 (by omega)]; omega
    · rw [uI_d (by omega)]
    · rw [uI_d (by omega)]
    · rw [up 6 (by omega), uI_d (by omega)]
      exact hx.1.2.2.2.2.2.2.1
    · rw [up 7 (by omega), uI_d (by omega)]
      exact hx.1.2.2.2.2.2.2.2
    · by_cases z : c = s - 3
      · subst z
        rw [uI_s]
        unfold upN
        rw [if_pos rfl]
      · rw [up _ (by omega), uI_d (by omega)]
        exact (hx.2.2.1 c hc).2.2.2.2.2
    · rw [up 6 (by omega)] at ht
      rw [up _ (by omega), uI_d (by omega)]
      exact hx.2.2.2.1 t ht
    · rw [up _ (by omega), uI_d (by omega)]
      exact hx.2.2.2.2 a b ha hb
    · have := P4.2.eq (F' := upN F (126 + (s - 3)) v) (fun k hk => up k (by omega))
      refine Eq.mp ?_ this
      congr 1
      rw [up 4 (by omega), up 5 (by omega), up 6 (by omega)]
  have ob : SH (q + 13 + (s - 3)) = some (.inl 0) := SH_cr hp (by omega)
  refine ⟨fun y => ?_, fun y => ?_⟩
  · have c : ¬ 0 < F (126 + (s - 3)) := by
      intro c
      have : F (126 + (s - 3)) = 1 ∨ F (126 + (s - 3)) = 2 := by omega
      rcases this with z | z <;> rw [z] at y <;> exact absurd y (by decide +kernel)
    rw [if_neg c] at E2
    refine X_is (by decide) X2.1 (fun w => ⟨fun y => absurd y n10, fun _ => OB_i ob ?_⟩) (fun w => ⟨fun _ => ?_, fun y => absurd n00 y⟩)
    · rw [if_pos w] at E2
      exact key 1 (Or.inl rfl) c (by rw [w.1]; decide) E2
    · rw [if_neg w] at E2
      refine X_is (by decide) X2.1 (fun w2 => ⟨fun y => absurd y n10, fun _ => OB_i ob ?_⟩) (fun w2 => ⟨fun _ => ?_, fun y => absurd n00 y⟩)
      · rw [if_pos w2] at E2
        exact key 2 (Or.inr rfl) c (by rw [w2.1]; decide) E2
      · rw [if_neg w2] at E2
        exact X_wrong X2.1 fun g4 a b f => ⟨bo0, E2.2 _ _ _ _ rfl a b (LnF.of (X2.2.2.wf f) HQ.rf)⟩
  · have c : 0 < F (126 + (s - 3)) := Nat.pos_of_ne_zero fun z => y (by rw [z]; exact n00)
    rw [if_pos c] at E2
    exact X_wrongBehind p2 fun g4 a b f => ⟨bo0, E2.2 _ _ _ _ rfl a b (LnF.of (X2.2.2.wf f) HQ.rf)⟩
end
