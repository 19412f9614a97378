/-! THE TEXT: the class's ships, towns, roads, openings -/
section
variable {d n e k lo hi q a0 k0 cn s0 so ix : Nat} {τ F F' ν : Nat → Nat} {r : Rr} {g g' g0 H : Gi} {j j' j0 : Gl} {P : Gi → Gl → Prop} {Q : Int32 → Gi → Gl → Prop}
theorem Xn {K : Int32 → Rr → Gi → Gl → Prop} {f : Unit → LR} (hX : XB n τ e (fun g j => (g 58 3 = nI 1 ∧ g 58 16 = nI 0) ∧ NM cn ν F g j) H j0 g j) (hN : FNm F) (hH : HQ q H g0) (hE : XE n τ q (bz (nwN n τ e F) f) g0 j0 Q)
    (h1 : nwN n τ e F = .inr () → ∀ g' j', RdX n τ (tZ n τ e) g' j' → NL cn so ix (tW n τ e) g g' j j' → (g' 58 3 = nI 1 ∧ g' 58 16 = nI 0) → Sm H j0 g' j' → XE n τ q (f ()) g0 j0 Q → K (nI 1) r g' j') (h0 : ∀ g' j', Q (nI 0) g' j' → K (nI 0) r g' j') : Cm (d + 6) 38 [.ref 58, .int (nI so), .int (nI ix)] r g j (rkI K) := by
  obtain ⟨hR, ⟨h3, hM⟩, hS⟩ := hX
  refine X_newName (F := F) hR hM.1 hM.2.1 (fun i hi hk e => ⟨ν i, (hM.2.2.1 i hi).1, (hM.hl hN hR i hi hk).mp e⟩) (fun s hs hk m => ?_) (fun hn g' j' R' L' f' => h1 hn g' j' R' L' ⟨by rw [f'.1 58 3 (by omega)]; exact h3.1, by rw [f'.1 58 16 (by omega)]; exact h3.2⟩ (hS.nf f') (hE.i hn)) (fun num pl g' j' hn a b f' => h0 g' j' (hE.b hn g' j' a b (LnF.of (hS.wf f') hH)))
  obtain ⟨i, a, b⟩ := hM.2.2.2 s hs m.1
  exact ⟨i, a, (hM.hl hN hR i a hk).mpr (by rw [b]; exact m)⟩
theorem Xt {K : Int32 → Rr → Gi → Gl → Prop} {f : Nat → LR} (hX : XB n τ e (fun g j => (g 58 3 = nI 1 ∧ g 58 16 = nI 0) ∧ NM cn ν F g j) H j0 g j) (hN : FNm F) (hso : so < 10) (hh : hi < 23) (hss : ∀ s, s < 23 → (srt s = so ↔ lo ≤ s ∧ s ≤ hi) ∧ (lo ≤ s → s ≤ hi → ixs s = s - lo)) (hH : HQ q H g0) (hE : XE n τ q (bz (tnm n τ e F lo hi) f) g0 j0 Q)
    (h1 : ∀ s g' j', lo ≤ s → s ≤ hi → XB n τ (tZ n τ e) (fun g j => (g 58 3 = nI 1 ∧ g 58 16 = nI 0) ∧ NM cn ν F g j) H j0 g' j' → g' 58 11 = nI (s - lo) → g' 58 9 = nI (tA n τ e) → XE n τ q (f s) g0 j0 Q → mtc n τ e F s → K (nI 1) r g' j') (h0 : ∀ g' j', Q (nI 0) g' j' → K (nI 0) r g' j') : Cm (d + 6) 39 [.ref 58, .int (nI so)] r g j (rkI K) := by
  have hP := pcN (cn := cn) (ν := ν) (F := F)
  obtain ⟨hR, hA, hS⟩ := hX
  obtain ⟨h3, hM⟩ := hA
  refine X_toldName (F := F) (lo := lo) (hi := hi) hso hR hM.1 hM.2.1 (fun i hi' hk e => ?_) (fun s a b hk m => ?_) (fun s g' j' hs a b R' c11 c9 f' => h1 s g' j' a b ⟨R', hP.1 _ _ _ _ ⟨h3, hM⟩ f', hS.wf f'.wf⟩ c11 c9 (hE.i hs) (tnm_ok hs).2.2.2) (fun num pl g' j' hn a b f' => h0 g' j' (hE.b hn g' j' a b (LnF.of (hS.wf f') hH)))
  · have m := (hM.hl hN hR i hi' hk).mp e
    obtain ⟨c1, c2, c3, c4, c5⟩ := hM.2.2.1 i hi'
    have sb : srt (ν i) < 10 := by unfold srt; split; decide; split <;> decide
    rw [c4, nI_eq (by omega) (by omega)]
    by_cases z : lo ≤ ν i ∧ ν i ≤ hi
    · exact Or.inl ⟨(hss _ c1).1.mpr z, ν i, z.1, z.2, m, by rw [c5, (hss _ c1).2 z.1 z.2], fun s' y1 y2 y3 => mtc_u hN (by omega) c1 y3 m⟩
    · exact Or.inr ⟨fun y => z ((hss _ c1).1.mp y), fun s y1 y2 y3 => z (by have := mtc_u hN (by omega) c1 y3 m; rw [← this]; exact ⟨y1, y2⟩)⟩
  · obtain ⟨i, y1, y2⟩ := hM.2.2.2 s (by omega) m.1
    exact ⟨i, y1, (hM.hl hN hR i y1 hk).mpr (by rw [y2]; exact m)⟩
theorem ss3 : ∀ s, s < 23 → (srt s = 3 ↔ 18 ≤ s ∧ s ≤ 22) ∧ (18 ≤ s → s ≤ 22 → ixs s = s - 18) := by decide
theorem ss2 : ∀ s, s < 23 → (srt s = 2 ↔ 3 ≤ s ∧ s ≤ 17) ∧ (3 ≤ s → s ≤ 17 → ixs s = s - 3) := by decide
theorem X_shipLine {K : Int32 → Rr → Gi → Gl → Prop} (hp : q = 2 ∨ q = 30) (hq : r 58 2 = some q) (hk1 : tK n τ e ≠ 4) (hT : XT n τ e q F g j) (hI : FI 1 F) (hE : XE n τ q (if F 4 < 3 then shipL n τ (tZ n τ e) F else .inl (5, tA n τ e)) g j (fun y g' j' => K y r g' j')) : Cm (d + 7) 42 [.ref 58] r g j (rkI K) := by
  obtain ⟨hR, h3, hx, ν, hM⟩ := hT
  obtain ⟨_, i1, _, hB, hN, hU, hL⟩ := hI
  have rb := hB.1
  have x5 : g q 5 = nI (F 4) := hx.1.2.2.2.2.1
  refine vX5_shipLine_0 ⟨q, hq, OB_i (SH_p hp) ?_⟩
  rw [x5, nI_ltI (by omega) (by omega)]
  refine ⟨fun c4 => ⟨q, hq, OB_i (SH_p hp) (RF_i (Or.inl (RS_p4 hp)) ⟨q, hq, OB_i (SH_p hp) (AY_i (SH_p1 hp) (IX_e x5 c4 (RF_i (Or.inl (RS_sh hp c4)) ?_)))⟩)⟩, fun c4 => ?_⟩
  · rw [if_pos c4] at hE
    unfold shipL at hE
    refine X_next hR hk1 fun g1 j1 R1 _ f1 => ⟨q, hq, OB_i (SH_p hp) ?_⟩
    rw [f1.1 q 5 (by omega), x5]
    have X1 : XB n τ (tZ n τ e) (fun g j => (g 58 3 = nI 1 ∧ g 58 16 = nI 0) ∧ NM (F 4 + F 5 + F 6) ν F g j) g j g1 j1 := ⟨R1, pcN.1 _ _ _ _ ⟨h3, hM⟩ f1.ws, Sm.rf.wf f1.wf⟩
    refine Xn (d := d) X1 hN HQ.rf hE (fun hn g2 j2 R2 L2 t2 S2 E2 => ⟨fun y => absurd y n10, fun _ => ?_⟩) (fun g' j' h => ⟨fun _ => ⟨bo0, h⟩, fun y => absurd n00 y⟩)
    have hz : F (141 + F 4) = 0 := by have := hU (F 4) (by omega); omega
    have N2 := X1.2.1.2.put (s0 := F 4) hN R1.2.1 (nwN_y hn).1 (by omega) hz (by unfold srt ixs; rw [if_pos c4, if_pos c4]; exact L2) (by omega)
    have X2 : XB n τ (tZ n τ (tZ n τ e)) (fun g j => (g 58 3 = nI 1 ∧ g 58 16 = nI 0) ∧ NM (F 4 + F 5 + F 6 + 1) (upN ν (F 4 + F 5 + F 6) (F 4)) (putN n τ (tZ n τ e) F (F 4)) g j) g j g2 j2 := ⟨R2, ⟨t2, N2⟩, S2⟩
    have q1 : q + 10 + F 4 ≠ 1 := by omega
    have q2 : q + 10 + F 4 < 58 := by omega
    have q3 : q ≤ q + 10 + F 4 ∧ q + 10 + F 4 < q + 28 := by omega
    refine Xa (d := d + 1) (by decide) (by decide) (by decide) pcN X2 HQ.rf E2 (fun v0 e1 g3 j3 b0 X3 t3 _ E3 => ⟨fun y => absurd y n10, fun _ => OB_i (SH_sh hp c4) ?_⟩) (fun g' j' h => ⟨fun _ => ⟨bo0, h⟩, fun y => absurd n00 y⟩)
    rw [t3]
    refine Xa (d := d + 1) (by decide) (by decide) (by decide) pcN (X3.u pcN q1 q2) (HQ.rf.u q3) E3 (fun v1 e2 g4 j4 b1 X4 t4 _ E4 => ⟨fun y => absurd y n10, fun _ => OB_i (SH_sh hp c4) ?_⟩) (fun g' j' h => ⟨fun _ => ⟨bo0, h⟩, fun y => absurd n00 y⟩)
    rw [t4]
    refine Xa (d := d + 1) (by decide) (by decide) (by decide) pcN (X4.u pcN q1 q2) ((HQ.rf.u q3).u q3) E4 (fun v2 e3 g5 j5 b2 X5 t5 _ E5 => ⟨fun y => absurd y n10, fun _ => OB_i (SH_sh hp c4) ?_⟩) (fun g' j' h => ⟨fun _ => ⟨bo0, h⟩, fun y => absurd n00 y⟩)
    rw [t5]
    refine Xa (d := d + 1) (by decide) (by decide) (by decide) pcN (X5.u pcN q1 q2) (((HQ.rf.u q3).u q3).u q3) E5 (fun v3 e4 g6 j6 b3 X6 t6 _ E6 => ⟨fun y => absurd y n10, fun _ => OB_i (SH_sh hp c4) (OB_i (SH_sh hp c4) ⟨q, hq, OB_i (SH_p hp) (OB_i (SH_p hp) ⟨bo1, ?_⟩)⟩)⟩) (fun g' j' h => ⟨fun _ => ⟨bo0, h⟩, fun y => absurd n00 y⟩)
    rw [t6]
    have n5 : (uI (uI g6 (q + 10 + F 4) 3 (nI v3)) (q + 10 + F 4) 4 (nI 0)) q 5 + nI 1 = nI (F 4 + 1) := by
      rw [uI_o (by omega), uI_o (by omega), X6.2.2.1 q 5 (by omega), uI_o (by omega), uI_o (by omega), uI_o (by omega), x5, nI_add]
    rw [n5]
    have X7 := ((X6.u (a0 := q + 10 + F 4) (k0 := 3) (v := nI v3) pcN q1 q2).u (a0 := q + 10 + F 4) (k0 := 4) (v := nI 0) pcN q1 q2).u (a0 := q) (k0 := 5) (v := nI (F 4 + 1)) pcN (by omega) (by omega)
    have pu : ∀ k, k < 141 → putN n τ (tZ n τ e) F (F 4) k = F k := fun k hk => putN_o (by omega) (by omega)
    refine E6.1 _ _ _ _ rfl ⟨X7.1, X7.2.1.1, Px.eq ?_ (ship_px (H := uI (uI (uI (uI (uI (uI g (q + 10 + F 4) 0 (nI v0)) (q + 10 + F 4) 1 (nI v1)) (q + 10 + F 4) 2 (nI v2)) (q + 10 + F 4) 3 (nI v3)) (q + 10 + F 4) 4 (nI 0)) q 5 (nI (F 4 + 1))) hB hx c4 (fun k y1 y2 y3 => ?_) rfl (fun a k y1 y2 => ?_) uI_s ?_ ?_ ?_ ?_ ?_) (fun a k z1 z2 => X7.2.2.1 a k (by omega)), upN ν (F 4 + F 5 + F 6) (F 4), ?_⟩ (LnF.of X7.2.2 ((((((HQ.rf.u q3).u q3).u q3).u q3).u q3).u ⟨Nat.le_refl _, by omega⟩))
    · refine ⟨?_, ?_⟩
      · show F 4 + 1 ≤ 3; omega
      · unfold upN
        rw [if_neg (by decide), if_neg (by omega), if_neg (by omega), if_neg (by omega), if_neg (by omega), pu 5 (by decide)]; omega
    · unfold upN
      rw [if_neg y2, if_neg (by omega), if_neg (by omega), if_neg (by omega), if_neg (by omega), pu k y1]
    · rw [uI_d (by omega), uI_d (by omega), uI_d (by omega), uI_d (by omega), uI_d (by omega), uI_d (by omega)]
    · rw [uI_o (by omega), uI_n (by decide), uI_n (by decide), uI_n (by decide), uI_n (by decide), uI_s]
      unfold upN
      rw [if_neg (by omega), if_neg (by omega), if_neg (by omega), if_neg (by omega), if_pos rfl]
    · rw [uI_o (by omega), uI_n (by decide), uI_n (by decide), uI_n (by decide), uI_s]
      unfold upN
      rw [if_neg (by omega), if_neg (by omega), if_neg (by omega), if_pos rfl]
    · rw [uI_o (by omega), uI_n (by decide), uI_n (by decide), uI_s]
      unfold upN
      rw [if_neg (by omega), if_neg (by omega), if_pos rfl]
    · rw [uI_o (by omega), uI_n (by decide), uI_s]
      unfold upN
      rw [if_neg (by omega), if_pos rfl]
    · rw [uI_o (by omega), uI_s]
    · have := X7.2.1.2.eq (F' := upN (upN (upN (upN (upN (putN n τ (tZ n τ e) F (F 4)) (9 + 4 * F 4) v0) (10 + 4 * F 4) v1) (11 + 4 * F 4) v2) (12 + 4 * F 4) v3) 4 (F 4 + 1)) (fun k hk => by
        unfold upN
        rw [if_neg (by omega), if_neg (by omega), if_neg (by omega), if_neg (by omega), if_neg (by omega)])
      refine Eq.mp ?_ this
      congr 1
      unfold upN
      rw [if_pos rfl, if_neg (by decide), if_neg (by omega), if_neg (by omega), if_neg (by omega), if_neg (by omega), pu 5 (by decide), if_neg (by decide), if_neg (by omega), if_neg (by omega), if_neg (by omega), if_neg (by omega), pu 6 (by decide)]
      omega
  · rw [if_neg c4] at hE
    exact X_wrong hR fun g1 a b f => ⟨bo0, hE.2 _ _ _ _ rfl a b (LnF.of (Sm.rf.wf f) HQ.rf)⟩
theorem X_townLine {K : Int32 → Rr → Gi → Gl → Prop} (hp : q = 2 ∨ q = 30) (hq : r 58 2 = some q) (hk1 : tK n τ e ≠ 4) (hT : XT n τ e q F g j) (hI : FI 1 F) (hE : XE n τ q (if F 6 < 5 then townL n τ (tZ n τ e) F else .inl (5, tA n τ e)) g j (fun y g' j' => K y r g' j')) : Cm (d + 7) 45 [.ref 58] r g j (rkI K) := by
  obtain ⟨hR, h3, hx, ν, hM⟩ := hT
  obtain ⟨_, i1, _, hB, hN, hU, hL⟩ := hI
  have rb := hB.1
  have x9 : g q 9 = nI (F 6) := hx.1.2.2.2.2.2.2.1
  refine vX5_townLine_0 ⟨q, hq, OB_i (SH_p hp) ?_⟩
  rw [x9, nI_ltI (by omega) (by omega)]
  refine ⟨fun c4 => ?_, fun c4 => ?_⟩
  · rw [if_pos c4] at hE
    unfold townL at hE
    refine X_next hR hk1 fun g1 j1 R1 _ f1 => ⟨q, hq, OB_i (SH_p hp) ?_⟩
    rw [f1.1 q 9 (by omega), x9]
    have X1 : XB n τ (tZ n τ e) (fun g j => (g 58 3 = nI 1 ∧ g 58 16 = nI 0) ∧ NM (F 4 + F 5 + F 6) ν F g j) g j g1 j1 := ⟨R1, pcN.1 _ _ _ _ ⟨h3, hM⟩ f1.ws, Sm.rf.wf f1.wf⟩
    refine Xn (d := d) X1 hN HQ.rf hE (fun hn g2 j2 R2 L2 t2 S2 E2 => ⟨fun y => absurd y n10, fun _ => ?_⟩) (fun g' j' h => ⟨fun _ => ⟨bo0, h⟩, fun y => absurd n00 y⟩)
    have hz : F (141 + (18 + F 6)) = 0 := by have := hU (18 + F 6) (by omega); omega
    have N2 := X1.2.1.2.put (s0 := 18 + F 6) hN R1.2.1 (nwN_y hn).1 (by omega) hz (by unfold srt ixs; rw [if_neg (by omega), if_neg (by omega), if_neg (by omega), if_neg (by omega), Nat.add_sub_cancel_left]; exact L2) (by omega)
    have X2 : XB n τ (tZ n τ (tZ n τ e)) (fun g j => (g 58 3 = nI 1 ∧ g 58 16 = nI 0) ∧ NM (F 4 + F 5 + F 6 + 1) (upN ν (F 4 + F 5 + F 6) (18 + F 6)) (putN n τ (tZ n τ e) F (18 + F 6)) g j) g j g2 j2 := ⟨R2, ⟨t2, N2⟩, S2⟩
    refine Xa (d := d + 1) (by decide) (by decide) (by decide) pcN X2 HQ.rf E2 (fun v0 e1 g3 j3 b0 X3 t3 _ E3 => ⟨fun y => absurd y n10, fun _ => ⟨q, hq, OB_i (SH_p hp) (RF_i (Or.inl (RS_p8 hp)) ⟨q, hq, OB_i (SH_p hp) (AR_i (SH_p3 hp) (IX_e (q := F 6) (by rw [X3.2.2.1 q 9 (by omega)]; exact x9) c4 ⟨q, hq, OB_i (SH_p hp) (OB_i (SH_p hp) ⟨bo1, ?_⟩)⟩))⟩)⟩⟩) (fun g' j' h => ⟨fun _ => ⟨bo0, h⟩, fun y => absurd n00 y⟩)
    rw [t3]
    have n9 : (uI g3 (q + 3) (F 6) (nI v0)) q 9 + nI 1 = nI (F 6 + 1) := by
      rw [uI_o (by omega), X3.2.2.1 q 9 (by omega), x9, nI_add]
    rw [n9]
    have X7 := (X3.u (a0 := q + 3) (k0 := F 6) (v := nI v0) pcN (by omega) (by omega)).u (a0 := q) (k0 := 9) (v := nI (F 6 + 1)) pcN (by omega) (by omega)
    have pu : ∀ k, k < 141 → putN n τ (tZ n τ e) F (18 + F 6) k = F k := fun k hk => putN_o (by omega) (by omega)
    have up : ∀ k, k < 141 → k ≠ 6 → k ≠ 96 + F 6 → upN (upN (putN n τ (tZ n τ e) F (18 + F 6)) (96 + F 6) v0) 6 (F 6 + 1) k = F k := fun k y1 y2 y3 => by
      unfold upN; rw [if_neg y2, if_neg y3, pu k y1]
    refine E3.1 _ _ _ _ rfl ⟨X7.1, X7.2.1.1, Px.eq ?_ (rest_px (H := uI (uI g (q + 3) (F 6) (nI v0)) q 9 (nI (F 6 + 1))) hB hx (fun k y1 y2 y3 => up k (by omega) y2 (by omega)) (fun a k y1 y2 y3 => ?_) (fun k y => ?_) uI_s ?_ (fun c hc => ?_) (fun t ht => ?_) (fun a b ha hb => ?_)) (fun a k z1 z2 => X7.2.2.1 a k (by omega)), upN ν (F 4 + F 5 + F 6) (18 + F 6), ?_⟩ (LnF.of X7.2.2 ((HQ.rf.u ⟨by omega, by omega⟩).u ⟨Nat.le_refl _, by omega⟩))
    · show upN _ _ _ 4 ≤ 3 ∧ upN _ _ _ 5 ≤ 15
      rw [up 4 (by decide) (by decide) (by omega), up 5 (by decide) (by decide) (by omega)]; omega
    · rw [uI_d (by omega), uI_d (by omega)]
    · rw [uI_d (by omega), uI_d (by omega)]
    · show _ = nI (upN _ _ _ 7)
      rw [up 7 (by decide) (by decide) (by omega), uI_d (by omega), uI_d (by omega)]
      exact hx.1.2.2.2.2.2.2.2
    · show _ = nI (opx (upN _ _ _ (126 + c)))
      rw [up _ (by omega) (by omega) (by omega), uI_d (by omega), uI_d (by omega)]
      exact (hx.2.2.1 c hc).2.2.2.2.2
    · have ht : t < F 6 + 1 := ht
      show _ = nI (upN _ _ _ (96 + t))
      by_cases z : t = F 6
      · subst z
        rw [uI_d (by omega), uI_s]
        unfold upN
        rw [if_neg (by omega), if_pos rfl]
      · rw [up _ (by omega) (by omega) (by omega), uI_d (by omega), uI_d (by omega)]
        exact hx.2.2.2.1 t (by omega)
    · show _ = nI (upN _ _ _ (101 + 5 * a + b))
      rw [up _ (by omega) (by omega) (by omega), uI_d (by omega), uI_d (by omega)]
      exact hx.2.2.2.2 a b ha hb
    · have := X7.2.1.2.eq (F' := upN (upN (putN n τ (tZ n τ e) F (18 + F 6)) (96 + F 6) v0) 6 (F 6 + 1)) (fun k hk => by
        unfold upN
        rw [if_neg (by omega), if_neg (by omega)])
      refine Eq.mp ?_ this
      congr 1
      rw [up 4 (by decide) (by decide) (by omega), up 5 (by decide) (by decide) (by omega)]
      show _ = F 4 + F 5 + (F 6 + 1)
      omega
  · rw [if_neg c4] at hE
    exact X_wrong hR fun g1 a b f => ⟨bo0, hE.2 _ _ _ _ rfl a b (LnF.of (Sm.rf.wf f) HQ.rf)⟩
end
