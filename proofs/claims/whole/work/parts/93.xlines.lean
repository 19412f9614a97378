/-! THE TEXT: the class's lines -/
def Sm (H : Gi) (j0 : Gl) (g : Gi) (j : Gl) : Prop := (∀ a k, ¬ (58 ≤ a ∧ a ≤ 61) → g a k = H a k) ∧ ∀ a k, ¬ (58 ≤ a ∧ a ≤ 61) → j a k = j0 a k
def HQ (q : Nat) (H g0 : Gi) : Prop := ∀ a k, ¬ (q ≤ a ∧ a < q + 28) → H a k = g0 a k
def LnF (q : Nat) (g g' : Gi) (j j' : Gl) : Prop := (∀ a k, ¬ ((58 ≤ a ∧ a ≤ 61) ∨ (q ≤ a ∧ a < q + 28)) → g' a k = g a k) ∧ ∀ a k, ¬ (58 ≤ a ∧ a ≤ 61) → j' a k = j a k
def XT (n : Nat) (τ : Nat → Nat) (e q : Nat) (F : Nat → Nat) (g : Gi) (j : Gl) : Prop := RdX n τ e g j ∧ (g 58 3 = nI 1 ∧ g 58 16 = nI 0) ∧ Px q F g ∧ ∃ ν, NM (F 4 + F 5 + F 6) ν F g j
def XE (n : Nat) (τ : Nat → Nat) (q : Nat) (L : LR) (g0 : Gi) (j0 : Gl) (Q : Int32 → Gi → Gl → Prop) : Prop := (∀ e' F' g' j', L = .inr (e', F') → XT n τ e' q F' g' j' → LnF q g0 g' j0 j' → Q (nI 1) g' j') ∧ ∀ num pl g' j', L = .inl (num, pl) → g' 58 16 = nI num → g' 58 17 = nI pl → LnF q g0 g' j0 j' → Q (nI 0) g' j'
def PcW (P : Gi → Gl → Prop) : Prop := (∀ g g' j j', P g j → WS g g' j j' → P g' j') ∧ ∀ g j a k v, a < 58 → P g j → P (uI g a k v) j
def XB (n : Nat) (τ : Nat → Nat) (e : Nat) (P : Gi → Gl → Prop) (H : Gi) (j0 : Gl) (g : Gi) (j : Gl) : Prop := RdX n τ e g j ∧ P g j ∧ Sm H j0 g j
section
variable {d n e k lo hi q a0 k0 cn s0 : Nat} {τ F F' ν : Nat → Nat} {r : Rr} {g g' g0 H : Gi} {j j' j0 : Gl} {P : Gi → Gl → Prop} {Q : Int32 → Gi → Gl → Prop} {v : Int32}
theorem Sm.rf : Sm g j g j := ⟨fun _ _ _ => rfl, fun _ _ _ => rfl⟩
theorem Sm.wf (h : Sm H j0 g j) (f : WF g g' j j') : Sm H j0 g' j' := ⟨fun a k z => (f.1 a k (by omega)).trans (h.1 a k z), fun a k z => (f.2 a k (by omega)).trans (h.2 a k z)⟩
theorem Sm.nf (h : Sm H j0 g j) (f : NF g g' j j') : Sm H j0 g' j' := ⟨fun a k z => (f.1 a k (by omega)).trans (h.1 a k z), fun a k z => (f.2 a k (by omega)).trans (h.2 a k z)⟩
theorem uI_cong {a k : Nat} (h : g a0 k0 = H a0 k0) : uI g a k v a0 k0 = uI H a k v a0 k0 := by
  by_cases c : a0 = a ∧ k0 = k
  · obtain ⟨rfl, rfl⟩ := c; rw [uI_s, uI_s]
  · rw [uI_d c, uI_d c]; exact h
theorem Sm.u (h : Sm H j0 g j) : Sm (uI H a0 k0 v) j0 (uI g a0 k0 v) j := ⟨fun a k z => uI_cong (h.1 a k z), h.2⟩
theorem HQ.rf : HQ q g g := fun _ _ _ => rfl
theorem HQ.u (h : HQ q H g0) (ha : q ≤ a0 ∧ a0 < q + 28) : HQ q (uI H a0 k0 v) g0 := fun a k z => by rw [uI_o (by omega)]; exact h a k z
theorem LnF.of (h : Sm H j0 g j) (hH : HQ q H g0) : LnF q g0 g j0 j := ⟨fun a k z => (h.1 a k (by omega)).trans (hH a k (by omega)), h.2⟩
theorem RdX.u (h : RdX n τ e g j) (h1 : a0 ≠ 1) (h2 : a0 < 58) : RdX n τ e (uI g a0 k0 v) j := by
  obtain ⟨⟨b1, b2, b3⟩, b4, b5, b6, b7, b8, b9⟩ := h
  exact ⟨⟨b1, fun i hi => by rw [uI_o (by omega)]; exact b2 i hi, by rw [uI_o (by omega)]; exact b3⟩, b4, by rw [uI_o (by omega)]; exact b5, by rw [uI_o (by omega)]; exact b6, fun z => by rw [uI_o (by omega)]; exact b7 z, b8, fun z => by rw [uI_o (by omega)]; exact b9 z⟩
theorem RdX.u3 (h : RdX n τ e g j) : RdX n τ e (uI g 58 3 v) j := by
  obtain ⟨⟨b1, b2, b3⟩, b4, b5, b6, b7, b8, b9⟩ := h
  exact ⟨⟨b1, fun i hi => by rw [uI_o (by omega)]; exact b2 i hi, by rw [uI_n (by omega)]; exact b3⟩, b4, by rw [uI_n (by omega)]; exact b5, by rw [uI_n (by omega)]; exact b6, fun z => by rw [uI_n (by omega)]; exact b7 z, b8, fun z => by rw [uI_n (by omega)]; exact b9 z⟩
theorem XB.u (hP : PcW P) (h : XB n τ e P H j0 g j) (h1 : a0 ≠ 1) (h2 : a0 < 58) : XB n τ e P (uI H a0 k0 v) j0 (uI g a0 k0 v) j := ⟨h.1.u h1 h2, hP.2 _ _ _ _ _ h2 h.2.1, h.2.2.u⟩
theorem NM.u (h : NM cn ν F g j) (h2 : a0 < 58 ∨ (a0 = 58 ∧ k0 = 3)) : NM cn ν F (uI g a0 k0 v) j := ⟨by rw [uI_d (by omega)]; exact h.1, h.2.1, fun i hi => by rw [uI_o (by omega), uI_o (by omega)]; exact h.2.2.1 i hi, h.2.2.2⟩
theorem NS.u (h : NS cn F g j) (h2 : a0 < 58) : NS cn F (uI g a0 k0 v) j := ⟨by rw [uI_d (by omega)]; exact h.1, h.2.1, fun i hi => by rw [uI_o (by omega), uI_o (by omega)]; exact h.2.2.1 i hi, fun s a b => by
  obtain ⟨i, z⟩ := h.2.2.2 s a b
  refine ⟨i, ?_⟩
  rw [uI_o (by omega), uI_o (by omega)]
  exact z⟩
theorem NM.eq (h : NM cn ν F g j) (e1 : ∀ k, 141 ≤ k → F' k = F k) : NM cn ν F' g j := by
  have w : ∀ s, wdS F' s = wdS F s := fun s => by
    unfold wdS
    rw [e1 _ (by omega)]
    congr 1
    funext i
    exact e1 _ (by omega)
  exact ⟨h.1, h.2.1, fun i hi => by rw [e1 _ (by omega), w]; exact h.2.2.1 i hi, fun s a b => h.2.2.2 s a (by rw [e1 _ (by omega)] at b; exact b)⟩
theorem XE.i {α : Type} {x : Rz α} {f : α → LR} {a : α} (h : XE n τ q (bz x f) g0 j0 Q) (e : x = .inr a) : XE n τ q (f a) g0 j0 Q := by rw [e] at h; exact h
theorem XE.b {α : Type} {x : Rz α} {f : α → LR} {num pl : Nat} (h : XE n τ q (bz x f) g0 j0 Q) (e : x = .inl (num, pl)) : ∀ g' j', g' 58 16 = nI num → g' 58 17 = nI pl → LnF q g0 g' j0 j' → Q (nI 0) g' j' := by rw [e] at h; exact fun g' j' a b c => h.2 num pl g' j' rfl a b c
theorem pcN : PcW (fun g j => (g 58 3 = nI 1 ∧ g 58 16 = nI 0) ∧ NM cn ν F g j) := ⟨fun g g' j j' h f => ⟨⟨by rw [f.1 58 3 (by omega)]; exact h.1.1, by rw [f.1 58 16 (by omega)]; exact h.1.2⟩, h.2.wf f.wf⟩, fun g j a k v z h => ⟨by rw [uI_o (by omega)]; exact h.1, h.2.u (Or.inl z)⟩⟩
theorem Xa {K : Int32 → Rr → Gi → Gl → Prop} {f : Nat × Nat → LR} (hk : k < 25) (hlo : lo < 2000) (hhi : hi < 2000) (hP : PcW P) (hX : XB n τ e P H j0 g j) (hH : HQ q H g0) (hE : XE n τ q (bz (waw n τ e k lo hi) f) g0 j0 Q)
    (h1 : ∀ v e' g' j', v ≤ hi → XB n τ e' P H j0 g' j' → g' 58 10 = nI v → g' 58 9 = nI (tA n τ (tZ n τ e)) → XE n τ q (f (v, e')) g0 j0 Q → K (nI 1) r g' j') (h0 : ∀ g' j', Q (nI 0) g' j' → K (nI 0) r g' j') : Cm (d + 5) 35 [.ref 58, .float (UInt32.ofNat k), .int (nI lo), .int (nI hi)] r g j (rkI K) :=
  X_waw hk hlo hhi hX.1 (fun v e' g' j' hw R' a10 a9 f' => h1 v e' g' j' (waw_ok hX.1.2.1 hw).2.1 ⟨R', hP.1 _ _ _ _ hX.2.1 f', hX.2.2.wf f'.wf⟩ a10 a9 (hE.i hw)) (fun num pl g' j' hw a b f' => h0 g' j' ((hE.b hw) g' j' a b (LnF.of (hX.2.2.wf f') hH)))
theorem X_portLine {K : Int32 → Rr → Gi → Gl → Prop} (hp : q = 2 ∨ q = 30) (hq : r 58 2 = some q) (hR : RdX n τ e g j) (hk1 : tK n τ e ≠ 4) (h16 : g 58 16 = nI 0) (h0 : ∀ k, F k = 0) (c5 : g q 5 = nI 0) (c7 : g q 7 = nI 0) (c9 : g q 9 = nI 0) (c11 : g q 11 = nI 0) (cr : ∀ a b, a < 5 → b < 5 → g (q + 5 + a) b = nI 0) (hN : NM 0 ν F g j) (hE : XE n τ q (portL n τ (tZ n τ e) F) g j (fun y g' j' => K y r g' j')) : Cm (d + 6) 41 [.ref 58] r g j (rkI K) := by
  unfold portL at hE
  have q1 : q ≠ 1 := by omega
  have q2 : q < 58 := by omega
  refine vX5_portLine_0 ⟨bo1, X_next hR.u3 hk1 fun g1 j1 R1 a9 f1 => ?_⟩
  have X1 : XB n τ (tZ n τ e) (fun g j => (g 58 3 = nI 1 ∧ g 58 16 = nI 0) ∧ NM 0 ν F g j) g j g1 j1 := ⟨R1, ⟨⟨by rw [f1.1 58 3 (by omega), uI_s], by rw [f1.1 58 16 (by omega), uI_n (by decide)]; exact h16⟩, (hN.u (v := nI 1) (Or.inr ⟨rfl, rfl⟩)).wf f1.wf⟩, ⟨fun a k z => by rw [f1.1 a k (by omega), uI_o (by omega)], fun a k z => f1.2 a k (by omega)⟩⟩
  refine Xa (by decide) (by decide) (by decide) pcN X1 HQ.rf hE (fun v0 e1 g2 j2 b0 X2 t2 _ E2 => ⟨fun y => absurd y n10, fun _ => ⟨q, hq, OB_i (SH_p hp) ?_⟩⟩) (fun g' j' h => ⟨fun _ => ⟨bo0, h⟩, fun y => absurd n00 y⟩)
  rw [t2]
  refine Xa (by decide) (by decide) (by decide) pcN (X2.u pcN q1 q2) (HQ.rf.u ⟨Nat.le_refl _, by omega⟩) E2 (fun v1 e2 g3 j3 b1 X3 t3 _ E3 => ⟨fun y => absurd y n10, fun _ => ⟨q, hq, OB_i (SH_p hp) ?_⟩⟩) (fun g' j' h => ⟨fun _ => ⟨bo0, h⟩, fun y => absurd n00 y⟩)
  rw [t3]
  refine Xa (by decide) (by decide) (by decide) pcN (X3.u pcN q1 q2) ((HQ.rf.u ⟨Nat.le_refl _, by omega⟩).u ⟨Nat.le_refl _, by omega⟩) E3 (fun v2 e3 g4 j4 b2 X4 t4 _ E4 => ⟨fun y => absurd y n10, fun _ => ⟨q, hq, OB_i (SH_p hp) ?_⟩⟩) (fun g' j' h => ⟨fun _ => ⟨bo0, h⟩, fun y => absurd n00 y⟩)
  rw [t4]
  refine Xa (by decide) (by decide) (by decide) pcN (X4.u pcN q1 q2) (((HQ.rf.u ⟨Nat.le_refl _, by omega⟩).u ⟨Nat.le_refl _, by omega⟩).u ⟨Nat.le_refl _, by omega⟩) E4 (fun v3 e4 g5 j5 b3 X5 t5 _ E5 => ⟨fun y => absurd y n10, fun _ => ⟨q, hq, OB_i (SH_p hp) ⟨bo1, ?_⟩⟩⟩) (fun g' j' h => ⟨fun _ => ⟨bo0, h⟩, fun y => absurd n00 y⟩)
  rw [t5]
  have X6 := X5.u (a0 := q) (k0 := 3) (v := nI v3) pcN q1 q2
  have up : ∀ k, k ≠ 0 → k ≠ 1 → k ≠ 2 → k ≠ 3 → k ≠ 8 → upN (upN (upN (upN (upN F 0 v0) 1 v1) 2 v2) 3 v3) 8 1 k = 0 := fun k y0 y1 y2 y3 y8 => by
    unfold upN
    rw [if_neg y8, if_neg y3, if_neg y2, if_neg y1, if_neg y0]
    exact h0 k
  refine E5.1 _ _ _ _ rfl ⟨X6.1, X6.2.1.1, Px.eq ?_ (port_px (H := uI (uI (uI (uI g q 0 (nI v0)) q 1 (nI v1)) q 2 (nI v2)) q 3 (nI v3)) (fun k y1 y2 y3 => up k (by omega) (by omega) (by omega) (by omega) y3) ?_ ?_ ?_ ?_ ?_ ?_ ?_ ?_ (fun a b ha hb => ?_)) (fun a k z1 z2 => X6.2.2.1 a k (by omega)), ν, ?_⟩ (LnF.of X6.2.2 ((((HQ.rf.u ⟨Nat.le_refl _, by omega⟩).u ⟨Nat.le_refl _, by omega⟩).u ⟨Nat.le_refl _, by omega⟩).u ⟨Nat.le_refl _, by omega⟩))
  · show upN (upN (upN (upN (upN F 0 v0) 1 v1) 2 v2) 3 v3) 8 1 4 ≤ 3 ∧ upN (upN (upN (upN (upN F 0 v0) 1 v1) 2 v2) 3 v3) 8 1 5 ≤ 15
    rw [up 4 (by decide) (by decide) (by decide) (by decide) (by decide), up 5 (by decide) (by decide) (by decide) (by decide) (by decide)]; decide
  · rw [uI_n (by decide), uI_n (by decide), uI_n (by decide), uI_s]; rfl
  · rw [uI_n (by decide), uI_n (by decide), uI_s]; rfl
  · rw [uI_n (by decide), uI_s]; rfl
  · rw [uI_s]; rfl
  · rw [uI_n (by decide), uI_n (by decide), uI_n (by decide), uI_n (by decide)]; exact c5
  · rw [uI_n (by decide), uI_n (by decide), uI_n (by decide), uI_n (by decide)]; exact c7
  · rw [uI_n (by decide), uI_n (by decide), uI_n (by decide), uI_n (by decide)]; exact c9
  · rw [uI_n (by decide), uI_n (by decide), uI_n (by decide), uI_n (by decide)]; exact c11
  · rw [uI_o (by omega), uI_o (by omega), uI_o (by omega), uI_o (by omega)]; exact cr a b ha hb
  · show NM (upN (upN (upN (upN (upN F 0 v0) 1 v1) 2 v2) 3 v3) 8 1 4 + upN (upN (upN (upN (upN F 0 v0) 1 v1) 2 v2) 3 v3) 8 1 5 + upN (upN (upN (upN (upN F 0 v0) 1 v1) 2 v2) 3 v3) 8 1 6) ν _ _ _
    rw [up 4 (by decide) (by decide) (by decide) (by decide) (by decide), up 5 (by decide) (by decide) (by decide) (by decide) (by decide), up 6 (by decide) (by decide) (by decide) (by decide) (by decide)]
    exact X6.2.1.2.eq (fun k hk => by rw [h0 k]; exact up k (by omega) (by omega) (by omega) (by omega) (by omega))
end
