/-! THE TEXT: the reference's lines -/
def FM (num pl : Nat) (g g' : Gi) : Prop := Fl num pl g' ∧ MF g g'
def RW (F : Nat → Nat) (g : Gi) : Prop := ∀ k, k < 348 → g 267 k = nI (F k)
def ME (n : Nat) (τ : Nat → Nat) (L : LR) (g : Gi) (Q : Gi → Prop) : Prop := (∀ e' F' g', L = .inr (e', F') → RdM n τ e' g' → RW F' g' → g' 263 13 = nI 0 → MH g g' → Q g') ∧ ∀ num pl g', L = .inl (num, pl) → FM num pl g g' → Q g'
section
variable {d n e k lo hi q v num pl : Nat} {τ F F' : Nat → Nat} {r : Rr} {g g' g0 : Gi} {j : Gl} {Q : Gi → Prop}
theorem FM.u {v : Int32} (h : FM num pl g g') : FM num pl g (uI g' 267 q v) := ⟨⟨by rw [uI_o (by decide)]; exact h.1.1, by rw [uI_o (by decide)]; exact h.1.2.1, by rw [uI_o (by decide)]; exact h.1.2.2⟩, fun a q' z => by rw [uI_o (by omega)]; exact h.2 a q' z⟩
theorem MH.u {v : Int32} (h : MH g g') : MH g (uI g' 267 q v) := fun a q' z => by rw [uI_o (by omega)]; exact h a q' z
theorem RdM.u {v : Int32} (h : RdM n τ e g) : RdM n τ e (uI g 267 q v) := by
  obtain ⟨⟨b1, b2, b3⟩, b4, b5, b6, b7, b8, b9⟩ := h
  have oo : ∀ a q', a ≠ 267 → (uI g 267 q v) a q' = g a q' := fun a q' z => by rw [uI_o z]
  exact ⟨⟨b1, fun i hi => by rw [oo 264 i (by decide)]; exact b2 i hi, by rw [oo 263 3 (by decide)]; exact b3⟩, b4, by rw [oo 263 4 (by decide)]; exact b5, by rw [oo 263 5 (by decide)]; exact b6, by rw [oo 263 6 (by decide)]; exact b7, fun z => ⟨by rw [oo 263 8 (by decide)]; exact (b8 z).1, fun k hk => by rw [oo 265 k (by decide)]; exact (b8 z).2 k hk⟩, fun z => by rw [oo 263 7 (by decide)]; exact b9 z⟩
theorem RW.u (h : RW F g) : RW (upN F q v) (uI g 267 q (nI v)) := fun k hk => by
  unfold upN
  by_cases c : k = q
  · subst c; rw [if_pos rfl, uI_s]
  · rw [if_neg c, uI_n c]; exact h k hk
theorem RW.ps (h : RW F g) (f : PsF g g') : RW F g' := fun k hk => by rw [f 267 k (by omega)]; exact h k hk
theorem RW.mz (h : RW F g) (f : MZ g g') : RW F g' := fun k hk => by rw [f 267 k (by omega)]; exact h k hk
theorem ME.i {α : Type} {x : Rz α} {f : α → LR} {a : α} (h : ME n τ (bz x f) g Q) (e : x = .inr a) : ME n τ (f a) g Q := by rw [e] at h; exact h
theorem ME.b {α : Type} {x : Rz α} {f : α → LR} (h : ME n τ (bz x f) g Q) (e : x = .inl (num, pl)) : ∀ g', FM num pl g g' → Q g' := by rw [e] at h; exact fun g' z => h.2 num pl g' rfl z
theorem f13 (h : g 263 13 = nI 0) : g 263 13 = 0 := by rw [h]; exact n00
theorem f13u {v : Int32} (h : g 263 13 = nI 0) : uI g 267 q v 263 13 = nI 0 := by rw [uI_o (by decide)]; exact h
theorem FM.nz (h : FM num pl g g') : ¬ g' 263 13 = 0 := fun y => absurd (by rw [h.1.1] at y; exact y) n10
theorem Ma_f {w : UInt32} {x y : Int32} {K : Int32 → Rr → Gi → Gl → Prop} (h : FM num pl g0 g) (h' : K x r g j) : Cm (d + 3) 164 [.ref 263, .float w, .int x, .int y] r g j (rkI K) := M_after_f h.1.1 h'
theorem Ma {K : Int32 → Rr → Gi → Gl → Prop} {f : Nat × Nat → LR} (hk : k < 25) (hlo : lo < 2000) (hhi : hi < 2000) (hR : RdM n τ e g) (hf : g 263 13 = nI 0) (hW : RW F g) (hM : MH g0 g) (hE : ME n τ (bz (waw n τ e k lo hi) f) g0 Q)
    (h1 : ∀ v e' g', RdM n τ e' g' → g' 263 13 = nI 0 → RW F g' → MH g0 g' → ME n τ (f (v, e')) g0 Q → K (nI v) r g' j)
    (h0 : ∀ num pl g', FM num pl g0 g' → RW F g' → (∀ g'', FM num pl g0 g'' → Q g'') → K (nI lo) r g' j) : Cm (d + 7) 164 [.ref 263, .float (UInt32.ofNat k), .int (nI lo), .int (nI hi)] r g j (rkI K) :=
  M_after hk hlo hhi hR hf (fun v e' g' hw R' f' => h1 v e' g' R' (by rw [f' 263 13 (by omega)]; exact hf) (hW.ps f') (hM.tr f'.mh) (hE.i hw)) (fun num pl g' hw a b => h0 num pl g' ⟨a, hM.mf.tr b.mf⟩ (hW.mz b) (hE.b hw))
theorem M_portLine {K : Rr → Gi → Gl → Prop} (hR : RdM n τ e g) (hf : g 263 13 = nI 0) (hW : RW F g) (h8 : F 8 = 0) (hE : ME n τ (portL n τ (tZ n τ e) F) g (fun g' => K r g' j)) : Cm (d + 8) 168 [.ref 263] r g j (rkV K) := by
  refine vX10_portLine_0 (IX_l (by decide) ?_)
  rw [hW 8 (by decide), h8]
  refine ⟨fun z => absurd z (by decide +kernel), fun _ => vX10_portLine_20 ⟨fun _ => M_next hR fun g1 R1 f1 => ?_, fun z => absurd (f13 hf) z⟩⟩
  unfold portL at hE
  refine Ma (by decide) (by decide) (by decide) R1 (by rw [f1 263 13 (by omega)]; exact hf) (hW.ps f1) f1.mh hE (fun v0 e1 g2 R2 h2 W2 M2 E2 => IX_l (by decide) ?_) (fun num pl g2 z _ b => IX_l (by decide) (Ma_f z.u (IX_l (by decide) (Ma_f z.u.u (IX_l (by decide) (Ma_f z.u.u.u (IX_l (by decide) ⟨fun y => absurd y z.u.u.u.nz, fun _ => b _ z.u.u.u.u⟩)))))))
  refine Ma (by decide) (by decide) (by decide) R2.u (f13u h2) W2.u M2.u E2 (fun v1 e2 g3 R3 h3 W3 M3 E3 => IX_l (by decide) ?_) (fun num pl g2 z _ b => IX_l (by decide) (Ma_f z.u (IX_l (by decide) (Ma_f z.u.u (IX_l (by decide) ⟨fun y => absurd y z.u.u.nz, fun _ => b _ z.u.u.u⟩)))))
  refine Ma (by decide) (by decide) (by decide) R3.u (f13u h3) W3.u M3.u E3 (fun v2 e3 g4 R4 h4 W4 M4 E4 => IX_l (by decide) ?_) (fun num pl g2 z _ b => IX_l (by decide) (Ma_f z.u (IX_l (by decide) ⟨fun y => absurd y z.u.nz, fun _ => b _ z.u.u⟩)))
  refine Ma (by decide) (by decide) (by decide) R4.u (f13u h4) W4.u M4.u E4 (fun v3 e4 g5 R5 h5 W5 M5 E5 => IX_l (by decide) ⟨fun _ => IX_l (by decide) ?_, fun z => absurd (f13 h5) z⟩) (fun num pl g2 z _ b => IX_l (by decide) ⟨fun y => absurd y z.nz, fun _ => b _ z.u⟩)
  exact E5.1 _ _ _ rfl R5.u.u W5.u.u (f13u (f13u h5)) M5.u.u
theorem M_shipLine {K : Rr → Gi → Gl → Prop} (hR : RdM n τ e g) (hf : g 263 13 = nI 0) (hW : RW F g) (hL : LB F) (h4 : F 4 < 3) (hE : ME n τ (shipL n τ e F) g (fun g' => K r g' j)) : Cm (d + 8) 169 [.ref 263] r g j (rkV K) := by
  refine vX10_shipLine_0 ⟨fun _ => IX_l (by decide) (IX_l (by decide) ?_), fun z => absurd (f13 hf) z⟩
  rw [hW 4 (by decide)]
  unfold shipL at hE
  have i0 : nI 9 + nI 4 * nI (F 4) = nI (9 + 4 * F 4) := by rw [pk_mul, nI_add]
  rw [i0]
  have i1 : nI (9 + 4 * F 4) + nI 1 = nI (10 + 4 * F 4) := by rw [nI_add]; congr 1; omega
  have i2 : nI (9 + 4 * F 4) + nI 2 = nI (11 + 4 * F 4) := by rw [nI_add]; congr 1; omega
  have i3 : nI (9 + 4 * F 4) + nI 3 = nI (12 + 4 * F 4) := by rw [nI_add]; congr 1; omega
  rw [i1, i2, i3]
  have b0 : 9 + 4 * F 4 < 348 := by omega
  have b1 : 10 + 4 * F 4 < 348 := by omega
  have b2 : 11 + 4 * F 4 < 348 := by omega
  have b3 : 12 + 4 * F 4 < 348 := by omega
  refine M_newName (by omega) hR hf hW hL (fun hn g1 R1 W1 h1 M1 => ?_) (fun num pl g2 hn a c => ?_)
  · have E1 := hE.i hn
    refine Ma (by decide) (by decide) (by decide) R1 h1 W1 M1 E1 (fun v0 e1 g2 R2 h2 W2 M2 E2 => IX_l b0 ?_) (fun num pl g2 z _ b => IX_l b0 (Ma_f z.u (IX_l b1 (Ma_f z.u.u (IX_l b2 (Ma_f z.u.u.u (IX_l b3 ⟨fun y => absurd y z.u.u.u.nz, fun _ => b _ z.u.u.u.u⟩)))))))
    refine Ma (by decide) (by decide) (by decide) R2.u (f13u h2) W2.u M2.u E2 (fun v1 e2 g3 R3 h3 W3 M3 E3 => IX_l b1 ?_) (fun num pl g2 z _ b => IX_l b1 (Ma_f z.u (IX_l b2 (Ma_f z.u.u (IX_l b3 ⟨fun y => absurd y z.u.u.nz, fun _ => b _ z.u.u.u⟩)))))
    refine Ma (by decide) (by decide) (by decide) R3.u (f13u h3) W3.u M3.u E3 (fun v2 e3 g4 R4 h4 W4 M4 E4 => IX_l b2 ?_) (fun num pl g2 z _ b => IX_l b2 (Ma_f z.u (IX_l b3 ⟨fun y => absurd y z.u.nz, fun _ => b _ z.u.u⟩)))
    refine Ma (by decide) (by decide) (by decide) R4.u (f13u h4) W4.u M4.u E4 (fun v3 e4 g5 R5 h5 W5 M5 E5 => IX_l b3 ⟨fun _ => IX_l (by decide) (IX_l (by decide) ?_), fun z => absurd (f13 h5) z⟩) (fun num pl g2 z _ b => IX_l b3 ⟨fun y => absurd y z.nz, fun _ => b _ z.u⟩)
    have e4 : (uI g5 267 (12 + 4 * F 4) (nI v3)) 267 4 + nI 1 = nI (F 4 + 1) := by
      rw [W5.u 4 (by decide), nI_add]
      congr 2
      unfold upN
      rw [if_neg (by omega), if_neg (by omega), if_neg (by omega), if_neg (by omega)]
      exact putN_o (by omega) (by omega)
    rw [e4]
    exact E5.1 _ _ _ rfl R5.u.u W5.u.u (f13u (f13u h5)) M5.u.u
  · have z : FM num pl g g2 := ⟨a, c.mf⟩
    exact Ma_f z (IX_l b0 (Ma_f z.u (IX_l b1 (Ma_f z.u.u (IX_l b2 (Ma_f z.u.u.u (IX_l b3 ⟨fun y => absurd y z.u.u.u.nz, fun _ => hE.b hn _ z.u.u.u.u⟩)))))))
theorem M_townLine {K : Rr → Gi → Gl → Prop} (hR : RdM n τ e g) (hf : g 263 13 = nI 0) (hW : RW F g) (hL : LB F) (h6 : F 6 < 5) (hE : ME n τ (townL n τ e F) g (fun g' => K r g' j)) : Cm (d + 8) 171 [.ref 263] r g j (rkV K) := by
  refine vX10_townLine_0 ⟨fun _ => IX_l (by decide) ?_, fun z => absurd (f13 hf) z⟩
  rw [hW 6 (by decide), nI_add]
  unfold townL at hE
  have b0 : 96 + F 6 < 348 := by omega
  have p6 : putN n τ e F (18 + F 6) 6 = F 6 := putN_o (by omega) (by omega)
  refine M_newName (by omega) hR hf hW hL (fun hn g1 R1 W1 h1 M1 => IX_l (by decide) ?_) (fun num pl g2 hn a c => IX_l (by decide) ?_)
  · have E1 := hE.i hn
    rw [W1 6 (by decide), p6, nI_add]
    refine Ma (by decide) (by decide) (by decide) R1 h1 W1 M1 E1 (fun v0 e1 g2 R2 h2 W2 M2 E2 => IX_l b0 ⟨fun _ => IX_l (by decide) (IX_l (by decide) ?_), fun z => absurd (f13 h2) z⟩) (fun num pl g2 z _ b => IX_l b0 ⟨fun y => absurd y z.nz, fun _ => b _ z.u⟩)
    have e4 : (uI g2 267 (96 + F 6) (nI v0)) 267 6 + nI 1 = nI (F 6 + 1) := by
      rw [W2.u 6 (by decide), nI_add]
      congr 2
      unfold upN
      rw [if_neg (by omega)]
      exact p6
    rw [e4]
    exact E2.1 _ _ _ rfl R2.u.u W2.u.u (f13u (f13u h2)) M2.u.u
  · have z : FM num pl g g2 := ⟨a, c.mf⟩
    rw [c 267 6 (by omega), hW 6 (by decide), nI_add]
    exact Ma_f z (IX_l b0 ⟨fun y => absurd y z.nz, fun _ => hE.b hn _ z.u⟩)
end
