/-! THE TEXT: the reference's roads, openings, crates; its line -/
noncomputable def crateR (n : Nat) (τ : Nat → Nat) (e : Nat) (F : Nat → Nat) (kd sh e3 : Nat) : LR := if 5 ≤ cntS F sh (F 5) then .inl (5, tA n τ e3) else bz (waw n τ (tZ n τ e3) 19 0 2) fun p0 => bz (waw n τ p0.2 20 1 99) fun p1 => @ite _ (∃ c, c < F 5 ∧ F (23 + 5 * c) = p1.1) (Classical.propDecidable _) (.inl (3, tA n τ (tZ n τ p0.2))) (bz (waw n τ p1.2 21 1 30) fun p2 =>
  .inr (p2.2, upN (upN (upN (upN (upN (upN (putN n τ e F (3 + F 5)) (21 + 5 * F 5) kd) (22 + 5 * F 5) sh) (23 + 5 * F 5) p1.1) (24 + 5 * F 5) p2.1) (25 + 5 * F 5) p0.1) 5 (F 5 + 1)))
section
variable {d n e k lo hi q v num pl : Nat} {τ F F' : Nat → Nat} {r : Rr} {g g' g0 : Gi} {j : Gl} {Q : Gi → Prop}
theorem cnt15 (hI : RB F) (h5 : F 5 = 15) {s : Nat} (hs : s < 3) : 5 ≤ cntS F s (F 5) := by
  obtain ⟨r1, r2, r3, r4, r5, _⟩ := hI
  have a := cntS_all (F := F) (m := F 5) (fun c hc => by have := (r3 c hc).2.1; omega)
  have b0 := r5 0
  have b1 := r5 1
  have b2 := r5 2
  have : s = 0 ∨ s = 1 ∨ s = 2 := by omega
  rcases this with rfl | rfl | rfl <;> omega
theorem M_townHere {K : Int32 → Rr → Gi → Gl → Prop} (hR : RdM n τ e g) (hf : g 263 13 = nI 0) (hW : RW F g) (hN : FNm F) (hL : LB F) (h1 : ∀ s, tnm n τ e F 18 22 = .inr s → 18 ≤ s → s ≤ 22 → K (nI (s - 18)) r g j) (h0 : ∀ num pl g', tnm n τ e F 18 22 = .inl (num, pl) → Fl num pl g' → MZ g g' → K (nI 0) r g' j) : Cm (d + 7) 161 [.ref 263] r g j (rkI K) :=
  vX10_townHere_0 (M_named (by decide) (by decide) hR hf hW hL (fun s s' a b c m m' => mtc_u hN (by omega) (by omega) m' m) h1 h0)
theorem M_roadLine {K : Rr → Gi → Gl → Prop} (hR : RdM n τ e g) (hf : g 263 13 = nI 0) (hW : RW F g) (hN : FNm F) (hL : LB F) (hB : RB F) (h7 : F 7 < 8) (hE : ME n τ (roadL n τ e F) g (fun g' => K r g' j)) : Cm (d + 8) 172 [.ref 263] r g j (rkV K) := by
  unfold roadL at hE
  have bad66 : ∀ (num pl : Nat) (x1 x2 : Int32) gg, FM num pl g gg → (∀ g'', FM num pl g g'' → K r g'' j) → G (d + 8) 172 66 [(0, .ref 263), (1, .int x1), (2, .int x2)] [] r gg j (rkV K) := fun num pl x1 x2 gg z b => vX10_roadLine_66 ⟨fun y => absurd y z.nz, fun _ => b _ z⟩
  have bad24 : ∀ (num pl : Nat) (x1 : Int32) gg, FM num pl g gg → (∀ g'', FM num pl g g'' → K r g'' j) → G (d + 8) 172 24 [(0, .ref 263), (1, .int x1)] [] r gg j (rkV K) := fun num pl x1 gg z b => vX10_roadLine_24 (vX10_townHere_0 (M_named_f (d := d + 5) z.1.1 ⟨fun y => absurd y z.nz, fun _ => bad66 num pl _ _ gg z b⟩))
  refine vX10_roadLine_0 ⟨fun _ => M_townHere hR hf hW hN hL (fun s1 hs1 l1 u1 => ⟨fun _ => M_next hR fun g1 R1 f1 => ?_, fun y => absurd (f13 hf) y⟩) (fun num pl g1 hs a c => ⟨fun y => absurd y (FM.nz (g := g) ⟨a, c.mf⟩), fun _ => bad24 num pl _ g1 ⟨a, c.mf⟩ (hE.b hs)⟩), fun y => absurd (f13 hf) y⟩
  have E1 := hE.i hs1
  have h1 : g1 263 13 = nI 0 := by rw [f1 263 13 (by omega)]; exact hf
  have W1 := hW.ps f1
  refine vX10_roadLine_24 (M_townHere R1 h1 W1 hN hL (fun s2 hs2 l2 u2 => ⟨fun _ => ?_, fun y => absurd (f13 h1) y⟩) (fun num pl g2 hs a c => ⟨fun y => absurd y (FM.nz (g := g) ⟨a, f1.mf.tr c.mf⟩), fun _ => bad66 num pl _ _ g2 ⟨a, f1.mf.tr c.mf⟩ (E1.b hs)⟩))
  have E2 := E1.i hs2
  have bad57 : (s1 = s2 ∨ 0 < F (101 + 5 * (s1 - 18) + (s2 - 18))) → G (d + 8) 172 57 [(0, .ref 263), (1, .int (nI (s1 - 18))), (2, .int (nI (s2 - 18)))] [] r g1 j (rkV K) := by
    intro c
    rw [if_pos c] at E2
    refine vX10_roadLine_57 ?_
    rw [R1.2.2.1]
    refine M_wrong h1 fun g2 a b => ?_
    have z : FM 3 (tA n τ (tZ n τ e)) g g2 := ⟨a, f1.mf.tr (fl_mf (num := 0) (pl := 0) b)⟩
    exact bad66 _ _ _ _ _ z (fun g'' z' => E2.2 _ _ g'' rfl z')
  refine ⟨fun y => bad57 (Or.inl (by rw [nI_eq (by omega) (by omega)] at y; omega)), fun y => IX_e (q := 101 + 5 * (s1 - 18) + (s2 - 18)) (by rw [pk_mul, nI_add, nI_add]) (by omega) ?_⟩
  have hb := (hB.2.2.2.2.2.2.1 (s1 - 18) (s2 - 18) (by omega) (by omega)).1
  rw [W1 _ (by omega)]
  refine ⟨fun y2 => ?_, fun y2 => bad57 (Or.inr ?_)⟩
  · have c : ¬ (s1 = s2 ∨ 0 < F (101 + 5 * (s1 - 18) + (s2 - 18))) := by
      rintro (c | c)
      · subst c; exact y rfl
      · have := le_n (a := F (101 + 5 * (s1 - 18) + (s2 - 18))) (b := 0) (by omega) (by omega) (by rw [n00]; exact y2); omega
    rw [if_neg c] at E2
    refine vX10_roadLine_66 ⟨fun _ => M_next R1 fun g2 R2 f2 => ?_, fun y => absurd (f13 h1) y⟩
    refine Ma (by decide) (by decide) (by decide) R2 (by rw [f2 263 13 (by omega)]; exact h1) (W1.ps f2) (f1.mh.tr f2.mh) E2 (fun v0 e1 g3 R3 h3 W3 M3 E3 => ⟨fun _ => IX_e (q := 101 + 5 * (s1 - 18) + (s2 - 18)) (by rw [pk_mul, nI_add, nI_add]) (by omega) (IX_e (q := 101 + 5 * (s2 - 18) + (s1 - 18)) (by rw [pk_mul, nI_add, nI_add]) (by omega) (IX_l (by decide) (IX_l (by decide) ?_))), fun y => absurd (f13 h3) y⟩) (fun num pl g3 z _ b => ⟨fun y => absurd y z.nz, fun _ => b _ z⟩)
    have e7 : (uI (uI g3 267 (101 + 5 * (s1 - 18) + (s2 - 18)) (nI v0)) 267 (101 + 5 * (s2 - 18) + (s1 - 18)) (nI v0)) 267 7 + nI 1 = nI (F 7 + 1) := by
      rw [W3.u.u 7 (by decide), nI_add]
      congr 2
      unfold upN
      rw [if_neg (by omega), if_neg (by omega)]
    rw [e7]
    exact E3.1 _ _ _ rfl R3.u.u.u W3.u.u.u (f13u (f13u (f13u h3))) M3.u.u.u
  · exact Nat.pos_of_ne_zero fun y3 => y2 (by rw [y3, n00]; exact Int32.le_refl _)
theorem M_openedLine {K : Rr → Gi → Gl → Prop} (hR : RdM n τ e g) (hf : g 263 13 = nI 0) (hW : RW F g) (hN : FNm F) (hL : LB F) (hB : RB F) (hE : ME n τ (openL n τ e F) g (fun g' => K r g' j)) : Cm (d + 8) 173 [.ref 263] r g j (rkV K) := by
  unfold openL at hE
  have bad44 : ∀ (num pl : Nat) (x1 : Int32) gg, FM num pl g gg → (∀ g'', FM num pl g g'' → K r g'' j) → G (d + 8) 173 44 [(0, .ref 263), (1, .int x1)] [] r gg j (rkV K) := fun num pl x1 gg z b => vX10_openedLine_44 ⟨fun y => absurd y z.nz, fun _ => b _ z⟩
  refine vX10_openedLine_0 ⟨fun _ => M_named (d := d + 1) (by decide) (by decide) hR hf hW hL (fun s s' a b c m m' => mtc_u hN (by omega) (by omega) m' m) (fun s hs l u => ⟨fun _ => IX_e (q := 126 + (s - 3)) (by rw [nI_add]) (by omega) ?_, fun y => absurd (f13 hf) y⟩) (fun num pl g1 hs a c => ⟨fun y => absurd y (FM.nz (g := g) ⟨a, c.mf⟩), fun _ => bad44 num pl _ g1 ⟨a, c.mf⟩ (hE.b hs)⟩), fun y => absurd (f13 hf) y⟩
  have E1 := hE.i hs
  have hb := (hB.2.2.2.2.2.2.2 (s - 3) (by omega)).1
  rw [hW _ (by omega)]
  refine ⟨fun y2 => ?_, fun y2 => ?_⟩
  · have c : ¬ 0 < F (126 + (s - 3)) := by
      have := le_n (a := F (126 + (s - 3))) (b := 0) (by omega) (by omega) (by rw [n00]; exact y2); omega
    rw [if_neg c] at E1
    refine vX10_openedLine_44 ⟨fun _ => M_next hR fun g1 R1 f1 => ?_, fun y => absurd (f13 hf) y⟩
    have h1 : g1 263 13 = nI 0 := by rw [f1 263 13 (by omega)]; exact hf
    have W1 := hW.ps f1
    refine M_takesWord (by decide) R1 h1 (fun w g2 R2 f2 => ⟨fun y => absurd y n10, fun _ => vX10_openedLine_70 ⟨fun y => absurd y (by decide +kernel), fun _ => vX10_openedLine_82 ⟨fun _ => IX_e (q := 126 + (s - 3)) (by rw [nI_add]) (by omega) ?_, fun y => absurd (f13 (by rw [f2 263 13 (by omega)]; exact h1)) y⟩⟩⟩) (fun w => ⟨fun _ => vX10_openedLine_70 ⟨fun _ => ?_, fun y => absurd rfl y⟩, fun y => absurd n00 y⟩)
    · rw [if_pos w] at E1
      exact E1.1 _ _ _ rfl R2.u (W1.ps f2).u (f13u (by rw [f2 263 13 (by omega)]; exact h1)) (f1.mh.tr f2.mh).u
    · rw [if_neg w] at E1
      refine M_must (by decide) R1 h1 (fun w2 g2 R2 f2 => vX10_openedLine_82 ⟨fun _ => IX_e (q := 126 + (s - 3)) (by rw [nI_add]) (by omega) ?_, fun y => absurd (f13 (by rw [f2 263 13 (by omega)]; exact h1)) y⟩) (fun w2 g2 a b => ?_)
      · rw [if_pos w2] at E1
        exact E1.1 _ _ _ rfl R2.u (W1.ps f2).u (f13u (by rw [f2 263 13 (by omega)]; exact h1)) (f1.mh.tr f2.mh).u
      · rw [if_neg w2] at E1
        have z : FM 1 (tA n τ (tZ n τ e)) g g2 := ⟨a, f1.mf.tr (fl_mf (num := 0) (pl := 0) b)⟩
        exact vX10_openedLine_82 ⟨fun y => absurd y z.nz, fun _ => E1.2 _ _ _ rfl z⟩
  · have c : 0 < F (126 + (s - 3)) := Nat.pos_of_ne_zero fun y3 => y2 (by rw [y3, n00]; exact Int32.le_refl _)
    rw [if_pos c] at E1
    rw [hR.2.2.1]
    refine M_wrong hf fun g2 a b => ?_
    have z : FM 3 (tA n τ e) g g2 := ⟨a, fl_mf (num := 0) (pl := 0) b⟩
    exact bad44 _ _ _ _ z (fun g'' z' => E1.2 _ _ g'' rfl z')
theorem M_crateLine {K : Rr → Gi → Gl → Prop} (hR : RdM n τ e g) (hf : g 263 13 = nI 0) (hW : RW F g) (hN : FNm F) (hL : LB F) (hB : RB F) (hE : ME n τ (crateL n τ e F) g (fun g' => K r g' j)) : Cm (d + 8) 170 [.ref 263] r g j (rkV K) := by
  have hE : ME n τ (bz (nwN n τ e F) fun _ => bz (kdL n τ (tZ n τ e)) fun kd => bz (onL n τ (tZ n τ (tZ n τ e))) fun e3 => bz (tnm n τ e3 (putN n τ e F (3 + F 5)) 0 2) fun sh => crateR n τ e F kd sh e3) g (fun g' => K r g' j) := hE
  have h15 : F 5 ≤ 15 := hB.1.2.2.2.2.2.1
  have pc : ∀ k, k < 141 → putN n τ e F (3 + F 5) k = F k := fun k hk => putN_o (by omega) (by omega)
  have c99 := hB.2.2.1
  have bad237 : ∀ (num pl : Nat) (x2 x3 x5 x6 : Int32) q i gg, i + q = F 5 → FM num pl g gg → RW (putN n τ e F (3 + F 5)) gg → (∀ g'', FM num pl g g'' → K r g'' j) → G (d + 8) 170 237 [(0, .ref 263), (1, .int (nI (21 + 5 * F 5))), (2, .int x2), (3, .int x3), (5, .int x5), (6, .int x6), (7, .int (nI i))] [] r gg j (rkV K) := by
    intro num pl x2 x3 x5 x6 q
    induction q with
    | zero =>
      intro i gg hi z w b
      refine vX10_crateLine_237 (IX_l (by decide) ⟨fun _ => ⟨fun y => absurd y z.nz, fun _ => b _ z⟩, fun y => absurd ?_ y⟩)
      rw [w 5 (by decide), pc 5 (by decide), nI_leI (by omega) (by omega)]; omega
    | succ q ih =>
      intro i gg hi z w b
      refine vX10_crateLine_237 (IX_l (by decide) ⟨fun y => ?_, fun _ => ⟨fun y => absurd y z.nz, fun _ => vX10_crateLine_283 ?_⟩⟩)
      · rw [w 5 (by decide), pc 5 (by decide), nI_leI (by omega) (by omega)] at y; omega
      · rw [nI_add]; exact ih (i + 1) gg (by omega) z w b
  have bad130 : ∀ (num pl : Nat) (x2 x3 : Int32) q i m gg, i + q = F 5 → FM num pl g gg → RW (putN n τ e F (3 + F 5)) gg → (∀ g'', FM num pl g g'' → K r g'' j) → G (d + 8) 170 130 [(0, .ref 263), (1, .int (nI (21 + 5 * F 5))), (2, .int x2), (3, .int x3), (4, .int (nI m)), (5, .int (nI i))] [] r gg j (rkV K) := by
    intro num pl x2 x3 q
    induction q with
    | zero =>
      intro i m gg hi z w b
      refine vX10_crateLine_130 (IX_l (by decide) ⟨fun _ => ⟨fun y => absurd y z.nz, fun _ => vX10_crateLine_197 ⟨fun y => absurd y z.nz, fun _ => b _ z⟩⟩, fun y => absurd ?_ y⟩)
      rw [w 5 (by decide), pc 5 (by decide), nI_leI (by omega) (by omega)]; omega
    | succ q ih =>
      intro i m gg hi z w b
      refine vX10_crateLine_130 (IX_l (by decide) ⟨fun y => ?_, fun _ => IX_e (q := 22 + 5 * i) (by rw [pk_mul, nI_add, nI_add]; congr 1; omega) (by omega) ⟨fun _ => vX10_crateLine_166 ?_, fun _ => vX10_crateLine_166 ?_⟩⟩)
      · rw [w 5 (by decide), pc 5 (by decide), nI_leI (by omega) (by omega)] at y; omega
      · rw [nI_add, nI_add]; exact ih (i + 1) _ gg (by omega) z w b
      · rw [nI_add, nI_add]; exact ih (i + 1) _ gg (by omega) z w b
  have ok237 : ∀ (kd sh v0 e4 v1 : Nat) gg, F 5 < 15 → v1 ≤ 999 → RdM n τ (tZ n τ e4) gg → gg 263 13 = nI 0 → RW (putN n τ e F (3 + F 5)) gg → MH g gg → ME n τ (@ite _ (∃ c, c < F 5 ∧ F (23 + 5 * c) = v1) (Classical.propDecidable _) (.inl (3, tA n τ (tZ n τ e4))) (bz (waw n τ (tZ n τ (tZ n τ e4)) 21 1 30) fun p2 => .inr (p2.2, upN (upN (upN (upN (upN (upN (putN n τ e F (3 + F 5)) (21 + 5 * F 5) kd) (22 + 5 * F 5) sh) (23 + 5 * F 5) v1) (24 + 5 * F 5) p2.1) (25 + 5 * F 5) v0) 5 (F 5 + 1)))) g (fun g' => K r g' j) →
      ∀ q i, i + q = F 5 → (∀ c, c < i → F (23 + 5 * c) ≠ v1) → G (d + 8) 170 237 [(0, .ref 263), (1, .int (nI (21 + 5 * F 5))), (2, .int (nI kd)), (3, .int (nI sh)), (5, .int (nI v0)), (6, .int (nI v1)), (7, .int (nI i))] [] r gg j (rkV K) := by
    intro kd sh v0 e4 v1 gg h5 hv R3 h3 W3 M3 E3 q
    induction q with
    | zero =>
      intro i hi hno
      have hi : i = F 5 := hi
      subst hi
      rw [if_neg (fun ⟨c, a, b⟩ => hno c a b)] at E3
      refine vX10_crateLine_237 (IX_l (by decide) ⟨fun _ => ⟨fun _ => M_next R3 fun g4 R4 f4 => ?_, fun y => absurd (f13 h3) y⟩, fun y => absurd ?_ y⟩)
      · refine IX_l (by omega) (IX_e (q := 22 + 5 * F 5) (by rw [nI_add]; congr 1; omega) (by omega) (IX_e (q := 23 + 5 * F 5) (by rw [nI_add]; congr 1; omega) (by omega) ?_))
        have j3 : nI (21 + 5 * F 5) + nI 3 = nI (24 + 5 * F 5) := by rw [nI_add]; congr 1; omega
        have j4 : nI (21 + 5 * F 5) + nI 4 = nI (25 + 5 * F 5) := by rw [nI_add]; congr 1; omega
        rw [j3, j4]
        have b3 : 24 + 5 * F 5 < 348 := by omega
        have b4 : 25 + 5 * F 5 < 348 := by omega
        refine Ma (by decide) (by decide) (by decide) R4.u.u.u (f13u (f13u (f13u (by rw [f4 263 13 (by omega)]; exact h3)))) (W3.ps f4).u.u.u (M3.tr f4.mh).u.u.u E3 (fun v2 e6 g5 R5 h5 W5 M5 E5 => IX_l b3 (IX_l b4 ⟨fun _ => IX_l (by decide) (IX_l (by decide) ?_), fun y => absurd (f13 h5) y⟩)) (fun num pl g5 z _ b => IX_l b3 (IX_l b4 ⟨fun y => absurd y z.nz, fun _ => b _ z.u.u⟩))
        have e5 : (uI (uI g5 267 (24 + 5 * F 5) (nI v2)) 267 (25 + 5 * F 5) (nI v0)) 267 5 + nI 1 = nI (F 5 + 1) := by
          rw [W5.u.u 5 (by decide), nI_add]
          congr 2
          unfold upN
          rw [if_neg (by omega), if_neg (by omega), if_neg (by omega), if_neg (by omega), if_neg (by omega)]
          exact pc 5 (by decide)
        rw [e5]
        exact E5.1 _ _ _ rfl R5.u.u.u W5.u.u.u (f13u (f13u (f13u h5))) M5.u.u.u
      · rw [W3 5 (by decide), pc 5 (by decide)]; exact Int32.le_refl _
    | succ q ih =>
      intro i hi hno
      have hn := c99 i (by omega)
      refine vX10_crateLine_237 (IX_l (by decide) ⟨fun y => ?_, fun _ => ⟨fun _ => IX_e (q := 23 + 5 * i) (by rw [pk_mul, nI_add, nI_add]; congr 1; omega) (by omega) ?_, fun y => absurd (f13 h3) y⟩⟩)
      · rw [W3 5 (by decide), pc 5 (by decide), nI_leI (by omega) (by omega)] at y; omega
      · rw [W3 _ (by omega), pc _ (by omega), nI_eq (by omega) (by omega)]
        refine ⟨fun y => ?_, fun y => vX10_crateLine_283 ?_⟩
        · rw [if_pos ⟨i, by omega, y⟩] at E3
          rw [R3.2.2.1]
          refine M_wrong h3 fun g4 a b => vX10_crateLine_283 ?_
          have z : FM 3 (tA n τ (tZ n τ e4)) g g4 := ⟨a, M3.mf.tr (fl_mf (num := 0) (pl := 0) b)⟩
          rw [nI_add]
          exact bad237 _ _ _ _ _ _ q (i + 1) g4 (by omega) z (W3.mz (fl_mz (num := 0) (pl := 0) b)) (fun g'' z' => E3.2 _ _ g'' rfl z')
        · rw [nI_add]
          exact ih (i + 1) (by omega) (fun c hc => by
            by_cases c2 : c = i
            · subst c2; exact y
            · exact hno c (by omega))
  have ok130 : ∀ (kd sh e3 : Nat) gg, kd ≤ 3 → sh < 3 → RdM n τ e3 gg → gg 263 13 = nI 0 → RW (putN n τ e F (3 + F 5)) gg → MH g gg → ME n τ (crateR n τ e F kd sh e3) g (fun g' => K r g' j) → ∀ q i, i + q = F 5 → G (d + 8) 170 130 [(0, .ref 263), (1, .int (nI (21 + 5 * F 5))), (2, .int (nI kd)), (3, .int (nI sh)), (4, .int (nI (cntS F sh i))), (5, .int (nI i))] [] r gg j (rkV K) := by
    intro kd sh e3 gg hkd hsh R2 h2 W2 M2 E2 q
    unfold crateR at E2
    have c5 := hB.2.2.2.2.1 sh
    induction q with
    | zero =>
      intro i hi
      have hi : i = F 5 := hi
      subst hi
      refine vX10_crateLine_130 (IX_l (by decide) ⟨fun _ => ⟨fun _ => ?_, fun y => absurd (f13 h2) y⟩, fun y => absurd ?_ y⟩)
      · rw [nI_eq (by omega) (by omega)]
        refine ⟨fun y => ?_, fun y => ?_⟩
        · rw [if_pos (by omega)] at E2
          rw [R2.2.2.1]
          refine M_wrong h2 fun g3 a b => ?_
          have z : FM 5 (tA n τ e3) g g3 := ⟨a, M2.mf.tr (fl_mf (num := 0) (pl := 0) b)⟩
          exact vX10_crateLine_197 ⟨fun y => absurd y z.nz, fun _ => E2.2 _ _ _ rfl z⟩
        · rw [if_neg (by omega)] at E2
          have h5 : F 5 < 15 := by
            rcases Nat.lt_or_ge (F 5) 15 with z | z
            · exact z
            · have := cnt15 hB (by omega) hsh; omega
          refine vX10_crateLine_197 ⟨fun _ => M_next R2 fun g3 R3 f3 => ?_, fun y => absurd (f13 h2) y⟩
          refine Ma (by decide) (by decide) (by decide) R3 (by rw [f3 263 13 (by omega)]; exact h2) (W2.ps f3) (M2.tr f3.mh) E2 (fun v0 e4 g4 R4 h4 W4 M4 E4 => ?_) (fun num pl g4 z w b => M_must_f (d := d + 6) z.1.1 (M_numberHere_f (d := d + 6) z.1.1 (bad237 _ _ _ _ _ _ (F 5) 0 g4 (by omega) z w b)))
          refine M_must (by decide) R4 h4 (fun w g5 R5 f5 => ?_) (fun w g5 a b => ?_)
          · have h5' : g5 263 13 = nI 0 := by rw [f5 263 13 (by omega)]; exact h4
            refine M_numberHere (d := d + 6) (by decide) (by decide) R5 h5' (fun k2 c => ?_) (fun k2 c g6 a b => ?_) (fun k2 g6 a b => ?_)
            · have hw : waw n τ e4 20 1 99 = .inr (tV n τ (tZ n τ e4), tZ n τ (tZ n τ e4)) := by unfold waw; rw [if_pos w, if_pos k2, if_pos c]
              exact ok237 kd sh v0 e4 _ g5 h5 (by omega) R5 h5' (W4.ps f5) (M4.tr f5.mh) (E4.i hw) (F 5) 0 (by omega) (fun c hc => by omega)
            · have hw : waw n τ e4 20 1 99 = .inl (4, tA n τ (tZ n τ e4)) := by unfold waw; rw [if_pos w, if_pos k2, if_neg c]
              have z : FM 4 (tA n τ (tZ n τ e4)) g g6 := ⟨a, (M4.mf.tr f5.mf).tr (fl_mf (num := 0) (pl := 0) b)⟩
              exact bad237 _ _ _ _ _ _ (F 5) 0 g6 (by omega) z ((W4.ps f5).mz (fl_mz (num := 0) (pl := 0) b)) (E4.b hw)
            · have hw : waw n τ e4 20 1 99 = .inl (1, tA n τ (tZ n τ e4)) := by unfold waw; rw [if_pos w, if_neg k2]
              have z : FM 1 (tA n τ (tZ n τ e4)) g g6 := ⟨a, (M4.mf.tr f5.mf).tr (fl_mf (num := 0) (pl := 0) b)⟩
              exact bad237 _ _ _ _ _ _ (F 5) 0 g6 (by omega) z ((W4.ps f5).mz (fl_mz (num := 0) (pl := 0) b)) (E4.b hw)
          · have hw : waw n τ e4 20 1 99 = .inl (1, tA n τ e4) := by unfold waw; rw [if_neg w]
            have z : FM 1 (tA n τ e4) g g5 := ⟨a, M4.mf.tr (fl_mf (num := 0) (pl := 0) b)⟩
            exact M_numberHere_f (d := d + 6) z.1.1 (bad237 _ _ _ _ _ _ (F 5) 0 g5 (by omega) z (W4.mz (fl_mz (num := 0) (pl := 0) b)) (E4.b hw))
      · rw [W2 5 (by decide), pc 5 (by decide)]; exact Int32.le_refl _
    | succ q ih =>
      intro i hi
      have hn := c99 i (by omega)
      have r4 := hB.1.2.2.2.2.1
      refine vX10_crateLine_130 (IX_l (by decide) ⟨fun y => ?_, fun _ => IX_e (q := 22 + 5 * i) (by rw [pk_mul, nI_add, nI_add]; congr 1; omega) (by omega) ?_⟩)
      · rw [W2 5 (by decide), pc 5 (by decide), nI_leI (by omega) (by omega)] at y; omega
      · rw [W2 _ (by omega), pc _ (by omega), nI_eq (by omega) (by omega)]
        refine ⟨fun y => vX10_crateLine_166 ?_, fun y => vX10_crateLine_166 ?_⟩
        · have := ih (i + 1) (by omega)
          rw [nI_add, nI_add]
          rw [show cntS F sh (i + 1) = cntS F sh i + 1 from by show _ + ite _ _ _ = _; rw [if_pos y]] at this
          exact this
        · have := ih (i + 1) (by omega)
          rw [nI_add, nI_add]
          rw [show cntS F sh (i + 1) = cntS F sh i + 0 from by show _ + ite _ _ _ = _; rw [if_neg y]] at this
          exact this
  refine vX10_crateLine_0 ⟨fun _ => IX_l (by decide) (IX_l (by decide) ?_), fun z => absurd (f13 hf) z⟩
  rw [hW 5 (by decide), nI_add, pk_mul, nI_add]
  have bad99 : ∀ (num pl : Nat) (x2 : Int32) gg, FM num pl g gg → (∀ g'', FM num pl g g'' → K r g'' j) → G (d + 8) 170 99 [(0, .ref 263), (1, .int (nI (21 + 5 * F 5))), (2, .int x2)] [] r gg j (rkV K) := fun num pl x2 gg z b => vX10_crateLine_99 ⟨fun y => absurd y z.nz, fun _ => b _ z⟩
  refine M_newName (d := d + 1) (by omega) hR hf hW hL (fun hn g1 R1 W1 h1 M1 => ?_) (fun num pl g1 hn a c => ?_)
  · have W1 : RW (putN n τ e F (3 + F 5)) g1 := W1
    have E1 := hE.i hn
    have hk1 := (nwN_y hn).1
    have N1 := hN.put hR.2.1 (s0 := 3 + F 5) (by omega) hn
    have L1 := hL.put hR.2.1 (s0 := 3 + F 5) (by omega) hk1
    have ok99 : ∀ kd, kd ≤ 3 → kdL n τ (tZ n τ e) = .inr kd → G (d + 8) 170 85 [(0, .ref 263), (1, .int (nI (21 + 5 * F 5)))] [.int (nI kd)] r g1 j (rkV K) := by
      intro kd hkd hkk
      have E2 := E1.i hkk
      refine vX10_crateLine_85 ⟨fun _ => vX10_crateLine_99 ⟨fun _ => M_next R1 fun g2 R2 f2 => ?_, fun y => absurd (f13 h1) y⟩, fun y => absurd ((nI_leI (a := 0) (b := kd) (by omega) (by omega)).mpr (Nat.zero_le _)) (by rw [n00]; exact y)⟩
      have h2 : g2 263 13 = nI 0 := by rw [f2 263 13 (by omega)]; exact h1
      refine M_must (by decide) R2 h2 (fun w g3 R3 f3 => ?_) (fun w g3 a b => ?_)
      · have hw : onL n τ (tZ n τ (tZ n τ e)) = .inr (tZ n τ (tZ n τ (tZ n τ e))) := by unfold onL; rw [if_pos w]
        have E3 := E2.i hw
        have h3 : g3 263 13 = nI 0 := by rw [f3 263 13 (by omega)]; exact h2
        have W3 := (W1.ps f2).ps f3
        have M3 := (M1.tr f2.mh).tr f3.mh
        refine M_named (d := d + 1) (by decide) (by decide) R3 h3 W3 L1 (fun s s' a b c m m' => mtc_u N1 (by omega) (by omega) m' m) (fun s hs l u => ok130 kd s _ g3 hkd (by omega) R3 h3 W3 M3 (E3.i hs) (F 5) 0 (by omega)) (fun num pl g4 hs a c => bad130 num pl _ _ (F 5) 0 0 g4 (by omega) ⟨a, M3.mf.tr c.mf⟩ (W3.mz c) (E3.b hs))
      · have hw : onL n τ (tZ n τ (tZ n τ e)) = .inl (1, tA n τ (tZ n τ (tZ n τ e))) := by unfold onL; rw [if_neg w]
        have z : FM 1 (tA n τ (tZ n τ (tZ n τ e))) g g3 := ⟨a, (M1.mf.tr f2.mf).tr (fl_mf (num := 0) (pl := 0) b)⟩
        exact M_named_f (d := d + 6) z.1.1 (bad130 _ _ _ _ (F 5) 0 0 g3 (by omega) z ((W1.ps f2).mz (fl_mz (num := 0) (pl := 0) b)) (E2.b hw))
    refine M_isWord (d := d + 3) (by decide) R1 h1 (fun w => ⟨fun y => absurd y n10, fun _ => ok99 0 (by decide) (by unfold kdL; rw [if_pos w])⟩) (fun w0 => ⟨fun _ => ?_, fun y => absurd n00 y⟩)
    refine M_isWord (d := d + 3) (by decide) R1 h1 (fun w => ⟨fun y => absurd y n10, fun _ => ok99 1 (by decide) (by unfold kdL; rw [if_neg w0, if_pos w])⟩) (fun w1 => ⟨fun _ => ?_, fun y => absurd n00 y⟩)
    refine M_isWord (d := d + 3) (by decide) R1 h1 (fun w => ⟨fun y => absurd y n10, fun _ => ok99 2 (by decide) (by unfold kdL; rw [if_neg w0, if_neg w1, if_pos w])⟩) (fun w2 => ⟨fun _ => ?_, fun y => absurd n00 y⟩)
    refine M_isWord (d := d + 3) (by decide) R1 h1 (fun w => ⟨fun y => absurd y n10, fun _ => ok99 3 (by decide) (by unfold kdL; rw [if_neg w0, if_neg w1, if_neg w2, if_pos w])⟩) (fun w3 => ⟨fun _ => ?_, fun y => absurd n00 y⟩)
    have hw : kdL n τ (tZ n τ e) = .inl (1, tA n τ (tZ n τ e)) := by unfold kdL; rw [if_neg w0, if_neg w1, if_neg w2, if_neg w3]
    refine vX10_crateLine_85 ⟨fun y => absurd y (by decide +kernel), fun _ => ?_⟩
    rw [R1.2.2.1]
    refine M_wrong h1 fun g2 a b => ?_
    exact bad99 _ _ _ g2 ⟨a, M1.mf.tr (fl_mf (num := 0) (pl := 0) b)⟩ (E1.b hw)
  · have z : FM num pl g g1 := ⟨a, c.mf⟩
    have fin : G (d + 8) 170 85 [(0, .ref 263), (1, .int (nI (21 + 5 * F 5)))] [.int (-1)] r g1 j (rkV K) := vX10_crateLine_85 ⟨fun y => absurd y (by decide +kernel), fun _ => M_wrong_f z.1.1 (bad99 _ _ _ g1 z (hE.b hn))⟩
    exact M_isWord_f (d := d + 6) z.1.1 ⟨fun _ => M_isWord_f (d := d + 6) z.1.1 ⟨fun _ => M_isWord_f (d := d + 6) z.1.1 ⟨fun _ => M_isWord_f (d := d + 6) z.1.1 ⟨fun _ => fin, fun y => absurd n00 y⟩, fun y => absurd n00 y⟩, fun y => absurd n00 y⟩, fun y => absurd n00 y⟩
end
