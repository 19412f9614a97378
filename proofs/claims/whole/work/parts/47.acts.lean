/-! ACTS: undo, image, back; what is kept before an act; open -/
theorem yA_k {q : Nat} (h : q < 16) : yA (92 + 9 * q) := Or.inr ⟨q, by omega, rfl⟩
theorem yA_i {q : Nat} (h : q < 3) : yA (236 + 9 * q) := Or.inr ⟨16 + q, by omega, by omega⟩
theorem yA_n : yA 62 := Or.inl rfl
theorem RS71 (q : Nat) : RS 71 q = none := rfl
theorem RS72 {q : Nat} (h : q < 3) : RS 72 q = some (236 + 9 * q) := by
  show (bif Nat.blt q 3 then some (236 + 9 * q) else none) = _
  rw [blt_t h]; rfl
section
variable {n p p' b kc ic T kc' ic' T' d : Nat} {R Y σ Y' σ' : Nat → Nat} {KY IY KY' IY' : Nat → Nat → Nat} {τ τ' : Nat → Nat} {r r' : Rr} {g g' : Gi} {j : Gl} {x x1 x2 x3 : Int32} {K : Int32 → Rr → Gi → Gl → Prop}
theorem PS.hb (h : PS n b kc ic T R Y KY IY τ) : R 4 ≤ 3 ∧ R 5 ≤ 15 := ⟨h.2.1.2.2.1.2.2.2.2.1, h.2.1.2.2.1.2.2.2.2.2.1⟩
theorem YO.q15 (h : YO n R Y) : Y 144 ≤ 15 := h.2.2.2.2.1.1
theorem YO.h5 (h : YO n R Y) : ∀ k, k < 9 → Y (120 + k) ≤ 5 := fun k hk => (h.1 k hk).1
/-- M's good() in MS -/
theorem MS.good {K : Rr → Gi → Gl → Prop} (h : MS b kc ic T R Y KY IY τ g) (hK : ∀ g2, MS b kc ic T R Y KY IY τ g2 → (∀ a k, a < 263 → g2 a k = g a k) → g2 263 11 = nI 0 → g2 263 9 = g 263 9 → K r g2 j) : Cm d 141 [.ref 263] r g j (rkV K) :=
  vX10_good_0 (hK _ (h.ag ((Ag.rf.u rfl).u rfl)) (fun a k h => by rw [uI_o (by omega), uI_o (by omega)]) uI_s (by rw [uI_n (by decide), uI_n (by decide)]))
theorem o_undo (hn : n + 1 ≤ 512) (hJ : J n r g) : OPi (d + 3) 115 247 [] n r g j := by
  refine OPi.mk hn hJ fun p p' b kc ic T R Y σ KY IY τ hX hM hP hF hV => ?_
  have hb := hP.hb
  have hk16 := hP.2.2.2.1.1
  have hi3 := hP.2.2.2.2.2.1.1
  rcases Nat.eq_zero_or_pos kc with h0 | h0
  · subst h0
    refine ⟨nI 0, nI 6, 0, ic, T, Y, KY, IY, τ, e6, hP.up hn, ?_, fun r g j hM => ?_⟩
    · refine vX9_undo_0 ⟨fun a => ?_, fun _ => vX9_denied_0 ⟨bo0, bo0, rfl, ⟨σ, hX.t7 hb hk16 hi3⟩, fun a k h => uI_d (by omega), uI_s, uI_n (by decide)⟩⟩
      rw [hX.2.2.2.2.2.2.1.2.2.1] at a
      exact absurd a (by decide +kernel)
    · refine vX10_undo_0 (hM.good fun g2 hM2 hmo h11 h9 => ⟨fun _ => vX10_isNot_0 ⟨bo0, bo0, rfl, rfl, hM2.ag (Ag.rf.u rfl), fun a k h => by rw [uI_o (by omega)]; exact hmo a k h, uI_s, by rw [uI_n (by decide)]; exact h9⟩, fun a => ?_⟩)
      rw [hM2.2.2.2.1.1] at a
      exact absurd n00 a
  · obtain ⟨q, rfl⟩ : ∃ q, kc = q + 1 := ⟨kc - 1, by omega⟩
    have hyo := hP.2.2.2.2.1 q (by omega)
    have hb0 : ¬ b = 0 := fun e => by have := hP.2.2.2.1.2 e; omega
    refine ⟨nI 1, nI 0, q, ic, T, KY q, KY, IY, τ, e0, ?_, ?_, fun r g j hM => ?_⟩
    · obtain ⟨p1, p2, p3, p4, p5, p6, p7, p8, p10, p11⟩ := hP.up hn
      exact ⟨p1, p2, p5 q (by omega), ⟨by omega, fun e => absurd e hb0⟩, fun i hi => p5 i (by omega), p6, p7, p8, hn, fun e => absurd e hb0⟩
    · obtain ⟨k1, k2, k5, k7⟩ := hX.2.2.2.2.2.2.1
      have hs := k1 q (by omega)
      refine vX9_undo_0 ⟨fun a => IX_e (q := q) (by rw [k5, pk_sub (by omega)]; rfl) (by omega) (RF_i (Or.inr ⟨RS71 q, hs.1⟩) (X_become yA_n (yA_k hs.2) (by omega) fun g2 hbec => vX9_granted_0 ⟨bo1, bo1, rfl, ⟨σ, ?_⟩, fun a k h => ?_, uI_s, ?_⟩)), fun a => ?_⟩
      · have e10 : g2 0 10 = nI q := by rw [hbec.1 0 10 (by omega), uI_s, k5, pk_sub (by omega)]; rfl
        have ho : ∀ a k, ¬ (62 ≤ a ∧ a < 71) → ¬ (a = 0 ∧ k = 10) → g2 a k = g a k := fun a k h1 h2 => by rw [hbec.1 a k (by omega), uI_d h2]
        have hy : Yx 62 R (KY q) g2 := hbec.yx hb.2 hyo.q15 hyo.h5 ((k7 q (by omega)).eq fun a k h1 h2 => uI_d (by omega))
        refine XS.t7 (hX.gen (kc' := q) (ic' := ic) (σ' := σ) (KY' := KY) (IY' := IY) hb (fun a k h1 h2 h3 => ho a k h2 (by omega)) (fun _ _ _ => rfl) hy ⟨k1, k2, e10, fun i hi => (k7 i (by omega)).eq fun a k h1 h2 => ho a k (by omega) (by omega)⟩ (hX.2.2.2.2.2.2.2.1.eq hi3 (fun a k h1 h2 => ho a k (by omega) (by omega)) (ho 0 12 (by omega) (by omega)))) hb (by omega) hi3
      · rw [uI_o (by omega), hbec.1 a k (by omega), uI_o (by omega)]
      · rw [uI_n (by decide), hbec.1 0 6 (by omega), uI_n (by decide)]
      · rw [k5] at a
        exact absurd (by rw [← nI_0]; exact nI_lt (by omega) (by omega)) a
    · refine vX10_undo_0 (hM.good fun g2 hM2 hmo h11 h9 => ⟨fun a => ?_, fun _ => ?_⟩)
      · rw [hM2.2.2.2.1.1] at a
        exact absurd ((nI_z (by omega)).mp a) (by omega)
      · obtain ⟨k6, k8⟩ := hM2.2.2.2.1
        rw [k6, pk_sub (by omega), pk_mul, show q + 1 - 1 = q by omega]
        refine M_copy (a := 269) (a2 := 268) (n0 := 3936) (n2 := 246) rfl rfl (by decide) (by omega) (by decide) (by decide) (by decide) fun g3 hc => ⟨bo1, rfl, rfl, ?_, fun a k h => ?_, ?_, ?_⟩
        · have ho : ∀ a k, a ≠ 268 → ¬ (a = 263 ∧ k = 20) → g3 a k = g2 a k := fun a k h1 h2 => by rw [hc.1 a k (by omega), uI_d h2]
          refine hM2.gen (fun a k h => ho a k (by omega) (by omega)) (fun k hk => ?_) ⟨by rw [hc.1 263 20 (by omega), uI_s], fun i hi k hk => by rw [ho 269 _ (by decide) (by omega)]; exact k8 i (by omega) k hk⟩ (hM2.2.2.2.2.1.eq (fun k => ho 270 k (by decide) (by omega)) (ho 263 21 (by decide) (by omega)))
          have := hc.2 k hk
          rw [Nat.zero_add] at this
          rw [this, uI_o (by decide)]
          exact k8 q (by omega) k hk
        · rw [hc.1 a k (by omega), uI_o (by omega)]; exact hmo a k h
        · rw [hc.1 263 11 (by omega), uI_n (by decide)]; exact h11
        · rw [hc.1 263 9 (by omega), uI_n (by decide)]; exact h9
theorem o_back (hn : n + 1 ≤ 512) (hJ : J n r g) (x1 : Int32) : OPi (d + 3) 117 249 [.int x1] n r g j := by
  refine OPi.mk hn hJ fun p p' b kc ic T R Y σ KY IY τ hX hM hP hF hV => ?_
  have hb := hP.hb
  have hk16 := hP.2.2.2.1.1
  have hi3 := hP.2.2.2.2.2.1.1
  obtain ⟨i5, i7⟩ := hX.2.2.2.2.2.2.2.1
  rcases in_or x1 (n := ic) (by omega) with ⟨q, hq, rfl⟩ | ho
  · have hyo := hP.2.2.2.2.2.2.1 q hq
    have hb0 : ¬ b = 0 := fun e => by have := hP.2.2.2.2.2.1.2 e; omega
    refine ⟨nI 1, nI 0, 0, ic, T, IY q, KY, IY, τ, e0, ?_, ?_, fun r g j hM => ?_⟩
    · obtain ⟨p1, p2, p3, p4, p5, p6, p7, p8, p10, p11⟩ := hP.up hn
      exact ⟨p1, p2, p7 q hq, ⟨by omega, fun _ => rfl⟩, fun i hi => by omega, p6, p7, p8, hn, fun e => absurd e hb0⟩
    · obtain ⟨k1, k2, k5, k7⟩ := hX.2.2.2.2.2.2.1
      refine vX9_back_0 ⟨fun a => absurd a (nlt_0 (by omega)), fun _ => ⟨fun _ => IX_l (by omega) (RF_i (Or.inl (RS72 (by omega))) (X_become yA_n (yA_i (by omega)) (by omega) fun g2 hbec => vX9_granted_0 ⟨bo1, bo1, rfl, ⟨σ, ?_⟩, fun a k h => ?_, uI_s, ?_⟩)), fun a => absurd ?_ a⟩⟩
      · have ho : ∀ a k, ¬ (62 ≤ a ∧ a < 71) → ¬ (a = 0 ∧ k = 10) → (uI g2 0 10 (nI 0)) a k = g a k := fun a k h1 h2 => by rw [uI_d h2, hbec.1 a k (by omega)]
        have hy : Yx 62 R (IY q) (uI g2 0 10 (nI 0)) := (hbec.yx hb.2 hyo.q15 hyo.h5 (i7 q hq)).eq fun a k h1 h2 => uI_d (by omega)
        refine XS.t7 (hX.gen (kc' := 0) (ic' := ic) (σ' := σ) (KY' := KY) (IY' := IY) hb (fun a k h1 h2 h3 => ho a k h2 (by omega)) (fun _ _ _ => rfl) hy ⟨k1, k2, uI_s, fun i hi => by omega⟩ (hX.2.2.2.2.2.2.2.1.eq hi3 (fun a k h1 h2 => ho a k (by omega) (by omega)) (ho 0 12 (by omega) (by omega)))) hb (by omega) hi3
      · rw [uI_o (by omega), uI_o (by omega), hbec.1 a k (by omega)]
      · rw [uI_n (by decide), uI_n (by decide), hbec.1 0 6 (by omega)]
      · rw [i5]; exact nI_lt hq (by omega)
    · refine vX10_back_0 (hM.good fun g2 hM2 hmo h11 h9 => ?_)
      obtain ⟨i6, i8⟩ := hM2.2.2.2.2.1
      rw [i6]
      refine sM_in (by omega) (fun q' hq' e => ⟨fun a => absurd a n10, fun _ => ?_⟩) (fun o => (o q hq rfl).elim)
      rw [pk_mul]
      refine M_copy (a := 270) (a2 := 268) (n0 := 738) (n2 := 246) rfl rfl (by decide) (by omega) (by decide) (by decide) (by decide) fun g3 hc => ⟨bo1, rfl, rfl, ?_, fun a k h => ?_, ?_, ?_⟩
      · have ho : ∀ a k, a ≠ 268 → ¬ (a = 263 ∧ k = 20) → (uI g3 263 20 (nI 0)) a k = g2 a k := fun a k h1 h2 => by rw [uI_d h2, hc.1 a k (by omega)]
        refine hM2.gen (fun a k h => ho a k (by omega) (by omega)) (fun k hk => ?_) ⟨uI_s, fun i hi k hk => by omega⟩ (hM2.2.2.2.2.1.eq (fun k => ho 270 k (by decide) (by omega)) (ho 263 21 (by decide) (by omega)))
        have := hc.2 k hk
        rw [Nat.zero_add] at this
        rw [uI_o (by decide), this]
        exact i8 q (by omega) k hk
      · rw [uI_o (by omega), hc.1 a k (by omega)]; exact hmo a k h
      · rw [uI_n (by decide), hc.1 263 11 (by omega)]; exact h11
      · rw [uI_n (by decide), hc.1 263 9 (by omega)]; exact h9
  · refine ⟨nI 0, nI 1, kc, ic, T, Y, KY, IY, τ, e1, hP.up hn, ?_, fun r g j hM => ?_⟩
    · have fin : G (d + 3) 117 12 [(0, .ref 0)] [] r g j (rkI fun v1 r1 g1 _ => v1 = nI 0 ∧ (∃ σ', XS p p' b kc ic T R Y σ' KY IY τ r1 g1) ∧ (∀ a k, 263 ≤ a → g1 a k = g a k) ∧ g1 0 7 = nI 1 ∧ g1 0 6 = g 0 6) :=
        vX9_back_12 (vX9_denied_0 ⟨bo0, bo0, rfl, ⟨σ, hX.t7 hb hk16 hi3⟩, fun a k h => uI_d (by omega), uI_s, uI_n (by decide)⟩)
      refine vX9_back_0 ⟨fun _ => fin, fun a0 => ⟨fun a => ?_, fun _ => fin⟩⟩
      rw [i5] at a
      exact absurd a (out_nlt (by omega) ho a0)
    · refine vX10_back_0 (hM.good fun g2 hM2 hmo h11 h9 => ?_)
      obtain ⟨i6, i8⟩ := hM2.2.2.2.2.1
      rw [i6]
      exact sM_in (by omega) (fun q' hq' e => (ho q' hq' e).elim) (fun o => ⟨fun _ => vX10_isNot_0 ⟨bo0, bo0, rfl, rfl, hM2.ag (Ag.rf.u rfl), fun a k h => by rw [uI_o (by omega)]; exact hmo a k h, uI_s, by rw [uI_n (by decide)]; exact h9⟩, fun a => absurd n00 a⟩)
theorem o_image (hn : n + 1 ≤ 512) (hJ : J n r g) : OPi (d + 3) 116 248 [] n r g j := by
  refine OPi.mk hn hJ fun p p' b kc ic T R Y σ KY IY τ hX hM hP hF hV => ?_
  have hb := hP.hb
  have hk16 := hP.2.2.2.1.1
  have hi3 := hP.2.2.2.2.2.1.1
  obtain ⟨i5, i7⟩ := hX.2.2.2.2.2.2.2.1
  have h5 := hX.2.2.2.2.1
  have no : ∀ e : Int32, Cm (d + 2) 121 [.ref 0, .int e] r g j (rkI fun y17 r14 g15 j16 => rkI (fun v1 r1 g1 _ => v1 = -1 ∧ (∃ σ', XS p p' b kc ic T R Y σ' KY IY τ r1 g1) ∧ (∀ a k, 263 ≤ a → g1 a k = g a k) ∧ g1 0 7 = e ∧ g1 0 6 = g 0 6) (some (.int y17)) r14 g15 j16) := fun e =>
    vX9_refused_0 ⟨rfl, ⟨σ, hX.t7 hb hk16 hi3⟩, fun a k h => uI_d (by omega), uI_s, uI_n (by decide)⟩
  have mno : ∀ (e : Int32) (g0 g2 : Gi) (r : Rr) (j : Gl), MS b kc ic T R Y KY IY τ g2 → (∀ a k, a < 263 → g2 a k = g0 a k) → g2 263 9 = g0 263 9 → Cm (d + 2) 142 [.ref 263, .int e] r g2 j (rkI fun y14 r11 g12 j13 => rkI (fun v2 r2 g2 _ => v2 = -1 ∧ r2 = r ∧ MS b kc ic T R Y KY IY τ g2 ∧ (∀ a k, a < 263 → g2 a k = g0 a k) ∧ g2 263 11 = e ∧ g2 263 9 = g0 263 9) (some (.int y14)) r11 g12 j13) := fun e g0 g2 r j hM2 hmo h9 =>
    vX10_no_0 ⟨rfl, rfl, hM2.ag (Ag.rf.u rfl), fun a k h => by rw [uI_o (by omega)]; exact hmo a k h, uI_s, by rw [uI_n (by decide)]; exact h9⟩
  rcases hP.1 with b0 | b1
  · refine ⟨-1, nI 1, kc, ic, T, Y, KY, IY, τ, e1, hP.up hn, ?_, fun r g j hM => ?_⟩
    · refine vX9_image_0 ⟨fun _ => no _, fun a => ?_⟩
      rw [h5, b0] at a; exact absurd n00 a
    · refine vX10_image_0 (hM.good fun g2 hM2 hmo h11 h9 => ⟨fun _ => mno _ g g2 _ _ hM2 hmo h9, fun a => ?_⟩)
      rw [hM2.2.2.1, b0] at a; exact absurd n00 a
  · by_cases h3 : ic = 3
    · refine ⟨-1, nI 3, kc, ic, T, Y, KY, IY, τ, e3, hP.up hn, ?_, fun r g j hM => ?_⟩
      · refine vX9_image_0 ⟨fun a => ?_, fun a => ⟨fun a => ?_, fun _ => no _⟩⟩
        · rw [h5, b1] at a; exact absurd a n10
        · rw [i5, h3] at a; exact absurd a (by decide +kernel)
      · refine vX10_image_0 (hM.good fun g2 hM2 hmo h11 h9 => ⟨fun a => ?_, fun a => ⟨fun _ => mno _ g g2 _ _ hM2 hmo h9, fun a => ?_⟩⟩)
        · rw [hM2.2.2.1, b1] at a; exact absurd a n10
        · rw [hM2.2.2.2.2.1.1, h3] at a; exact absurd rfl a
    · refine ⟨nI ic, nI 0, kc, ic + 1, T, Y, KY, fun i => if i = ic then Y else IY i, τ, e0, ?_, ?_, fun r g j hM => ?_⟩
      · obtain ⟨p1, p2, p3, p4, p5, p6, p7, p8, p10, p11⟩ := hP.up hn
        refine ⟨p1, p2, p3, p4, p5, ⟨by omega, fun e => by omega⟩, fun i hi => ?_, p8, hn, p11⟩
        show YO (n + 1) R (if i = ic then Y else IY i)
        split
        · exact p3
        · exact p7 i (by omega)
      · obtain ⟨k1, k2, k5, k7⟩ := hX.2.2.2.2.2.2.1
        refine vX9_image_0 ⟨fun a => ?_, fun a => ⟨fun _ => IX_e i5 (by omega) (RF_i (Or.inl (RS72 (by omega))) (OB_i (SH_y (yA_i (by omega))) (X_become (yA_i (by omega)) yA_n (by omega) fun g2 hbec => vX9_answered_0 ⟨?_, ⟨σ, ?_⟩, fun a k h => ?_, uI_s, ?_⟩))), fun a => absurd ?_ a⟩⟩
        · rw [h5, b1] at a; exact absurd a n10
        · rw [hbec.1 0 12 (by omega), i5, nI_add, pk_sub (by omega)]; rfl
        · have e12 : g2 0 12 = nI ic := by rw [hbec.1 0 12 (by omega)]; exact i5
          rw [e12, nI_add]
          have ho : ∀ a k, a < 236 → ¬ (a = 0 ∧ k = 12) → (uI g2 0 12 (nI (ic + 1))) a k = g a k := fun a k h1 h2 => by rw [uI_d h2, hbec.1 a k (by omega)]
          refine XS.t7 (hX.gen (kc' := kc) (ic' := ic + 1) (σ' := σ) (KY' := KY) hb (fun a k h1 h2 h3 => ho a k (by omega) (by omega)) (fun _ _ _ => rfl) (hX.2.2.2.1.eq fun a k h1 h2 => ho a k (by omega) (by omega)) (hX.2.2.2.2.2.2.1.eq hk16 (fun a k h1 h2 => ho a k h2 (by omega)) (ho 0 10 (by omega) (by omega))) ⟨uI_s, fun i hi => ?_⟩) hb hk16 (by omega)
          by_cases e : i = ic
          · subst e
            show Yx _ R (if i = i then Y else IY i) _
            rw [if_pos rfl]
            exact (hbec.yx hb.2 hP.2.2.1.q15 hP.2.2.1.h5 hX.2.2.2.1).eq fun a k h1 h2 => uI_d (by omega)
          · show Yx _ R (if i = ic then Y else IY i) _
            rw [if_neg e]
            exact (i7 i (by omega)).eq fun a k h1 h2 => by rw [uI_d (by omega), hbec.1 a k (by omega)]
        · rw [uI_o (by omega), uI_o (by omega), hbec.1 a k (by omega)]
        · rw [uI_n (by decide), uI_n (by decide), hbec.1 0 6 (by omega)]
        · rw [i5]; exact nI_lt (by omega) (by omega)
      · refine vX10_image_0 (hM.good fun g2 hM2 hmo h11 h9 => ⟨fun a => ?_, fun a => ⟨fun a => ?_, fun _ => ?_⟩⟩)
        · rw [hM2.2.2.1, b1] at a; exact absurd a n10
        · rw [hM2.2.2.2.2.1.1, nI_eq (by omega) (by decide)] at a; exact absurd a h3
        · obtain ⟨i6, i8⟩ := hM2.2.2.2.2.1
          rw [i6, pk_mul]
          refine M_copy (a := 268) (a2 := 270) (n0 := 246) (n2 := 738) rfl rfl (by decide) (by decide) (by omega) (by decide) (by decide) fun g3 hc => ?_
          have e21 : g3 263 21 = nI ic := by rw [hc.1 263 21 (by omega)]; exact i6
          rw [e21, nI_add, pk_sub (by omega)]
          refine ⟨rfl, rfl, ?_, fun a k h => ?_, ?_, ?_⟩
          · have ho : ∀ a k, a ≠ 270 → ¬ (a = 263 ∧ k = 21) → (uI g3 263 21 (nI (ic + 1))) a k = g2 a k := fun a k h1 h2 => by rw [uI_d h2, hc.1 a k (by omega)]
            refine hM2.gen (fun a k h => ho a k (by omega) (by omega)) (fun k hk => by rw [ho 268 k (by decide) (by omega)]; exact hM2.2.1 k hk) (hM2.2.2.2.1.eq (fun k => ho 269 k (by decide) (by omega)) (ho 263 20 (by decide) (by omega))) ⟨uI_s, fun i hi k hk => ?_⟩
            rw [uI_o (by decide)]
            by_cases e : i = ic
            · subst e
              show _ = nI ((if i = i then Y else IY i) k)
              rw [if_pos rfl, hc.2 k hk, Nat.zero_add]
              exact hM2.2.1 k hk
            · show _ = nI ((if i = ic then Y else IY i) k)
              rw [if_neg e, hc.1 270 _ (by omega)]
              exact i8 i (by omega) k hk
          · rw [uI_o (by omega), hc.1 a k (by omega)]; exact hmo a k h
          · rw [uI_n (by decide), hc.1 263 11 (by omega)]; exact h11
          · rw [uI_n (by decide), hc.1 263 9 (by omega)]; exact h9
end
