/-! THE TEXT: Yard.begin; the reference's filling of its state -/
def BgS (c : Nat) (F : Nat → Nat) (g0 g : Gi) : Prop := (∀ a k, ¬ (62 ≤ a ∧ a < 71) → g a k = g0 a k) ∧ (g 62 3 = nI 0 ∧ g 62 9 = nI 0 ∧ g 62 10 = nI 0) ∧
  (∀ k, k < 9 → g 64 k = nI (bgY F (if c ≤ F 5 then c else F 5) (120 + k)) ∧ ∀ i, i < bgY F (if c ≤ F 5 then c else F 5) (120 + k) → g 63 (5 * k + i) = nI (bgY F (if c ≤ F 5 then c else F 5) (75 + 5 * k + i) - 1)) ∧
  ∀ c', c' < c → g 68 c' = nI (opx (if c' < F 5 then F (126 + c') else 0)) ∧ (c' < F 5 → g 66 c' = nI (F (25 + 5 * c')) ∧ g 67 c' = nI 0 ∧ g 70 c' = -(nI 2))
def RW8 (Y : Nat → Nat) (g : Gi) : Prop := ∀ k, k < 246 → g 268 k = nI (Y k)
section
variable {d q : Nat} {F Y : Nat → Nat} {r : Rr} {g g' : Gi} {j : Gl}
theorem X_begin {K : Rr → Gi → Gl → Prop} (hp : q = 2 ∨ q = 30) (hB : RB F) (hx : Px q F g) (h : ∀ g', Yx 62 F (bgY F (F 5)) g' → (∀ a k, ¬ (62 ≤ a ∧ a < 71) → g' a k = g a k) → K r g' j) : Cm (d + 1) 57 [.ref 62, .ref q] r g j (rkV K) := by
  have rb := hB.1
  have x7 : g q 7 = nI (F 5) := hx.1.2.2.2.2.2.1
  have m40 : ∀ (a k : Nat) (v : Int32) (gg : Gi), 62 ≤ a → a < 71 → (∀ a k, ¬ (62 ≤ a ∧ a < 71) → gg a k = g a k) → ∀ a' k', ¬ (62 ≤ a' ∧ a' < 71) → uI gg a k v a' k' = g a' k' := fun a k v gg h1 h2 ho a' k' z => by rw [uI_o (by omega)]; exact ho a' k' z
  have loop : ∀ w c, c + w = 15 → ∀ gg, BgS c F g gg → G (d + 1) 57 38 [(0, .ref 62), (1, .ref q), (2, .int (nI c))] [] r gg j (rkV K) := by
    intro w
    induction w with
    | zero =>
      intro c hc gg hS
      have : c = 15 := hc
      subst this
      obtain ⟨s1, s2, s3, s4⟩ := hS
      refine vX8_begin_38 ⟨fun _ => h gg ?_ s1, fun y => absurd (Int32.le_refl _) y⟩
      obtain ⟨b1, b2, b3, b4, b5⟩ := bgY_ok hB (F 5) (Nat.le_refl _)
      have em : (if 15 ≤ F 5 then 15 else F 5) = F 5 := by split <;> omega
      rw [em] at s3
      have yc : ∀ c, c < F 5 → bgY F (F 5) c ≤ 2 := fun c hc => by rw [(b4 c hc).1]; exact (hB.2.2.1 c hc).2.2.2.2.2.2
      refine ⟨⟨by rw [b5 144 (by omega)]; exact s2.1, by rw [b5 145 (by omega)]; exact s2.2.1, by rw [b5 146 (by omega)]; exact s2.2.2⟩, s3, fun i hi => by rw [b5 144 (by omega)] at hi; omega, fun c hc => ?_, fun c hc => ?_⟩
      · rw [(s4 c hc).1]
        by_cases e : c < F 5
        · rw [if_pos e, (b4 c e).2.1]
        · rw [if_neg e, b5 (60 + c) (by omega)]
      · have t := (s4 c (by omega)).2 hc
        have y2 := yc c hc
        refine ⟨by rw [(b4 c hc).1]; exact t.1, by rw [b5 (15 + c) (by omega)]; exact t.2.1, fun e => by omega, fun e => by omega, fun _ => t.2.2⟩
    | succ w ih =>
      intro c hc gg hS
      obtain ⟨s1, s2, s3, s4⟩ := hS
      have g7 : gg q 7 = nI (F 5) := by rw [s1 q 7 (by omega)]; exact x7
      refine vX8_begin_38 ⟨fun y => by rw [nI_leI (by omega) (by omega)] at y; omega, fun _ => OB_i (SH_p hp) ?_⟩
      rw [g7, nI_leI (by omega) (by omega)]
      refine ⟨fun y => ?_, fun y => ?_⟩
      · refine vX8_begin_57 ⟨fun _ => vX8_begin_80 (IX_l (by omega) ⟨fun _ => vX8_begin_103 (IX_l (by omega) (IX_l (by omega) (IX_l (by omega) (IX_l (by omega) ⟨fun _ => vX8_begin_153 ?_, fun y => absurd n00 y⟩)))), fun y => absurd n00 y⟩), fun y => absurd n00 y⟩
        rw [nI_add]
        have em : (if c + 1 ≤ F 5 then c + 1 else F 5) = (if c ≤ F 5 then c else F 5) := by
          rw [if_neg (by omega)]; split <;> omega
        refine ih (c + 1) (by omega) _ ⟨m40 _ _ _ _ (by decide) (by decide) (m40 _ _ _ _ (by decide) (by decide) (m40 _ _ _ _ (by decide) (by decide) (m40 _ _ _ _ (by decide) (by decide) (m40 _ _ _ _ (by decide) (by decide) s1)))), ?_, fun k hk => ?_, fun c' hc' => ⟨?_, fun e => ?_⟩⟩
        · rw [uI_o (by decide), uI_o (by decide), uI_o (by decide), uI_o (by decide), uI_o (by decide)]; exact s2
        · rw [em, uI_o (by decide), uI_o (by decide), uI_o (by decide), uI_o (by decide), uI_o (by decide), uI_o (by decide), uI_o (by decide), uI_o (by decide), uI_o (by decide), uI_o (by decide)]; exact s3 k hk
        · rw [uI_o (by decide), uI_o (by decide), uI_o (by decide)]
          by_cases z : c' = c
          · subst z
            rw [uI_s, if_neg (by omega)]; rfl
          · rw [uI_n z, uI_o (by decide)]; exact (s4 c' (by omega)).1
        · have := (s4 c' (by omega)).2 e
          rw [uI_o (by decide), uI_o (by decide), uI_o (by decide), uI_o (by decide), uI_n (by omega), uI_o (by decide), uI_o (by decide), uI_n (by omega), uI_o (by decide), uI_o (by decide), uI_n (by omega), uI_o (by decide), uI_o (by decide), uI_o (by decide), uI_o (by decide)]
          exact this
      · have hcF : c < F 5 := by omega
        have xc := hx.2.2.1 c hcF
        have cb := hB.2.2.1 c hcF
        have hI := bgY_ok hB c (by omega)
        have hlt := hI.lt hB hcF
        have kq : kcF F c = 3 * F (22 + 5 * c) + F (25 + 5 * c) := rfl
        have em0 : (if c ≤ F 5 then c else F 5) = c := if_pos (by omega)
        have em1 : (if c + 1 ≤ F 5 then c + 1 else F 5) = c + 1 := if_pos (by omega)
        rw [em0] at s3
        refine vX8_begin_57 ⟨fun y => absurd y n10, fun _ => crate_f hp rfl (by omega) (vX8_begin_80 (IX_l (by omega) ⟨fun y => absurd y n10, fun _ => crate_f hp rfl (by omega) (vX8_begin_103 (IX_l (by omega) (IX_l (by omega) (IX_l (by omega) (IX_l (by omega) ⟨fun y => absurd y n10, fun _ => crate_f hp rfl (by omega) (crate_f hp rfl (by omega) ?_)⟩)))))⟩))⟩
        have v2 : gg (q + 13 + c) 2 = nI (F (25 + 5 * c)) := by rw [s1 _ _ (by omega)]; exact xc.2.2.2.2.1
        have v5 : (uI gg 66 c (gg (q + 13 + c) 2)) (q + 13 + c) 5 = nI (opx (F (126 + c))) := by rw [uI_o (by omega), s1 _ _ (by omega)]; exact xc.2.2.2.2.2
        rw [v5, v2]
        have w1 : (uI (uI (uI (uI (uI gg 66 c (nI (F (25 + 5 * c)))) 68 c (nI (opx (F (126 + c))))) 67 c (nI 0)) 69 c (nI 0)) 70 c (-(nI 2))) (q + 13 + c) 1 = nI (F (22 + 5 * c)) := by
          rw [uI_o (by omega), uI_o (by omega), uI_o (by omega), uI_o (by omega), uI_o (by omega), s1 _ _ (by omega)]; exact xc.2.1
        have w2 : (uI (uI (uI (uI (uI gg 66 c (nI (F (25 + 5 * c)))) 68 c (nI (opx (F (126 + c))))) 67 c (nI 0)) 69 c (nI 0)) 70 c (-(nI 2))) (q + 13 + c) 2 = nI (F (25 + 5 * c)) := by
          rw [uI_o (by omega), uI_o (by omega), uI_o (by omega), uI_o (by omega), uI_o (by omega), s1 _ _ (by omega)]; exact xc.2.2.2.2.1
        rw [w1, w2]
        have ek : nI (F (22 + 5 * c)) * nI 3 + nI (F (25 + 5 * c)) = nI (kcF F c) := by rw [pk_mul, nI_add]; congr 1; omega
        have g64 : (uI (uI (uI (uI (uI gg 66 c (nI (F (25 + 5 * c)))) 68 c (nI (opx (F (126 + c))))) 67 c (nI 0)) 69 c (nI 0)) 70 c (-(nI 2))) 64 (kcF F c) = nI (bgY F c (120 + kcF F c)) := by
          rw [uI_o (by omega), uI_o (by omega), uI_o (by omega), uI_o (by omega), uI_o (by omega)]; exact (s3 _ (by omega)).1
        refine vX8_pile_0 (IX_e (q := kcF F c) ek (by omega) ⟨fun y => ?_, fun _ => IX_e (q := kcF F c) ek (by omega) (IX_e (q := 5 * kcF F c + bgY F c (120 + kcF F c)) ?_ (by omega) (IX_e (q := kcF F c) ek (by omega) (IX_e (q := kcF F c) ek (by omega) (vX8_begin_153 ?_))))⟩)
        · rw [g64, nI_leI (by omega) (by omega)] at y; omega
        · rw [g64, ek, pk_mul, nI_add, Nat.mul_comm]
        · rw [g64, nI_add, nI_add]
          have bz1 : ∀ k, k ≠ c → k ≠ 60 + c → k ≠ 75 + 5 * kcF F c + bgY F c (120 + kcF F c) → k ≠ 120 + kcF F c → bgY F (c + 1) k = bgY F c k := fun k y1 y2 y3 y4 => by
            show upN _ _ _ k = _
            unfold upN
            rw [if_neg y4, if_neg y3, if_neg y2, if_neg y1]
          have bz2 : bgY F (c + 1) (120 + kcF F c) = bgY F c (120 + kcF F c) + 1 := by
            show upN _ _ _ _ = _
            unfold upN
            rw [if_pos rfl]
          have bz3 : bgY F (c + 1) (75 + 5 * kcF F c + bgY F c (120 + kcF F c)) = c + 1 := by
            show upN _ _ _ _ = _
            unfold upN
            rw [if_neg (by omega), if_pos rfl]
          refine ih (c + 1) (by omega) _ ⟨m40 _ _ _ _ (by decide) (by decide) (m40 _ _ _ _ (by decide) (by decide) (m40 _ _ _ _ (by decide) (by decide) (m40 _ _ _ _ (by decide) (by decide) (m40 _ _ _ _ (by decide) (by decide) (m40 _ _ _ _ (by decide) (by decide) (m40 _ _ _ _ (by decide) (by decide) s1)))))), ?_, fun k hk => ?_, fun c' hc' => ⟨?_, fun e => ?_⟩⟩
          · rw [uI_o (by decide), uI_o (by decide), uI_o (by decide), uI_o (by decide), uI_o (by decide), uI_o (by decide), uI_o (by decide)]; exact s2
          · rw [em1]
            have o3 : ∀ i, (uI (uI (uI (uI (uI gg 66 c (nI (F (25 + 5 * c)))) 68 c (nI (opx (F (126 + c))))) 67 c (nI 0)) 69 c (nI 0)) 70 c (-(nI 2))) 63 i = gg 63 i := fun i => by rw [uI_o (by omega), uI_o (by omega), uI_o (by omega), uI_o (by omega), uI_o (by omega)]
            have o4 : ∀ i, (uI (uI (uI (uI (uI gg 66 c (nI (F (25 + 5 * c)))) 68 c (nI (opx (F (126 + c))))) 67 c (nI 0)) 69 c (nI 0)) 70 c (-(nI 2))) 64 i = gg 64 i := fun i => by rw [uI_o (by omega), uI_o (by omega), uI_o (by omega), uI_o (by omega), uI_o (by omega)]
            have b5 : bgY F c (120 + k) ≤ 5 := by
              have a := (hI.1 k hk).1
              have d' := cntS_mo (F := F) (s := k / 3) c (F 5 - c)
              rw [show c + (F 5 - c) = F 5 by omega] at d'
              have e := hB.2.2.2.2.1 (k / 3)
              omega
            by_cases z : k = kcF F c
            · subst z
              rw [uI_s, bz2]
              refine ⟨rfl, fun i hi => ?_⟩
              rw [uI_o (by decide)]
              by_cases z2 : i = bgY F c (120 + kcF F c)
              · subst z2
                rw [uI_s, bz3]; rfl
              · rw [uI_n (by omega), o3, bz1 _ (by omega) (by omega) (by omega) (by omega)]
                exact (s3 _ hk).2 i (by omega)
            · rw [uI_n z, uI_o (by decide), o4, bz1 _ (by omega) (by omega) (by omega) (by omega)]
              refine ⟨(s3 k hk).1, fun i hi => ?_⟩
              rw [uI_o (by decide), uI_n (by omega), o3, bz1 _ (by omega) (by omega) (by omega) (by omega)]
              exact (s3 k hk).2 i hi
          · rw [uI_o (by decide), uI_o (by decide), uI_o (by decide), uI_o (by decide), uI_o (by decide)]
            by_cases z : c' = c
            · subst z
              rw [uI_s, if_pos hcF]
            · rw [uI_n z, uI_o (by decide)]; exact (s4 c' (by omega)).1
          · by_cases z : c' = c
            · subst z
              refine ⟨?_, ?_, ?_⟩
              · rw [uI_o (by decide), uI_o (by decide), uI_o (by decide), uI_o (by decide), uI_o (by decide), uI_o (by decide), uI_s]
              · rw [uI_o (by decide), uI_o (by decide), uI_o (by decide), uI_o (by decide), uI_s]
              · rw [uI_o (by decide), uI_o (by decide), uI_s]
            · have := (s4 c' (by omega)).2 e
              refine ⟨?_, ?_, ?_⟩
              · rw [uI_o (by decide), uI_o (by decide), uI_o (by decide), uI_o (by decide), uI_o (by decide), uI_o (by decide), uI_n z]; exact this.1
              · rw [uI_o (by decide), uI_o (by decide), uI_o (by decide), uI_o (by decide), uI_n z, uI_o (by decide), uI_o (by decide)]; exact this.2.1
              · rw [uI_o (by decide), uI_o (by decide), uI_n z, uI_o (by decide), uI_o (by decide), uI_o (by decide), uI_o (by decide)]; exact this.2.2
  have first : ∀ w k, k + w = 9 → ∀ gg, (∀ a k, ¬ (62 ≤ a ∧ a < 71) → gg a k = g a k) → (gg 62 3 = nI 0 ∧ gg 62 9 = nI 0 ∧ gg 62 10 = nI 0) → (∀ i, i < k → gg 64 i = nI 0) → G (d + 1) 57 17 [(0, .ref 62), (1, .ref q), (2, .int (nI k))] [] r gg j (rkV K) := by
    intro w
    induction w with
    | zero =>
      intro k hk gg h1 h2 h3
      have : k = 9 := hk
      subst this
      refine vX8_begin_17 ⟨fun _ => loop 15 0 (by omega) gg ⟨h1, h2, fun k hk => ?_, fun c' hc' => by omega⟩, fun y => absurd (Int32.le_refl _) y⟩
      rw [if_pos (Nat.zero_le _)]
      exact ⟨h3 k hk, fun i hi => absurd hi (Nat.not_lt_zero _)⟩
    | succ w ih =>
      intro k hk gg h1 h2 h3
      refine vX8_begin_17 ⟨fun y => by rw [nI_leI (by omega) (by omega)] at y; omega, fun _ => IX_l (by omega) ?_⟩
      rw [nI_add]
      refine ih (k + 1) (by omega) _ (m40 _ _ _ _ (by decide) (by decide) h1) (by rw [uI_o (by decide)]; exact h2) (fun i hi => ?_)
      by_cases z : i = k
      · subst z; exact uI_s
      · rw [uI_n z]; exact h3 i (by omega)
  refine vX8_begin_0 (first 9 0 (by omega) _ (m40 _ _ _ _ (by decide) (by decide) (m40 _ _ _ _ (by decide) (by decide) (m40 _ _ _ _ (by decide) (by decide) (fun _ _ _ => rfl)))) ⟨?_, ?_, ?_⟩ (fun i hi => by omega))
  · rw [uI_n (by decide), uI_n (by decide), uI_s]
  · rw [uI_n (by decide), uI_s]
  · rw [uI_s]
theorem RW8.u {a v : Nat} (h : RW8 Y g) : RW8 (upN Y a v) (uI g 268 a (nI v)) := fun k hk => by
  unfold upN
  by_cases c : k = a
  · subst c; rw [if_pos rfl, uI_s]
  · rw [if_neg c, uI_n c]; exact h k hk
theorem M_fill {Q : QT} (hB : RB F) (h6 : ∀ k, k < 348 → g 266 k = nI (F k)) (h : ∀ g', RW8 (bgY F (F 5)) g' → (∀ a k, a ≠ 268 → g' a k = g a k) → Q (some (.int (nI (F 5)))) r (uI (uI (uI g' 263 14 (nI 1)) 263 20 (nI 0)) 263 21 (nI 0)) j) : G (d + 1) 165 204 [(0, .ref 263), (2, .int (nI 0))] [] r g j Q := by
  have rb := hB.1
  have second : ∀ w c, c + w = F 5 → ∀ gg, RW8 (bgY F c) gg → (∀ a k, a ≠ 268 → gg a k = g a k) → G (d + 1) 165 226 [(0, .ref 263), (2, .int (nI c))] [] r gg j Q := by
    intro w
    induction w with
    | zero =>
      intro c hc gg hw ho
      have : c = F 5 := hc
      subst this
      have g5 : gg 266 5 = nI (F 5) := by rw [ho 266 5 (by decide)]; exact h6 5 (by decide)
      refine vX10_port_226 (IX_l (by decide) ⟨fun _ => ⟨bo1, IX_l (by decide) ?_⟩, fun y => absurd ?_ y⟩)
      · rw [g5]; exact h gg hw ho
      · rw [g5]; exact Int32.le_refl _
    | succ w ih =>
      intro c hc gg hw ho
      have hcF : c < F 5 := by omega
      have cb := hB.2.2.1 c hcF
      have hI := bgY_ok hB c (by omega)
      have hlt := hI.lt hB hcF
      have kq : kcF F c = 3 * F (22 + 5 * c) + F (25 + 5 * c) := rfl
      have gr : ∀ k, k < 348 → gg 266 k = nI (F k) := fun k hk => by rw [ho 266 k (by decide)]; exact h6 k hk
      refine vX10_port_226 (IX_l (by decide) ⟨fun y => ?_, fun _ => W_ofC gr (by omega) (by decide) (IX_e (q := c) (by rw [nI_add, Nat.zero_add]) (by omega) (IX_e (q := 126 + c) (by rw [nI_add]) (by omega) (IX_e (q := 60 + c) (by rw [nI_add]) (by omega) ?_)))⟩)
      · rw [gr 5 (by decide), nI_leI (by omega) (by omega)] at y; omega
      · rw [gr (126 + c) (by omega), show 21 + 5 * c + 4 = 25 + 5 * c by omega]
        have w2 := (hw.u (a := c) (v := F (25 + 5 * c))).u (a := 60 + c) (v := F (126 + c))
        have gr2 : ∀ k, k < 348 → (uI (uI gg 268 c (nI (F (25 + 5 * c)))) 268 (60 + c) (nI (F (126 + c)))) 266 k = nI (F k) := fun k hk => by rw [uI_o (by decide), uI_o (by decide)]; exact gr k hk
        refine W_ofC gr2 (by omega) (by decide) ?_
        rw [show 21 + 5 * c + 1 = 22 + 5 * c by omega]
        have ek : nI 3 * nI (F (22 + 5 * c)) + nI (F (25 + 5 * c)) = nI (kcF F c) := by rw [pk_mul, nI_add]
        rw [ek]
        have ek2 : nI 120 + nI (kcF F c) = nI (120 + kcF F c) := nI_add _ _
        have y0 : upN (upN (bgY F c) c (F (25 + 5 * c))) (60 + c) (F (126 + c)) (120 + kcF F c) = bgY F c (120 + kcF F c) := by unfold upN; rw [if_neg (by omega), if_neg (by omega)]
        rw [ek2]
        refine IX_l (by omega) (IX_e (q := 75 + 5 * kcF F c + bgY F c (120 + kcF F c)) ?_ (by omega) (IX_l (by omega) (IX_l (by omega) ?_)))
        · rw [w2 _ (by omega), y0, pk_mul, nI_add, nI_add]
        · have w3 := w2.u (a := 75 + 5 * kcF F c + bgY F c (120 + kcF F c)) (v := c + 1)
          rw [nI_add]
          have e1 : (uI (uI (uI gg 268 c (nI (F (25 + 5 * c)))) 268 (60 + c) (nI (F (126 + c)))) 268 (75 + 5 * kcF F c + bgY F c (120 + kcF F c)) (nI (c + 1))) 268 (120 + kcF F c) + nI 1 = nI (bgY F c (120 + kcF F c) + 1) := by
            rw [uI_n (by omega), w2 _ (by omega), y0, nI_add]
          rw [e1]
          exact ih (c + 1) (by omega) _ (w3.u (a := 120 + kcF F c) (v := bgY F c (120 + kcF F c) + 1)) (fun a k z => by rw [uI_o z, uI_o z, uI_o z, uI_o z]; exact ho a k z)
  have first : ∀ w i, i + w = 246 → ∀ gg, (∀ k, k < i → gg 268 k = nI 0) → (∀ a k, a ≠ 268 → gg a k = g a k) → G (d + 1) 165 204 [(0, .ref 263), (2, .int (nI i))] [] r gg j Q := by
    intro w
    induction w with
    | zero =>
      intro i hi gg hz ho
      have : i = 246 := hi
      subst this
      exact vX10_port_204 ⟨fun _ => second (F 5) 0 (by omega) gg hz ho, fun y => absurd (Int32.le_refl _) y⟩
    | succ w ih =>
      intro i hi gg hz ho
      refine vX10_port_204 ⟨fun y => by rw [nI_leI (by omega) (by omega)] at y; omega, fun _ => IX_l (by omega) ?_⟩
      rw [nI_add]
      refine ih (i + 1) (by omega) _ (fun k hk => ?_) (fun a k z => by rw [uI_o z]; exact ho a k z)
      by_cases z : k = i
      · subst z; exact uI_s
      · rw [uI_n z]; exact hz k (by omega)
  exact first 246 0 (by omega) g (fun k hk => by omega) (fun _ _ _ => rfl)
end
