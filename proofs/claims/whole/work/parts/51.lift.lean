/-! ACTS: open; lift -/
def tkY (Y : Nat → Nat) (k c eff brk : Nat) : Nat → Nat := upN (upN (upN (upN (upN (upN Y (120 + k) (Y (120 + k) - 1)) (75 + 5 * k + (Y (120 + k) - 1)) 0) 146 (Y 146 + eff)) (15 + c) (Y (15 + c) + 1)) (30 + c) brk) c 5
def plY (Y : Nat → Nat) (k c : Nat) : Nat → Nat := upN (upN (upN Y (75 + 5 * k + Y (120 + k)) (c + 1)) (120 + k) (Y (120 + k) + 1)) c (k % 3)
def lnY (Y : Nat → Nat) (c : Nat) : Nat → Nat := upN (upN (upN Y (129 + Y 144) c) 144 (Y 144 + 1)) c 3
section
variable {n p b d : Nat} {R Y Y' : Nat → Nat} {r : Rr} {g g' : Gi} {j : Gl} {K : Int32 → Rr → Gi → Gl → Prop}
theorem tkY_o {k c eff brk i : Nat} (h1 : i ≠ 120 + k) (h2 : i ≠ 75 + 5 * k + (Y (120 + k) - 1)) (h3 : i ≠ 146) (h4 : i ≠ 15 + c) (h5 : i ≠ 30 + c) (h6 : i ≠ c) : tkY Y k c eff brk i = Y i := by
  unfold tkY
  rw [upN_o h6, upN_o h5, upN_o h4, upN_o h3, upN_o h2, upN_o h1]
theorem YO.tk {k c eff : Nat} (h : YO n R Y) (h5 : R 5 ≤ 15) (hS : ∀ c, c < R 5 → R (22 + 5 * c) < 3) (hk : k < 9) (hh : 1 ≤ Y (120 + k)) (hc : Y (75 + 5 * k + (Y (120 + k) - 1)) = c + 1) (he : eff ≤ 2) : YO (n + 1) R (tkY Y k c eff (if R (21 + 5 * c) = 2 ∧ 2 ≤ Y (15 + c) + 1 then 1 else 0)) := by
  have h1 := (h.1 k hk).2.2 (Y (120 + k) - 1) (by omega)
  have h2 := (h.1 k hk).1
  refine h.take h5 hS hk hh hc ?_ ?_ ?_ ?_ ?_ ?_ (fun i a1 a2 a3 a4 a5 a6 => tkY_o a1 a2 a3 a4 a5 a6)
  · unfold tkY; rw [upN_o (by omega), upN_o (by omega), upN_o (by omega), upN_o (by omega), upN_o (by omega), upN_s]
  · unfold tkY; rw [upN_o (by omega), upN_o (by omega), upN_o (by omega), upN_o (by omega), upN_s]
  · unfold tkY; rw [upN_o (by omega), upN_o (by omega), upN_o (by omega), upN_s]; omega
  · unfold tkY; rw [upN_o (by omega), upN_o (by omega), upN_s]
  · unfold tkY; rw [upN_o (by omega), upN_s]
  · unfold tkY; rw [upN_s]
theorem Yx.take {y k c eff brk : Nat} (hx : Yx y R Y g) (h : YO n R Y) (h5 : R 5 ≤ 15) (hk : k < 9) (hh : 1 ≤ Y (120 + k)) (hc : Y (75 + 5 * k + (Y (120 + k) - 1)) = c + 1)
    (c1 : g' (y + 2) k = nI (Y (120 + k) - 1)) (c2 : g' (y + 5) c = nI (Y (15 + c) + 1)) (c3 : g' y 10 = nI (Y 146 + eff)) (c4 : g' (y + 4) c = nI 5)
    (o : ∀ a q, ¬ (a = y + 2 ∧ q = k) → ¬ (a = y + 5 ∧ q = c) → ¬ (a = y ∧ q = 10) → ¬ (a = y + 4 ∧ q = c) → g' a q = g a q) : Yx y R (tkY Y k c eff brk) g' := by
  have hk1 := h.1 k hk
  have hc1 := hk1.2.2 (Y (120 + k) - 1) (by omega)
  rw [hc, Nat.add_sub_cancel] at hc1
  obtain ⟨x1, x2, x3, x4, x5⟩ := hx
  have e146 : tkY Y k c eff brk 146 = Y 146 + eff := by unfold tkY; rw [upN_o (by omega), upN_o (by omega), upN_o (by omega), upN_s]
  have ek : tkY Y k c eff brk (120 + k) = Y (120 + k) - 1 := by unfold tkY; rw [upN_o (by omega), upN_o (by omega), upN_o (by omega), upN_o (by omega), upN_o (by omega), upN_s]
  have ec : tkY Y k c eff brk c = 5 := by unfold tkY; rw [upN_s]
  have e15 : tkY Y k c eff brk (15 + c) = Y (15 + c) + 1 := by unfold tkY; rw [upN_o (by omega), upN_o (by omega), upN_s]
  have e144 : tkY Y k c eff brk 144 = Y 144 := tkY_o (by omega) (by omega) (by omega) (by omega) (by omega) (by omega)
  have e145 : tkY Y k c eff brk 145 = Y 145 := tkY_o (by omega) (by omega) (by omega) (by omega) (by omega) (by omega)
  refine ⟨⟨?_, ?_, ?_⟩, fun k' hk' => ⟨?_, fun i hi => ?_⟩, fun i hi => ?_, fun c' hc' => ?_, fun c' hc' => ?_⟩
  · rw [o y 3 (by omega) (by omega) (by omega) (by omega), e144]; exact x1.1
  · rw [o y 9 (by omega) (by omega) (by omega) (by omega), e145]; exact x1.2.1
  · rw [c3, e146]
  · by_cases e : k' = k
    · subst e; rw [c1, ek]
    · rw [o (y + 2) k' (by omega) (by omega) (by omega) (by omega), tkY_o (by omega) (by omega) (by omega) (by omega) (by omega) (by omega)]; exact (x2 k' hk').1
  · have h55 := (h.1 k' hk').1
    have hlt : i < Y (120 + k') ∧ 5 * k' + i ≠ 5 * k + (Y (120 + k) - 1) := by
      have := (h.1 k' hk').1
      by_cases e : k' = k
      · subst e; rw [ek] at hi; omega
      · rw [tkY_o (by omega) (by omega) (by omega) (by omega) (by omega) (by omega)] at hi; omega
    rw [o (y + 1) _ (by omega) (by omega) (by omega) (by omega), tkY_o (by omega) (by omega) (by omega) (by omega) (by omega) (by omega)]
    exact (x2 k' hk').2 i hlt.1
  · rw [e144] at hi
    have := h.q15
    rw [o (y + 3) i (by omega) (by omega) (by omega) (by omega), tkY_o (by omega) (by omega) (by omega) (by omega) (by omega) (by omega)]; exact x3 i hi
  · rw [o (y + 6) c' (by omega) (by omega) (by omega) (by omega), tkY_o (by omega) (by omega) (by omega) (by omega) (by omega) (by omega)]; exact x4 c' hc'
  · have h8 := x5 c' hc'
    rw [o (y + 7) c' (by omega) (by omega) (by omega) (by omega), o (y + 8) c' (by omega) (by omega) (by omega) (by omega), e145, tkY_o (i := 45 + c') (by omega) (by omega) (by omega) (by omega) (by omega) (by omega)]
    by_cases e : c' = c
    · subst e
      rw [c4, ec, c2, e15]
      exact ⟨rfl, rfl, fun e => by omega, fun e => by omega, fun _ => h8.2.2.2.2 (by omega)⟩
    · have e' := tkY_o (Y := Y) (k := k) (c := c) (eff := eff) (brk := brk) (i := c') (by omega) (by omega) (by omega) (by omega) (by omega) e
      rw [e', o (y + 4) c' (by omega) (by omega) (by omega) (by omega), o (y + 5) c' (by omega) (by omega) (by omega) (by omega), tkY_o (i := 15 + c') (by omega) (by omega) (by omega) (by omega) (by omega) (by omega)]
      refine ⟨h8.1, h8.2.1, h8.2.2.1, fun e4 => ?_, h8.2.2.2.2⟩
      obtain ⟨q, hq, h9, h10⟩ := h8.2.2.2.1 e4
      have := h.2.2.2.2.2.2.2.2.2.1.1
      clear h8 x5
      exact ⟨q, hq, by rw [tkY_o (by omega) (by omega) (by omega) (by omega) (by omega) (by omega)]; exact h9, h10⟩
theorem plY_o {k c i : Nat} (h1 : i ≠ 120 + k) (h2 : i ≠ 75 + 5 * k + Y (120 + k)) (h6 : i ≠ c) : plY Y k c i = Y i := by
  unfold plY
  rw [upN_o h6, upN_o h1, upN_o h2]
theorem YO.pl {k c : Nat} (h : YO n R Y) (h5 : R 5 ≤ 15) (hS : ∀ c, c < R 5 → R (22 + 5 * c) < 3) (hk : k < 9) (hh : Y (120 + k) ≤ 4) (hc : c < R 5) (hcs : R (22 + 5 * c) = k / 3) (hcp : Y c = 5) (h4 : k < 3 * R 4) (hd : Y (45 + c) = 0) : YO n R (plY Y k c) := by
  refine h.pil h5 hS hk hh hc hcs hcp h4 hd ?_ ?_ ?_ (fun i a1 a2 a3 => plY_o a1 a2 a3)
  · unfold plY; rw [upN_o (by omega), upN_s]
  · unfold plY; rw [upN_o (by omega), upN_o (by omega), upN_s]
  · unfold plY; rw [upN_s]
theorem Yx.pil {y k c : Nat} (hx : Yx y R Y g) (h : YO n R Y) (h5 : R 5 ≤ 15) (hk : k < 9) (hh : Y (120 + k) ≤ 4) (hc : c < R 5) (hcp : Y c = 5)
    (c1 : g' (y + 2) k = nI (Y (120 + k) + 1)) (c2 : g' (y + 1) (5 * k + Y (120 + k)) = nI c) (c4 : g' (y + 4) c = nI (k % 3))
    (o : ∀ a q, ¬ (a = y + 2 ∧ q = k) → ¬ (a = y + 1 ∧ q = 5 * k + Y (120 + k)) → ¬ (a = y + 4 ∧ q = c) → g' a q = g a q) : Yx y R (plY Y k c) g' := by
  obtain ⟨x1, x2, x3, x4, x5⟩ := hx
  have ek : plY Y k c (120 + k) = Y (120 + k) + 1 := by unfold plY; rw [upN_o (by omega), upN_s]
  have ec : plY Y k c c = k % 3 := by unfold plY; rw [upN_s]
  have e75 : plY Y k c (75 + 5 * k + Y (120 + k)) = c + 1 := by unfold plY; rw [upN_o (by omega), upN_o (by omega), upN_s]
  have e144 : plY Y k c 144 = Y 144 := plY_o (by omega) (by omega) (by omega)
  have e145 : plY Y k c 145 = Y 145 := plY_o (by omega) (by omega) (by omega)
  refine ⟨⟨?_, ?_, ?_⟩, fun k' hk' => ⟨?_, fun i hi => ?_⟩, fun i hi => ?_, fun c' hc' => ?_, fun c' hc' => ?_⟩
  · rw [o y 3 (by omega) (by omega) (by omega), e144]; exact x1.1
  · rw [o y 9 (by omega) (by omega) (by omega), e145]; exact x1.2.1
  · rw [o y 10 (by omega) (by omega) (by omega), plY_o (by omega) (by omega) (by omega)]; exact x1.2.2
  · by_cases e : k' = k
    · subst e; rw [c1, ek]
    · rw [o (y + 2) k' (by omega) (by omega) (by omega), plY_o (by omega) (by omega) (by omega)]; exact (x2 k' hk').1
  · have := (h.1 k' hk').1
    by_cases e : k' = k
    · subst e
      rw [ek] at hi
      by_cases e' : i = Y (120 + k')
      · subst e'; rw [c2, e75]; rfl
      · rw [o (y + 1) _ (by omega) (by omega) (by omega), plY_o (by omega) (by omega) (by omega)]
        exact (x2 k' hk').2 i (by omega)
    · rw [plY_o (by omega) (by omega) (by omega)] at hi
      rw [o (y + 1) _ (by omega) (by omega) (by omega), plY_o (by omega) (by omega) (by omega)]
      exact (x2 k' hk').2 i hi
  · rw [e144] at hi
    have := h.q15
    rw [o (y + 3) i (by omega) (by omega) (by omega), plY_o (by omega) (by omega) (by omega)]; exact x3 i hi
  · rw [o (y + 6) c' (by omega) (by omega) (by omega), plY_o (by omega) (by omega) (by omega)]; exact x4 c' hc'
  · have h8 := x5 c' hc'
    rw [o (y + 7) c' (by omega) (by omega) (by omega), o (y + 8) c' (by omega) (by omega) (by omega), e145, plY_o (i := 45 + c') (by omega) (by omega) (by omega), o (y + 5) c' (by omega) (by omega) (by omega), plY_o (i := 15 + c') (by omega) (by omega) (by omega)]
    by_cases e : c' = c
    · subst e
      rw [c4, ec]
      exact ⟨rfl, h8.2.1, fun e => by omega, fun e => by omega, fun _ => h8.2.2.2.2 (by omega)⟩
    · have e' := plY_o (Y := Y) (k := k) (c := c) (i := c') (by omega) (by omega) e
      rw [e', o (y + 4) c' (by omega) (by omega) (by omega)]
      refine ⟨h8.1, h8.2.1, h8.2.2.1, fun e4 => ?_, h8.2.2.2.2⟩
      obtain ⟨q, hq, h9, h10⟩ := h8.2.2.2.1 e4
      have := h.2.2.2.2.2.2.2.2.2.1.1
      exact ⟨q, hq, by rw [plY_o (by omega) (by omega) (by omega)]; exact h9, h10⟩
theorem lnY_o {c i : Nat} (h1 : i ≠ 144) (h2 : i ≠ 129 + Y 144) (h6 : i ≠ c) : lnY Y c i = Y i := by
  unfold lnY
  rw [upN_o h6, upN_o h1, upN_o h2]
theorem YO.ln {c : Nat} (h : YO n R Y) (h5 : R 5 ≤ 15) (hS : ∀ c, c < R 5 → R (22 + 5 * c) < 3) (hh : Y 144 ≤ 14) (hc : c < R 5) (hcp : Y c = 5) : YO n R (lnY Y c) := by
  refine h.lnd h5 hS hh hc hcp ?_ ?_ ?_ (fun i a1 a2 a3 => lnY_o a1 a2 a3)
  · unfold lnY; rw [upN_o (by omega), upN_s]
  · unfold lnY; rw [upN_o (by omega), upN_o (by omega), upN_s]
  · unfold lnY; rw [upN_s]
theorem Yx.lnd {y c : Nat} (hx : Yx y R Y g) (h : YO n R Y) (h5 : R 5 ≤ 15) (hh : Y 144 ≤ 14) (hc : c < R 5) (hcp : Y c = 5) (hd : Y (45 + c) = 0)
    (c1 : g' y 3 = nI (Y 144 + 1)) (c2 : g' (y + 3) (Y 144) = nI c) (c4 : g' (y + 4) c = nI 3) (c5 : g' (y + 7) c = nI (Y 145))
    (o : ∀ a q, ¬ (a = y ∧ q = 3) → ¬ (a = y + 3 ∧ q = Y 144) → ¬ (a = y + 4 ∧ q = c) → ¬ (a = y + 7 ∧ q = c) → g' a q = g a q) : Yx y R (lnY Y c) g' := by
  obtain ⟨x1, x2, x3, x4, x5⟩ := hx
  have ec : lnY Y c c = 3 := by unfold lnY; rw [upN_s]
  have e129 : lnY Y c (129 + Y 144) = c := by unfold lnY; rw [upN_o (by omega), upN_o (by omega), upN_s]
  have e144 : lnY Y c 144 = Y 144 + 1 := by unfold lnY; rw [upN_o (by omega), upN_s]
  have e145 : lnY Y c 145 = Y 145 := lnY_o (by omega) (by omega) (by omega)
  refine ⟨⟨?_, ?_, ?_⟩, fun k' hk' => ⟨?_, fun i hi => ?_⟩, fun i hi => ?_, fun c' hc' => ?_, fun c' hc' => ?_⟩
  · rw [c1, e144]
  · rw [o y 9 (by omega) (by omega) (by omega) (by omega), e145]; exact x1.2.1
  · rw [o y 10 (by omega) (by omega) (by omega) (by omega), lnY_o (by omega) (by omega) (by omega)]; exact x1.2.2
  · rw [o (y + 2) k' (by omega) (by omega) (by omega) (by omega), lnY_o (by omega) (by omega) (by omega)]; exact (x2 k' hk').1
  · have := (h.1 k' hk').1
    rw [lnY_o (by omega) (by omega) (by omega)] at hi
    rw [o (y + 1) _ (by omega) (by omega) (by omega) (by omega), lnY_o (by omega) (by omega) (by omega)]
    exact (x2 k' hk').2 i hi
  · rw [e144] at hi
    by_cases e : i = Y 144
    · subst e; rw [c2, e129]
    · rw [o (y + 3) i (by omega) (by omega) (by omega) (by omega), lnY_o (by omega) (by omega) (by omega)]; exact x3 i (by omega)
  · rw [o (y + 6) c' (by omega) (by omega) (by omega) (by omega), lnY_o (by omega) (by omega) (by omega)]; exact x4 c' hc'
  · have h8 := x5 c' hc'
    rw [o (y + 8) c' (by omega) (by omega) (by omega) (by omega), e145, lnY_o (i := 45 + c') (by omega) (by omega) (by omega), o (y + 5) c' (by omega) (by omega) (by omega) (by omega), lnY_o (i := 15 + c') (by omega) (by omega) (by omega)]
    by_cases e : c' = c
    · subst e
      rw [c4, ec, c5]
      exact ⟨rfl, h8.2.1, fun _ => by rw [hd]; rfl, fun e => by omega, fun _ => h8.2.2.2.2 (by omega)⟩
    · have e' := lnY_o (Y := Y) (c := c) (i := c') (by omega) (by omega) e
      rw [e', o (y + 4) c' (by omega) (by omega) (by omega) (by omega), o (y + 7) c' (by omega) (by omega) (by omega) (by omega)]
      refine ⟨h8.1, h8.2.1, h8.2.2.1, fun e4 => ?_, h8.2.2.2.2⟩
      obtain ⟨q, hq, h9, h10⟩ := h8.2.2.2.1 e4
      have := h.2.2.2.2.2.2.2.2.2.1.1
      exact ⟨q, hq, by rw [lnY_o (by omega) (by omega) (by omega)]; exact h9, h10⟩
theorem o_open (hn : n + 1 ≤ 512) (hJ : J n r g) (x1 x2 : Int32) : OPi (d + 4) 114 246 [.int x1, .int x2] n r g j := by
  refine OPi.mk hn hJ fun p p' b kc ic T R Y σ KY IY τ hX hM hP hF hV => ?_
  have hb := hP.hb
  have hk16 := hP.2.2.2.1.1
  have hi3 := hP.2.2.2.2.2.1.1
  have h5 := hb.2
  have deny : ∀ e : Int32, Cm (d + 3) 123 [.ref 0, .int e] r g j (rkI fun y r2 g2 j2 => (y = 0 ∨ y = 1) ∧ rkI (fun v1 r1 g1 _ => v1 = nI 0 ∧ (∃ σ', XS p p' b kc ic T R Y σ' KY IY τ r1 g1) ∧ (∀ a k, 263 ≤ a → g1 a k = g a k) ∧ g1 0 7 = e ∧ g1 0 6 = g 0 6) (some (.int y)) r2 g2 j2) := fun e =>
    vX9_denied_0 ⟨bo0, bo0, rfl, ⟨σ, hX.t7 hb hk16 hi3⟩, fun a k h => uI_d (by omega), uI_s, uI_n (by decide)⟩
  have mdeny : ∀ (e : Int32) (g0 g2 : Gi) (r : Rr) (j : Gl), MS b kc ic T R Y KY IY τ g2 → (∀ a k, a < 263 → g2 a k = g0 a k) → g2 263 9 = g0 263 9 → Cm (d + 3) 143 [.ref 263, .int e] r g2 j (rkI fun y r3 g3 j3 => (y = 0 ∨ y = 1) ∧ rkI (fun v2 r2 g2 _ => v2 = nI 0 ∧ r2 = r ∧ MS b kc ic T R Y KY IY τ g2 ∧ (∀ a k, a < 263 → g2 a k = g0 a k) ∧ g2 263 11 = e ∧ g2 263 9 = g0 263 9) (some (.int y)) r3 g3 j3) := fun e g0 g2 r j hM2 hmo h9 =>
    vX10_isNot_0 ⟨bo0, bo0, rfl, rfl, hM2.ag (Ag.rf.u rfl), fun a k h => by rw [uI_o (by omega)]; exact hmo a k h, uI_s, by rw [uI_n (by decide)]; exact h9⟩
  have mv : ∀ g2, MS b kc ic T R Y KY IY τ g2 → Mv n b R Y g2 := fun g2 h => ⟨h.1, h.2.1, h.2.2.1, hP.1, hP.2.1, hP.2.2.1⟩
  rcases in_or x1 (n := R 5) (by omega) with ⟨c, hc, rfl⟩ | ho
  · have h60 := hP.2.2.1.2.2.2.2.2.2.2.2.1 c (by omega)
    have e68 : g 68 c = nI (opx (Y (60 + c))) := hX.2.2.2.1.2.2.2.1 c (by omega)
    have hb1 : b = 1 := by rcases hP.1 with h | h
                           · have := hP.2.1.1 h 5; omega
                           · exact h
    by_cases hz : Y (60 + c) = 0
    · have ex : ∃ v, (v = 1 ∨ v = 2) ∧ (¬ x2 = 0 → v = 1) ∧ (x2 = 0 → v = 2) := by
        by_cases e : x2 = 0
        · exact ⟨2, Or.inr rfl, fun h => absurd e h, fun _ => rfl⟩
        · exact ⟨1, Or.inl rfl, fun _ => rfl, fun h => absurd h e⟩
      obtain ⟨v, hv, hv1, hv2⟩ := ex
      have hyo : YO (n + 1) R (upN Y (60 + c) v) := by
        refine hP.2.2.1.up.opn h5 (fun i hi => upN_o (by omega)) (fun c' hc' => ?_)
        by_cases e : c' = c
        · subst e; rw [upN_s]; exact ⟨by omega, fun h => by omega⟩
        · rw [upN_o (by omega)]; exact hP.2.2.1.2.2.2.2.2.2.2.2.1 c' hc'
      refine ⟨nI 1, nI 0, kk kc, ic, T, upN Y (60 + c) v, kY kc KY Y, IY, τ, e0, hP.act hn hb1 hyo, ?_, fun r g j hM => ?_⟩
      · refine vX9_open_0 (X_noCrate hV (fun c' _ _ => ⟨fun _ => IX_l (by omega) ⟨fun _ => X_keepNow hX hb hk16 hi3 hP.2.2.1 fun r' g' σ' hX' hxo h6 => ?_, fun a => ?_⟩, fun a => absurd n00 a⟩) (fun o => (o c hc rfl).elim))
        · have fin : ∀ w : Int32, w = nI (opx v) → G (d + 4) 114 53 [(0, .ref 0)] [.int w, .int (nI c), .ref 68] r' g' j (rkI fun v1 r1 g1 _ => v1 = nI 1 ∧ (∃ σ', XS p p' b (kk kc) ic T R (upN Y (60 + c) v) σ' (kY kc KY Y) IY τ r1 g1) ∧ (∀ a k, 263 ≤ a → g1 a k = g a k) ∧ g1 0 7 = nI 0 ∧ g1 0 6 = g 0 6) := by
            rintro w rfl
            refine vX9_open_53 (IX_l (by omega) (vX9_granted_0 ⟨bo1, bo1, rfl, ⟨σ', ?_⟩, fun a k h => ?_, uI_s, ?_⟩))
            · refine XS.t7 (hX'.now hb (kk_le hk16) hi3 (fun a k h1 h2 h3 => uI_d (by omega)) ?_) hb (kk_le hk16) hi3
              obtain ⟨q1, q2, q3, q4, q5⟩ := hX'.2.2.2.1
              refine ⟨⟨?_, ?_, ?_⟩, fun k hk => ⟨?_, fun i hi => ?_⟩, fun i hi => ?_, fun c' hc' => ?_, fun c' hc' => ?_⟩
              · rw [uI_d (by omega), upN_o (by omega)]; exact q1.1
              · rw [uI_d (by omega), upN_o (by omega)]; exact q1.2.1
              · rw [uI_d (by omega), upN_o (by omega)]; exact q1.2.2
              · rw [uI_d (by omega), upN_o (by omega)]; exact (q2 k hk).1
              · rw [upN_o (by omega)] at hi
                rw [uI_d (by omega), upN_o (by omega)]; exact (q2 k hk).2 i hi
              · rw [upN_o (by omega)] at hi
                rw [uI_d (by omega), upN_o (by omega)]; exact q3 i hi
              · by_cases e : c' = c
                · subst e; rw [upN_s]; exact uI_s
                · rw [uI_d (by omega), upN_o (by omega)]; exact q4 c' hc'
              · have h8 := q5 c' hc'
                rw [uI_d (by omega), uI_d (by omega), uI_d (by omega), uI_d (by omega), upN_o (by omega), upN_o (by omega), upN_o (i := 45 + c') (by omega), upN_o (i := 145) (by omega)]
                refine ⟨h8.1, h8.2.1, h8.2.2.1, fun e4 => ?_, h8.2.2.2.2⟩
                obtain ⟨q, hq, h9, h10⟩ := h8.2.2.2.1 e4
                exact ⟨q, hq, by rw [upN_o (by omega)]; exact h9, h10⟩
            · rw [uI_d (by omega), uI_d (by omega)]; exact hxo a k h
            · rw [uI_d (by omega), uI_d (by omega)]; exact h6
          exact ⟨fun e => fin _ (by rw [hv2 e]; rfl), fun e => fin _ (by rw [hv1 e]; rfl)⟩
        · rw [e68, hz] at a; exact absurd n00 a
      · refine vX10_open_0 (hM.good fun g2 hM2 hmo h11 h9 => W_isCrate (mv g2 hM2) (fun c' _ _ => ⟨fun a => absurd a n10, fun _ => IX_e (q := 60 + c) (nI_add 60 c) (by omega) ⟨fun _ => M_note hM2 hk16 fun g3 hM3 hmo3 h113 h93 => ?_, fun a => ?_⟩⟩) (fun o => (o c hc rfl).elim))
        · have fin : ∀ w : Int32, w = nI v → G (d + 4) 246 57 [] [.int w, .int (nI 60 + nI c), .ref 268] r g3 j (rkI fun v2 r2 g2 _ => v2 = nI 1 ∧ r2 = r ∧ MS b (kk kc) ic T R (upN Y (60 + c) v) (kY kc KY Y) IY τ g2 ∧ (∀ a k, a < 263 → g2 a k = g a k) ∧ g2 263 11 = nI 0 ∧ g2 263 9 = g 263 9) := by
            rintro w rfl
            refine vX10_open_57 (IX_e (q := 60 + c) (nI_add 60 c) (by omega) ⟨bo1, rfl, rfl, hM3.gen (fun a k h => uI_d (by omega)) (Ms.u hM3.2.1 _ _) (hM3.2.2.2.1.eq (fun k => uI_d (by omega)) (uI_d (by omega))) (hM3.2.2.2.2.1.eq (fun k => uI_d (by omega)) (uI_d (by omega))), fun a k h => ?_, ?_, ?_⟩)
            · rw [uI_d (by omega), hmo3 a k h]; exact hmo a k h
            · rw [uI_d (by omega), h113]; exact h11
            · rw [uI_d (by omega), h93]; exact h9
          exact ⟨fun e => fin _ (by rw [hv2 e]), fun e => fin _ (by rw [hv1 e])⟩
        · rw [hM2.2.1 (60 + c) (by omega), hz] at a; exact absurd (by rw [n00]; exact Int32.le_refl 0) a
    · refine ⟨nI 0, nI 5, kc, ic, T, Y, KY, IY, τ, e5, hP.up hn, ?_, fun r g j hM => ?_⟩
      · refine vX9_open_0 (X_noCrate hV (fun c' _ _ => ⟨fun _ => IX_l (by omega) ⟨fun a => ?_, fun _ => deny _⟩, fun a => absurd n00 a⟩) (fun o => (o c hc rfl).elim))
        rw [e68] at a
        have hopx : opx (Y (60 + c)) = 1 ∨ opx (Y (60 + c)) = 2 := by
          have : Y (60 + c) = 1 ∨ Y (60 + c) = 2 := by omega
          rcases this with e | e <;> rw [e]
          · exact Or.inr rfl
          · exact Or.inl rfl
        rw [nI_z (by omega)] at a
        omega
      · refine vX10_open_0 (hM.good fun g2 hM2 hmo h11 h9 => W_isCrate (mv g2 hM2) (fun c' _ _ => ⟨fun a => absurd a n10, fun _ => IX_e (q := 60 + c) (nI_add 60 c) (by omega) ⟨fun a => ?_, fun _ => mdeny _ g g2 _ _ hM2 hmo h9⟩⟩) (fun o => (o c hc rfl).elim))
        rw [hM2.2.1 (60 + c) (by omega), ← nI_0] at a
        have := le_n (by omega) (by decide) a
        omega
  · refine ⟨nI 0, nI 1, kc, ic, T, Y, KY, IY, τ, e1, hP.up hn, ?_, fun r g j hM => ?_⟩
    · exact vX9_open_0 (X_noCrate hV (fun c hc e => (ho c hc e).elim) (fun o => ⟨fun a => absurd a n10, fun _ => deny _⟩))
    · exact vX10_open_0 (hM.good fun g2 hM2 hmo h11 h9 => W_isCrate (mv g2 hM2) (fun c hc e => (ho c hc e).elim) (fun o => ⟨fun _ => mdeny _ g g2 _ _ hM2 hmo h9, fun a => absurd n00 a⟩))
/-- the class's hoist -/
theorem X_hoist {s f t c eff : Nat} (hV : Vw n p b R Y r g) (hs : s < R 4) (hf : f < 3) (ht : t ≤ 3) (hft : f ≠ t) (hh : 1 ≤ Y (120 + (3 * s + f))) (hc : Y (75 + 5 * (3 * s + f) + (Y (120 + (3 * s + f)) - 1)) = c + 1) (he : eff = if R (21 + 5 * c) = 3 then 2 else 1)
    (h : ∀ g' brk, brk = (if R (21 + 5 * c) = 2 ∧ 2 ≤ Y (15 + c) + 1 then 1 else 0) → (t < 3 → Yx 62 R (plY (tkY Y (3 * s + f) c eff brk) (3 * s + t) c) g') → (t = 3 → brk = 1 → Yx 62 R (tkY Y (3 * s + f) c eff brk) g') → (t = 3 → brk = 0 → Yx 62 R (lnY (tkY Y (3 * s + f) c eff brk) c) g') → (∀ a k, ¬ (62 ≤ a ∧ a < 71) → g' a k = g a k) → K (nI c) r g' j) : Cm (d + 1) 69 [.ref 62, .ref p, .int (nI s), .int (nI f), .int (nI t)] r g j (rkI K) := by
  have h4 := hV.b4
  have h5 := hV.b5
  have yo := hV.yo
  have hS : ∀ c, c < R 5 → R (22 + 5 * c) < 3 := fun c hc => by have := (hV.ro.2.2.2.2.1 c hc).2.1; omega
  have hk : 3 * s + f < 9 := by omega
  have hk1 := yo.1 _ hk
  have hc1 := hk1.2.2 (Y (120 + (3 * s + f)) - 1) (by omega)
  rw [hc, Nat.add_sub_cancel] at hc1
  have hx2 := hV.yx.2.1 _ hk
  have e64 : g 64 (3 * s + f) = nI (Y (120 + (3 * s + f))) := hx2.1
  have e63 : g 63 (5 * (3 * s + f) + (Y (120 + (3 * s + f)) - 1)) = nI c := by
    have := hx2.2 (Y (120 + (3 * s + f)) - 1) (by omega)
    rw [hc, Nat.add_sub_cancel] at this
    exact this
  have hcx : g 67 c = nI (Y (15 + c)) := (hV.yx.2.2.2.2 c (by omega)).2.1
  have hcp := hV.px.2.2.1 c (by omega)
  have hro := hV.ro.2.2.2.2.1 c (by omega)
  have hy8 := yo.2.2.2.2.2.2.2.1 c (by omega)
  have hnn := hV.nn
  have h146 := yo.2.2.2.2.2.2.2.2.2.2.2.1
  have ek : nI s * nI 3 + nI f = nI (3 * s + f) := by rw [pk_mul, nI_add]; congr 1; omega
  refine vX8_hoist_0 (IX_e ek hk (IX_e ek hk (IX_e ek hk (IX_e (q := 5 * (3 * s + f) + (Y (120 + (3 * s + f)) - 1)) ?_ (by omega) (IX_e e63 (by omega) (IX_e e63 (by omega) (crate_f hV.hp e63 (by omega) (vX0_effort_0 (OB_i (SH_cr hV.hp (by omega)) ?_)))))))))
  · rw [ek, uI_s, e64, pk_sub (by omega), pk_mul, nI_add]; congr 1; omega
  rw [e64, pk_sub (by omega), e63, hcx, nI_add, show g 62 10 = _ from hV.yx.1.2.2]
  have hpp := hV.hp
  have ekind : ∀ v w : Int32, (uI (uI g 64 (3 * s + f) v) 67 c w) (p + 13 + c) 0 = nI (R (21 + 5 * c)) := fun v w => by
    rw [uI_o (by omega), uI_o (by omega)]; exact hcp.1
  rw [ekind]
  have main : Cm d 1 [] r g j (fun _ _ _ _ => True) ∨ True := Or.inr trivial
  have yo1 : YO (n + 1) R (tkY Y (3 * s + f) c eff (if R (21 + 5 * c) = 2 ∧ 2 ≤ Y (15 + c) + 1 then 1 else 0)) := yo.tk h5 hS hk hh hc (by rw [he]; split <;> omega)
  generalize hbrk : (if R (21 + 5 * c) = 2 ∧ 2 ≤ Y (15 + c) + 1 then 1 else 0) = brk at yo1
  have tc : tkY Y (3 * s + f) c eff brk c = 5 := by unfold tkY; rw [upN_s]
  have t45 : tkY Y (3 * s + f) c eff brk (45 + c) = 0 := by rw [tkY_o (by omega) (by omega) (by omega) (by omega) (by omega) (by omega)]; exact yo.2.2.2.2.2.2.2.2.2.2.2.2 c (by omega) (by omega)
  have t145 : tkY Y (3 * s + f) c eff brk 145 = Y 145 := tkY_o (by omega) (by omega) (by omega) (by omega) (by omega) (by omega)
  have t144 : tkY Y (3 * s + f) c eff brk 144 = Y 144 := tkY_o (by omega) (by omega) (by omega) (by omega) (by omega) (by omega)
  have go : ∀ ef : Int32, ef = nI eff → ∀ g1, g1 = uI (uI (uI g 64 (3 * s + f) (nI (Y (120 + (3 * s + f)) - 1))) 67 c (nI (Y (15 + c) + 1))) 62 10 (nI (Y 146) + ef) → 
      ((nI 3 ≤ nI t → Cm d 62 [.ref 62, .ref p, .int (nI c)] r g1 j (rkI fun y19 r16 g17 j18 => (y19 = 0 → Cm d 70 [.ref 62, .int (nI c)] r16 g17 j18 (rkV fun r20 g21 j22 => rkI K (some (.int (nI c))) r20 g21 j22)) ∧ (¬ y19 = 0 → IX (nI c) 15 fun q23 => rkI K (some (.int (nI c))) r16 (uI g17 66 q23 (nI 5)) j18))) ∧ (¬ nI 3 ≤ nI t → Cm d 61 [.ref 62, .int (nI s), .int (nI t), .int (nI c)] r g1 j (rkV fun r24 g25 j26 => IX (nI c) 15 fun q27 => rkI K (some (.int (nI c))) r24 (uI g25 66 q27 (nI t)) j26))) := by
    rintro ef rfl g1 hg1
    have hx1 : Yx 62 R (tkY Y (3 * s + f) c eff brk) (uI g1 66 c (nI 5)) := by
      refine hV.yx.take yo h5 hk hh hc ?_ ?_ ?_ uI_s (fun a q a1 a2 a3 a4 => ?_)
      · show (uI g1 66 c (nI 5)) 64 _ = _
        rw [hg1, uI_o (by decide), uI_o (by decide), uI_o (by decide), uI_s]
      · show (uI g1 66 c (nI 5)) 67 _ = _
        rw [hg1, uI_o (by decide), uI_o (by decide), uI_s]
      · rw [hg1, uI_o (by decide), uI_s, nI_add]
      · rw [hg1, uI_d a4, uI_d a3, uI_d a2, uI_d a1]
    have hfr : ∀ a k, ¬ (62 ≤ a ∧ a < 71) → g1 a k = g a k := fun a k ha => by rw [hg1, uI_d (by omega), uI_d (by omega), uI_d (by omega)]
    have g1_67 : g1 67 c = nI (Y (15 + c) + 1) := by rw [hg1, uI_o (by decide), uI_s]
    have g1_0 : g1 (p + 13 + c) 0 = nI (R (21 + 5 * c)) := by rw [hfr _ _ (by omega)]; exact hcp.1
    refine ⟨fun a3 => ?_, fun a3 => ?_⟩
    · have t3 : t = 3 := by have := le_n (by decide) (by omega) a3; omega
      have hgone : brk = 1 → IX (nI c) 15 fun q23 => rkI K (some (.int (nI c))) r (uI g1 66 q23 (nI 5)) j := fun hb => IX_l (by omega) (h _ brk hbrk.symm (fun e => by omega) (fun _ _ => hx1) (fun _ e => by omega) (fun a k ha => by rw [uI_d (by omega)]; exact hfr a k ha))
      have hland : brk = 0 → Cm d 70 [.ref 62, .int (nI c)] r g1 j (rkV fun r20 g21 j22 => rkI K (some (.int (nI c))) r20 g21 j22) := fun hb => by
        have hq := yo1.qroom h5 (show c < R 5 by omega) tc
        rw [t144] at hq
        have e623 : g1 62 3 = nI (Y 144) := by rw [hg1, uI_d (by omega), uI_d (by omega), uI_d (by omega)]; exact hV.yx.1.1
        have e629 : g1 62 9 = nI (Y 145) := by rw [hg1, uI_d (by omega), uI_d (by omega), uI_d (by omega)]; exact hV.yx.1.2.1
        refine vX8_land_0 ⟨fun a => ?_, fun _ => IX_e e623 (by omega) (IX_l (by omega) (IX_l (by omega) (h _ brk hbrk.symm (fun e => by omega) (fun _ e => by omega) (fun _ _ => ?_) (fun a k ha => ?_))))⟩
        · rw [e623] at a
          have := le_n (by decide) (by omega) a; omega
        · refine hx1.lnd yo1 h5 (by rw [t144]; exact hq) (by omega) tc t45 ?_ ?_ ?_ ?_ (fun a q a1 a2 a3 a4 => ?_)
          · rw [uI_d (by omega), uI_d (by omega), uI_s, e623, nI_add, t144]
          · show _ = nI c
            rw [t144, uI_d (by omega), uI_d (by omega), uI_d (by omega), uI_s]
          · show _ = nI 3
            rw [uI_d (by omega), uI_s]
          · show _ = _
            rw [uI_s, e629, t145]
          · rw [t144] at a2
            rw [uI_d a4, uI_d a3, uI_d a1, uI_d a2, uI_d a3]
        · rw [uI_d (by omega), uI_d (by omega), uI_d (by omega), uI_d (by omega)]; exact hfr a k ha
      refine vX8_isBroken_0 (crate_f hV.hp rfl (by omega) ⟨fun a => IX_l (by omega) ⟨fun a2 => ⟨bo0, ⟨fun _ => hland ?_, fun a => absurd n00 a⟩⟩, fun a2 => ⟨bo1, ⟨fun a => absurd a n10, fun _ => hgone ?_⟩⟩⟩, fun a => ⟨bo0, ⟨fun _ => hland ?_, fun a => absurd n00 a⟩⟩⟩)
      · rw [g1_67] at a2
        have := lt_n (by omega) (by decide) a2
        rw [← hbrk, if_neg (by omega)]
      · rw [g1_0, nI_eq (by omega) (by decide)] at a
        rw [g1_67] at a2
        have h2 : 2 ≤ Y (15 + c) + 1 := by
          rcases Nat.lt_or_ge (Y (15 + c) + 1) 2 with h | h
          · exact absurd (nI_lt h (by decide)) a2
          · exact h
        rw [← hbrk, if_pos ⟨a, h2⟩]
      · rw [g1_0, nI_eq (by omega) (by decide)] at a
        rw [← hbrk, if_neg (fun h => a h.1)]
    · have t3 : t < 3 := by
        rcases Nat.lt_or_ge t 3 with h | h
        · exact h
        · exact absurd (nI_le h (by omega)) a3
      have hk2 : 3 * s + t < 9 := by omega
      have hr := yo1.room hV.ro.2.2.2.2.2.2.1 hk2 (show c < R 5 by omega) (by omega) tc
      have t120 : tkY Y (3 * s + f) c eff brk (120 + (3 * s + t)) = Y (120 + (3 * s + t)) := tkY_o (by omega) (by omega) (by omega) (by omega) (by omega) (by omega)
      rw [t120] at hr
      have e2 : g1 64 (3 * s + t) = nI (Y (120 + (3 * s + t))) := by rw [hg1, uI_d (by omega), uI_d (by omega), uI_d (by omega)]; exact (hV.yx.2.1 _ hk2).1
      have ek2 : nI s * nI 3 + nI t = nI (3 * s + t) := by rw [pk_mul, nI_add]; congr 1; omega
      refine vX8_pile_0 (IX_e ek2 hk2 ⟨fun a => ?_, fun _ => IX_e ek2 hk2 (IX_e (q := 5 * (3 * s + t) + Y (120 + (3 * s + t))) (by rw [ek2, e2, pk_mul, nI_add]; congr 1; omega) (by omega) (IX_e ek2 hk2 (IX_e ek2 hk2 (IX_l (by omega) (h _ brk hbrk.symm (fun _ => ?_) (fun e => by omega) (fun e => by omega) (fun a k ha => ?_))))))⟩)
      · rw [e2] at a
        have := le_n (by decide) (by omega) a; omega
      · refine hx1.pil yo1 h5 hk2 (by rw [t120]; exact hr) (by omega) tc ?_ ?_ ?_ (fun a q a1 a2 a3 => ?_)
        · show _ = _
          rw [t120, uI_d (by omega), uI_s, e2, nI_add]
        · show _ = _
          rw [t120, uI_d (by omega), uI_d (by omega), uI_s]
        · show _ = _
          rw [uI_s, show (3 * s + t) % 3 = t by omega]
        · rw [t120] at a2
          rw [uI_d a3, uI_d a1, uI_d a2, uI_d a3]
      · rw [uI_d (by omega), uI_d (by omega), uI_d (by omega)]; exact hfr a k ha
  refine ⟨fun a => ?_, fun a => ?_⟩
  · rw [nI_eq (by omega) (by decide)] at a
    exact go (nI 2) (by rw [he, if_pos a]) _ rfl
  · rw [nI_eq (by omega) (by decide)] at a
    exact go (nI 1) (by rw [he, if_neg a]) _ rfl
end
