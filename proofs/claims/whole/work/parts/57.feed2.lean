/-! feed -/
def fdW (x1 x2 x3 x4 x5 : Int32) (k : Nat) : Int32 := if k < 4 then x1 else if k < 8 then x2 else if k < 12 then x3 else if k < 16 then x4 else x5
def fdB (x1 x2 x3 x4 x5 : Int32) (k : Nat) : Nat := bY (fdW x1 x2 x3 x4 x5 k >>> (nI (24 - 8 * (k % 4)) &&& 31))
def fdT (T : Nat) (τ : Nat → Nat) (x1 x2 x3 x4 x5 : Int32) : Nat → Nat → Nat
  | 0 => τ
  | k + 1 => upN (fdT T τ x1 x2 x3 x4 x5 k) (T + k) (fdB x1 x2 x3 x4 x5 k)
section
variable {n d T : Nat} {τ : Nat → Nat} {r : Rr} {g : Gi} {j : Gl} {x x1 x2 x3 x4 x5 : Int32}
theorem fdT_lt (h : ∀ i, i < T → τ i < 256) : ∀ k i, i < T + k → fdT T τ x1 x2 x3 x4 x5 k i < 256 := by
  intro k
  induction k with
  | zero => intro i hi; exact h i hi
  | succ k ih =>
    intro i hi
    show upN (fdT T τ x1 x2 x3 x4 x5 k) (T + k) (fdB x1 x2 x3 x4 x5 k) i < 256
    by_cases e : i = T + k
    · rw [e, upN_s]; exact bY_lt _
    · rw [upN_o e]; exact ih i (by omega)
/-- one byte -/
theorem X_w1 {K : Rr → Gi → Gl → Prop} {s s' : Int32} {k : Nat} (hT : T + k < 1000) (hs : ¬ s < 0) (es : s + -(nI 8) = s') (hb : fdB x1 x2 x3 x4 x5 k = bY (x >>> (s &&& 31))) (h0 : TpX (T + k) (fdT T τ x1 x2 x3 x4 x5 k) g)
    (h : ∀ g', TpX (T + (k + 1)) (fdT T τ x1 x2 x3 x4 x5 (k + 1)) g' → (∀ a q, a ≠ 1 → ¬ (a = 0 ∧ q = 1) → g' a q = g a q) → G d 133 3 [(0, .ref 0), (1, .int x), (2, .int s')] [] r g' j (rkV K)) : G d 133 3 [(0, .ref 0), (1, .int x), (2, .int s)] [] r g j (rkV K) := by
  obtain ⟨h1, h2⟩ := h0
  refine vX9_write_3 ⟨fun a => absurd a hs, fun _ => ⟨fun a => ?_, fun _ => IX_e h1 hT ?_⟩⟩
  · rw [h1] at a; exact absurd a (nI_ge hT (by decide))
  · rw [es, h1, nI_add]
    refine h _ ⟨uI_s, fun i hi => ?_⟩ (fun a q h1 h2 => by rw [uI_d h2, uI_o h1])
    rw [uI_o (by decide)]
    show _ = (nI (upN (fdT T τ x1 x2 x3 x4 x5 k) (T + k) (fdB x1 x2 x3 x4 x5 k) i)).toInt8.toInt32
    by_cases e : i = T + k
    · rw [e, uI_s, upN_s, b8_b8, hb]; exact bY_x _
    · rw [uI_n e, upN_o e]; exact h2 i (by omega)
theorem X_w4 {K : Rr → Gi → Gl → Prop} {k : Nat} (hT : T + k + 4 ≤ 1000) (hb : ∀ i, i < 4 → fdB x1 x2 x3 x4 x5 (k + i) = bY (x >>> (nI (24 - 8 * i) &&& 31))) (h0 : TpX (T + k) (fdT T τ x1 x2 x3 x4 x5 k) g)
    (h : ∀ g', TpX (T + (k + 4)) (fdT T τ x1 x2 x3 x4 x5 (k + 4)) g' → (∀ a q, a ≠ 1 → ¬ (a = 0 ∧ q = 1) → g' a q = g a q) → K r g' j) : Cm d 133 [.ref 0, .int x] r g j (rkV K) := by
  refine vX9_write_0 (X_w1 (s' := nI 16) (k := k) (by omega) (by decide +kernel) (by decide +kernel) (hb 0 (by decide)) h0 fun g1 t1 o1 => ?_)
  refine X_w1 (s' := nI 8) (k := k + 1) (by omega) (by decide +kernel) (by decide +kernel) (hb 1 (by decide)) t1 fun g2 t2 o2 => ?_
  refine X_w1 (s' := nI 0) (k := k + 2) (by omega) (by decide +kernel) (by decide +kernel) (hb 2 (by decide)) t2 fun g3 t3 o3 => ?_
  refine X_w1 (s' := -(nI 8)) (k := k + 3) (by omega) (by decide +kernel) (by decide +kernel) (hb 3 (by decide)) t3 fun g4 t4 o4 => ?_
  exact vX9_write_3 ⟨fun _ => h g4 t4 (fun a q h1 h2 => by rw [o4 a q h1 h2, o3 a q h1 h2, o2 a q h1 h2, o1 a q h1 h2]), fun a => absurd (by decide +kernel) a⟩
theorem M_fd {K : Int32 → Rr → Gi → Gl → Prop} (hT : T + 20 ≤ 1000) (h : ∀ g', TpM (T + 20) (fdT T τ x1 x2 x3 x4 x5 20) g' → (∀ a q, a ≠ 264 → ¬ (a = 263 ∧ q = 2) → g' a q = g a q) → K (nI (T + 20)) r g' j) : ∀ q k gg, k + q = 20 → TpM (T + k) (fdT T τ x1 x2 x3 x4 x5 k) gg → (∀ a q, a ≠ 264 → ¬ (a = 263 ∧ q = 2) → gg a q = g a q) → G d 148 23 [(0, .ref 263), (1, .int x1), (2, .int x2), (3, .int x3), (4, .int x4), (5, .int x5), (6, .int (nI k))] [] r gg j (rkI K) := by
  have hsh : ∀ k, k < 20 → nI 24 - nI 8 * (nI k - nI k / nI 4 * nI 4) = nI (24 - 8 * (k % 4)) := by decide +kernel
  intro q
  induction q with
  | zero =>
    intro k gg hk ht ho
    have : k = 20 := by omega
    subst this
    refine vX10_feed_23 ⟨fun _ => ?_, fun a => absurd (Int32.le_refl _) a⟩
    show K (gg 263 2) r gg j
    rw [ht.1]; exact h gg ht ho
  | succ q ih =>
    intro k gg hk ht ho
    obtain ⟨h1, h2⟩ := ht
    have go : ∀ w : Int32, w = fdW x1 x2 x3 x4 x5 k → G d 148 76 [(0, .ref 263), (1, .int x1), (2, .int x2), (3, .int x3), (4, .int x4), (5, .int x5), (6, .int (nI k))] [.int w] r gg j (rkI K) := by
      rintro w rfl
      refine vX10_feed_76 ⟨by decide +kernel, IX_e h1 (by omega) ?_⟩
      rw [hsh k (by omega), h1, nI_add, nI_add, bY_a]
      refine ih (k + 1) _ (by omega) ⟨uI_s, fun i hi => ?_⟩ (fun a q h1 h2 => by rw [uI_d h2, uI_o h1]; exact ho a q h1 h2)
      rw [uI_o (by decide)]
      show _ = nI (upN (fdT T τ x1 x2 x3 x4 x5 k) (T + k) (fdB x1 x2 x3 x4 x5 k) i)
      by_cases e : i = T + k
      · rw [e, uI_s, upN_s]; rfl
      · rw [uI_n e, upN_o e]; exact h2 i (by omega)
    have le : ∀ m, m < 100 → nI m ≤ nI k → m ≤ k := fun m hm a => le_n (by omega) (by omega) a
    have nle : ∀ m, m < 100 → ¬ nI m ≤ nI k → k < m := fun m hm a => by
      rcases Nat.lt_or_ge k m with h | h
      · exact h
      · exact absurd (nI_le h (by omega)) a
    refine vX10_feed_23 ⟨fun a => ?_, fun _ => ⟨fun a => ⟨fun a2 => ⟨fun a3 => ⟨fun a4 => go _ ?_, fun a4 => go _ ?_⟩, fun a3 => go _ ?_⟩, fun a2 => go _ ?_⟩, fun a => go _ ?_⟩⟩
    · have := le 20 (by decide) a; omega
    · have := le 16 (by decide) a4
      unfold fdW; rw [if_neg (by omega), if_neg (by omega), if_neg (by omega), if_neg (by omega)]
    · have := le 12 (by decide) a3
      have := nle 16 (by decide) a4
      unfold fdW; rw [if_neg (by omega), if_neg (by omega), if_neg (by omega), if_pos (by omega)]
    · have := le 8 (by decide) a2
      have := nle 12 (by decide) a3
      unfold fdW; rw [if_neg (by omega), if_neg (by omega), if_pos (by omega)]
    · have := le 4 (by decide) a
      have := nle 8 (by decide) a2
      unfold fdW; rw [if_neg (by omega), if_pos (by omega)]
    · have := nle 4 (by decide) a
      unfold fdW; rw [if_pos (by omega)]
theorem o_feed (hn : n + 1 ≤ 512) (hJ : J n r g) (x1 x2 x3 x4 x5 : Int32) : OPi (d + 1) 73 148 [.int x1, .int x2, .int x3, .int x4, .int x5] n r g j := by
  obtain ⟨p, p', b, kc, ic, T, R, Y, σ, KY, IY, τ, hj⟩ := id hJ
  obtain ⟨hX, hM, hP⟩ := hj.xs
  have hT := hP.2.2.2.2.2.2.2.1.1
  have e1 : g 0 1 = nI T := hX.2.2.2.2.2.2.2.2.1
  have e2 : g 263 2 = nI T := hM.2.2.2.2.2.1
  by_cases h20 : T + 20 ≤ 1000
  · have xle : g 0 1 + nI 20 ≤ nI 1000 := by rw [e1, nI_add]; exact nI_le h20 (by decide)
    refine vX9_feed_0 ⟨fun _ => ?_, fun a => absurd xle a⟩
    refine X_w4 (x1 := x1) (x2 := x2) (x3 := x3) (x4 := x4) (x5 := x5) (τ := τ) (T := T) (k := 0) (by omega) (fun i hi => ?_) hX.2.2.2.2.2.2.2.2 fun g1 t1 o1 => ?_
    · have : i = 0 ∨ i = 1 ∨ i = 2 ∨ i = 3 := by omega
      rcases this with rfl | rfl | rfl | rfl <;> rfl
    refine X_w4 (x1 := x1) (x2 := x2) (x3 := x3) (x4 := x4) (x5 := x5) (k := 4) (by omega) (fun i hi => ?_) t1 fun g2 t2 o2 => ?_
    · have : i = 0 ∨ i = 1 ∨ i = 2 ∨ i = 3 := by omega
      rcases this with rfl | rfl | rfl | rfl <;> rfl
    refine X_w4 (x1 := x1) (x2 := x2) (x3 := x3) (x4 := x4) (x5 := x5) (k := 8) (by omega) (fun i hi => ?_) t2 fun g3 t3 o3 => ?_
    · have : i = 0 ∨ i = 1 ∨ i = 2 ∨ i = 3 := by omega
      rcases this with rfl | rfl | rfl | rfl <;> rfl
    refine X_w4 (x1 := x1) (x2 := x2) (x3 := x3) (x4 := x4) (x5 := x5) (k := 12) (by omega) (fun i hi => ?_) t3 fun g4 t4 o4 => ?_
    · have : i = 0 ∨ i = 1 ∨ i = 2 ∨ i = 3 := by omega
      rcases this with rfl | rfl | rfl | rfl <;> rfl
    refine X_w4 (x1 := x1) (x2 := x2) (x3 := x3) (x4 := x4) (x5 := x5) (k := 16) (by omega) (fun i hi => ?_) t4 fun g5 t5 o5 => ?_
    · have : i = 0 ∨ i = 1 ∨ i = 2 ∨ i = 3 := by omega
      rcases this with rfl | rfl | rfl | rfl <;> rfl
    have ox : ∀ a q, a ≠ 1 → ¬ (a = 0 ∧ q = 1) → g5 a q = g a q := fun a q h1 h2 => by rw [o5 a q h1 h2, o4 a q h1 h2, o3 a q h1 h2, o2 a q h1 h2, o1 a q h1 h2]
    have e25 : g5 263 2 = nI T := by rw [ox 263 2 (by decide) (by omega)]; exact e2
    refine vX10_feed_0 ⟨fun _ => ?_, fun a => absurd (by rw [e25, nI_add]; exact nI_le h20 (by decide)) a⟩
    refine M_fd (τ := τ) (T := T) (g := uI g5 263 0 (nI 0)) h20 (fun g6 t6 o6 => ⟨t5.1, ?_⟩) 20 0 _ (by decide) ⟨by rw [uI_n (by decide)]; exact e25, fun i hi => by rw [uI_o (by decide), ox 264 i (by decide) (by omega)]; exact hM.2.2.2.2.2.2 i hi⟩ (fun _ _ _ _ => rfl)
    have of : ∀ a q, a ≠ 1 → a ≠ 264 → ¬ (a = 0 ∧ q = 1) → ¬ (a = 263 ∧ (q = 2 ∨ q = 0)) → g6 a q = g a q := fun a q h1 h2 h3 h4 => by rw [o6 a q h2 (by omega), uI_d (by omega), ox a q h1 h3]
    obtain ⟨a1, a2, a3, a4, a5, a6, a7, a8, -⟩ := hX
    obtain ⟨b1, b2, b3, b4, b5, -⟩ := hM
    have hb := hP.hb
    have hP' : PS (n + 1) b kc ic (T + 20) R Y KY IY (fdT T τ x1 x2 x3 x4 x5 20) := by
      obtain ⟨p1, p2, p3, p4, p5, p6, p7, p8, p10, p11⟩ := hP.up hn
      exact ⟨p1, p2, p3, p4, p5, p6, p7, ⟨h20, fdT_lt p8.2 20⟩, hn, p11⟩
    refine J_mk (p := p) (p' := p') (σ := σ) ⟨a1, a2, a3.eq hb (fun a k h1 h2 => ?_), a4.eq (fun a k h1 h2 => of a k (by omega) (by omega) (by omega) (by omega)), ?_, fun hb1 => ⟨fun a c x y => ?_, ?_, fun i v e => ?_⟩, a7.eq hP.2.2.2.1.1 (fun a k h1 h2 => of a k (by omega) (by omega) (by omega) (by omega)) (of 0 10 (by decide) (by decide) (by decide) (by decide)), a8.eq hP.2.2.2.2.2.1.1 (fun a k h1 h2 => of a k (by omega) (by omega) (by omega) (by omega)) (of 0 12 (by decide) (by decide) (by decide) (by decide)), ?_, fun i hi => ?_⟩ ⟨fun k hk => ?_, fun k hk => ?_, ?_, b4.eq (fun k => of 269 k (by decide) (by decide) (by omega) (by omega)) (of 263 20 (by decide) (by decide) (by omega) (by omega)), b5.eq (fun k => of 270 k (by decide) (by decide) (by omega) (by omega)) (of 263 21 (by decide) (by decide) (by omega) (by omega)), t6⟩ hP' ⟨?_, ?_, fun h => ?_⟩
    · have := hj.1.hp
      exact of a k (by omega) (by omega) (by omega) (by omega)
    · rw [of 0 5 (by decide) (by decide) (by decide) (by decide)]; exact a5
    · rw [of (83 + a) c (by omega) (by omega) (by omega) (by omega)]; exact (a6 hb1).1 a c x y
    · rw [of 88 1 (by decide) (by decide) (by decide) (by decide)]; exact (a6 hb1).2.1
    · rw [of 89 i (by decide) (by decide) (by omega) (by omega)]; exact (a6 hb1).2.2 i v e
    · rw [o6 0 1 (by decide) (by decide), uI_o (by decide)]; exact t5.1
    · rw [o6 1 i (by decide) (by omega), uI_o (by decide)]; exact t5.2 i hi
    · rw [of 266 k (by decide) (by decide) (by omega) (by omega)]; exact b1 k hk
    · rw [of 268 k (by decide) (by decide) (by omega) (by omega)]; exact b2 k hk
    · rw [of 263 14 (by decide) (by decide) (by decide) (by decide)]; exact b3
    · rw [of 0 6 (by decide) (by decide) (by decide) (by decide), of 263 9 (by decide) (by decide) (by decide) (by decide)]; exact hJ.ft.1
    · rw [of 0 7 (by decide) (by decide) (by decide) (by decide), of 263 11 (by decide) (by decide) (by decide) (by decide)]; exact hJ.ft.2.1
    · rw [of 0 7 (by decide) (by decide) (by decide) (by decide)] at h
      rw [of 58 17 (by decide) (by decide) (by decide) (by decide), of 263 10 (by decide) (by decide) (by decide) (by decide)]; exact hJ.ft.2.2 h
  · have xle : ¬ g 0 1 + nI 20 ≤ nI 1000 := by rw [e1, nI_add]; exact nI_ge (by omega) (by omega)
    refine vX9_feed_0 ⟨fun a => absurd a xle, fun _ => vX10_feed_0 ⟨fun a => ?_, fun _ => ⟨rfl, J_t0 hn hJ⟩⟩⟩
    rw [e2, nI_add] at a
    exact absurd a (nI_ge (by omega) (by omega))
end
