/-! THE STATE: the class's half (XS), the reference's half (MS), what holds of the numbers (PS); acts go from state to state -/
def KpX (kc : Nat) (R σ : Nat → Nat) (KY : Nat → Nat → Nat) (r : Rr) (g : Gi) : Prop := (∀ i, i < 16 → r 71 i = some (92 + 9 * σ i) ∧ σ i < 16) ∧ (∀ i i', i < 16 → i' < 16 → σ i = σ i' → i = i') ∧ g 0 10 = nI kc ∧ ∀ i, i < kc → Yx (92 + 9 * σ i) R (KY i) g
def IpX (ic : Nat) (R : Nat → Nat) (IY : Nat → Nat → Nat) (g : Gi) : Prop := g 0 12 = nI ic ∧ ∀ i, i < ic → Yx (236 + 9 * i) R (IY i) g
def TpX (T : Nat) (τ : Nat → Nat) (g : Gi) : Prop := g 0 1 = nI T ∧ ∀ i, i < T → g 1 i = (nI (τ i)).toInt8.toInt32
def XS (p p' b kc ic T : Nat) (R Y σ : Nat → Nat) (KY IY : Nat → Nat → Nat) (τ : Nat → Nat) (r : Rr) (g : Gi) : Prop :=
  r 0 2 = some p ∧ Pp p p' r ∧ Px p R g ∧ Yx 62 R Y g ∧ g 0 5 = nI b ∧ Der b R g ∧ KpX kc R σ KY r g ∧ IpX ic R IY g ∧ TpX T τ g
def KpM (kc : Nat) (KY : Nat → Nat → Nat) (g : Gi) : Prop := g 263 20 = nI kc ∧ ∀ i, i < kc → ∀ k, k < 246 → g 269 (246 * i + k) = nI (KY i k)
def IpM (ic : Nat) (IY : Nat → Nat → Nat) (g : Gi) : Prop := g 263 21 = nI ic ∧ ∀ i, i < ic → ∀ k, k < 246 → g 270 (246 * i + k) = nI (IY i k)
def TpM (T : Nat) (τ : Nat → Nat) (g : Gi) : Prop := g 263 2 = nI T ∧ ∀ i, i < T → g 264 i = nI (τ i)
def MS (b kc ic T : Nat) (R Y : Nat → Nat) (KY IY : Nat → Nat → Nat) (τ : Nat → Nat) (g : Gi) : Prop :=
  (∀ k, k < 348 → g 266 k = nI (R k)) ∧ (∀ k, k < 246 → g 268 k = nI (Y k)) ∧ g 263 14 = nI b ∧ KpM kc KY g ∧ IpM ic IY g ∧ TpM T τ g
def PS (n b kc ic T : Nat) (R Y : Nat → Nat) (KY IY : Nat → Nat → Nat) (τ : Nat → Nat) : Prop :=
  (b = 0 ∨ b = 1) ∧ RO b R ∧ YO n R Y ∧ (kc ≤ 16 ∧ (b = 0 → kc = 0)) ∧ (∀ i, i < kc → YO n R (KY i)) ∧ (ic ≤ 3 ∧ (b = 0 → ic = 0)) ∧ (∀ i, i < ic → YO n R (IY i)) ∧ (T ≤ 1000 ∧ ∀ i, i < T → τ i < 256) ∧ n ≤ 512 ∧ (b = 0 → ∀ k, Y k = 0)
section
variable {n p p' b kc ic T kc' ic' T' d : Nat} {R Y σ Y' σ' : Nat → Nat} {KY IY KY' IY' : Nat → Nat → Nat} {τ τ' : Nat → Nat} {r r' : Rr} {g g' : Gi} {j : Gl} {x x1 x2 x3 : Int32}
theorem Jx.xs (h : Jx n p p' b kc ic T R Y σ KY IY τ r g) : XS p p' b kc ic T R Y σ KY IY τ r g ∧ MS b kc ic T R Y KY IY τ g ∧ PS n b kc ic T R Y KY IY τ := by
  obtain ⟨⟨v1, v2, v3, v4, v5, v6, ⟨v7, v8, v9⟩, v10, v11, v12⟩, h2, h3, h4, ⟨k1, k2, ⟨k3, k4, k5, k6⟩, k7⟩, ⟨⟨i3, i4, i5, i6⟩, i7⟩, ⟨⟨t1, t2, t3⟩, t4⟩, h8⟩ := h
  exact ⟨⟨v1, h2, v3, v4, v7, h3, ⟨k1, k2, k5, fun i hi => (k7 i hi).1⟩, ⟨i5, fun i hi => (i7 i hi).1⟩, ⟨t2, fun i hi => (t4 i hi).2.2⟩⟩, ⟨v5, v6, v8, ⟨k6, fun i hi => (k7 i hi).2.2⟩, ⟨i6, fun i hi => (i7 i hi).2.2⟩, ⟨t3, fun i hi => (t4 i hi).2.1⟩⟩, v9, v10, v11, ⟨k3, k4⟩, fun i hi => (k7 i hi).2.1, ⟨i3, i4⟩, fun i hi => (i7 i hi).2.1, ⟨t1, fun i hi => (t4 i hi).1⟩, v12, h8⟩
theorem J_mk (hX : XS p p' b kc ic T R Y σ KY IY τ r g) (hM : MS b kc ic T R Y KY IY τ g) (hP : PS n b kc ic T R Y KY IY τ) (hF : Ft g) : J n r g := by
  obtain ⟨a1, a2, a3, a4, a5, a6, ⟨k1, k2, k5, k7⟩, ⟨i5, i7⟩, t2, t4⟩ := hX
  obtain ⟨b1, b2, b3, ⟨k6, k8⟩, ⟨i6, i8⟩, t3, t5⟩ := hM
  obtain ⟨p1, p2, p3, p4, p5, p6, p7, ⟨p8, p9⟩, p10, p11⟩ := hP
  exact ⟨p, p', b, kc, ic, T, R, Y, σ, KY, IY, τ, ⟨a1, by rcases a2.2 with h | h <;> omega, a3, a4, b1, b2, ⟨a5, b3, p1⟩, p2, p3, p10⟩, a2, a6, hF, ⟨k1, k2, ⟨p4.1, p4.2, k5, k6⟩, fun i hi => ⟨k7 i hi, p5 i hi, k8 i hi⟩⟩, ⟨⟨p6.1, p6.2, i5, i6⟩, fun i hi => ⟨i7 i hi, p7 i hi, i8 i hi⟩⟩, ⟨⟨p8, t2, t3⟩, fun i hi => ⟨p9 i hi, t5 i hi, t4 i hi⟩⟩, p11⟩
theorem PS.up (h : PS n b kc ic T R Y KY IY τ) (hn : n + 1 ≤ 512) : PS (n + 1) b kc ic T R Y KY IY τ := by
  obtain ⟨p1, p2, p3, p4, p5, p6, p7, p8, p10, p11⟩ := h
  exact ⟨p1, p2, p3.up, p4, fun i hi => (p5 i hi).up, p6, fun i hi => (p7 i hi).up, p8, hn, p11⟩
theorem Yx.eq {y : Nat} (h : Yx y R Y g) (e : ∀ a k, y ≤ a → a < y + 9 → g' a k = g a k) : Yx y R Y g' := by
  obtain ⟨h1, h2, h3, h4, h5⟩ := h
  refine ⟨?_, fun k hk => ⟨?_, fun i hi => ?_⟩, fun i hi => ?_, fun c hc => ?_, fun c hc => ?_⟩
  · simpa only [e y _ (Nat.le_refl _) (by omega)] using h1
  · rw [e (y + 2) k (by omega) (by omega)]; exact (h2 k hk).1
  · rw [e (y + 1) _ (by omega) (by omega)]; exact (h2 k hk).2 i hi
  · rw [e (y + 3) _ (by omega) (by omega)]; exact h3 i hi
  · rw [e (y + 6) _ (by omega) (by omega)]; exact h4 c hc
  · simp only [e (y + 4) c (by omega) (by omega), e (y + 5) c (by omega) (by omega), e (y + 7) c (by omega) (by omega), e (y + 8) c (by omega) (by omega)]
    exact h5 c hc
theorem Px.eq (hb : R 4 ≤ 3 ∧ R 5 ≤ 15) (h : Px p R g) (e : ∀ a k, p ≤ a → a < p + 28 → g' a k = g a k) : Px p R g' := by
  obtain ⟨h1, h2, h3, h4, h5⟩ := h
  refine ⟨?_, fun s hs => ?_, fun c hc => ?_, fun t ht => ?_, fun a b x y => ?_⟩
  · simpa only [e p _ (Nat.le_refl _) (by omega)] using h1
  · simpa only [e (p + 10 + s) _ (by omega) (by omega)] using h2 s hs
  · simpa only [e (p + 13 + c) _ (by omega) (by omega)] using h3 c hc
  · rw [e (p + 3) t (by omega) (by omega)]; exact h4 t ht
  · rw [e (p + 5 + a) b (by omega) (by omega)]; exact h5 a b x y
theorem KpX.eq (h : KpX kc R σ KY r g) (hk : kc ≤ 16) (e : ∀ a k, 92 ≤ a → a < 236 → g' a k = g a k) (e0 : g' 0 10 = g 0 10) : KpX kc R σ KY r g' := ⟨h.1, h.2.1, by rw [e0]; exact h.2.2.1, fun i hi => (h.2.2.2 i hi).eq fun a k h1 h2 => e a k (by omega) (by have := (h.1 i (by omega)).2; omega)⟩
theorem IpX.eq (h : IpX ic R IY g) (hk : ic ≤ 3) (e : ∀ a k, 236 ≤ a → a < 263 → g' a k = g a k) (e0 : g' 0 12 = g 0 12) : IpX ic R IY g' := ⟨by rw [e0]; exact h.1, fun i hi => (h.2 i hi).eq fun a k h1 h2 => e a k (by omega) (by omega)⟩
/-- what an act may change on the class's side: the yards, the two counts (and trouble) -/
def Xc (g g' : Gi) : Prop := ∀ a k, a < 92 → ¬ (62 ≤ a ∧ a < 71) → ¬ (a = 0 ∧ (k = 7 ∨ k = 10 ∨ k = 12)) → g' a k = g a k
theorem XS.gen (h : XS p p' b kc ic T R Y σ KY IY τ r g) (hb : R 4 ≤ 3 ∧ R 5 ≤ 15) (ha : Xc g g') (hr : ∀ a k, a ≠ 71 → r' a k = r a k) (hy : Yx 62 R Y' g') (hk : KpX kc' R σ' KY' r' g') (hi : IpX ic' R IY' g') : XS p p' b kc' ic' T R Y' σ' KY' IY' τ r' g' := by
  obtain ⟨a1, a2, a3, a4, a5, a6, -, -, t2, t4⟩ := h
  refine ⟨by rw [hr 0 2 (by decide)]; exact a1, ⟨by rw [hr 0 3 (by decide)]; exact a2.1, a2.2⟩, a3.eq hb (fun a k h1 h2 => ha a k ?_ ?_ ?_), hy, ?_, fun hb => ⟨fun a c x y => ?_, ?_, fun i v e => ?_⟩, hk, hi, ?_, fun i hi => ?_⟩
  · rcases a2.2 with h | h <;> omega
  · rcases a2.2 with h | h <;> omega
  · rcases a2.2 with h | h <;> omega
  · rw [ha 0 5 (by decide) (by decide) (by decide)]; exact a5
  · rw [ha (83 + a) c (by omega) (by omega) (by omega)]; exact (a6 hb).1 a c x y
  · rw [ha 88 1 (by decide) (by decide) (by decide)]; exact (a6 hb).2.1
  · rw [ha 89 i (by decide) (by decide) (by omega)]; exact (a6 hb).2.2 i v e
  · rw [ha 0 1 (by decide) (by decide) (by decide)]; exact t2
  · rw [ha 1 i (by decide) (by decide) (by omega)]; exact t4 i hi
/-- only NOW has changed -/
theorem XS.now (h : XS p p' b kc ic T R Y σ KY IY τ r g) (hb : R 4 ≤ 3 ∧ R 5 ≤ 15) (hk : kc ≤ 16) (hi : ic ≤ 3) (ha : ∀ a k, a < 263 → ¬ (62 ≤ a ∧ a < 71) → ¬ (a = 0 ∧ k = 7) → g' a k = g a k) (hy : Yx 62 R Y' g') : XS p p' b kc ic T R Y' σ KY IY τ r g' :=
  h.gen hb (fun a k h1 h2 h3 => ha a k (by omega) h2 (by omega)) (fun _ _ _ => rfl) hy (h.2.2.2.2.2.2.1.eq hk (fun a k h1 h2 => ha a k (by omega) (by omega) (by omega)) (ha 0 10 (by decide) (by decide) (by decide))) (h.2.2.2.2.2.2.2.1.eq hi (fun a k h1 h2 => ha a k (by omega) (by omega) (by omega)) (ha 0 12 (by decide) (by decide) (by decide)))
theorem XS.t7 {e : Int32} (h : XS p p' b kc ic T R Y σ KY IY τ r g) (hb : R 4 ≤ 3 ∧ R 5 ≤ 15) (hk : kc ≤ 16) (hi : ic ≤ 3) : XS p p' b kc ic T R Y σ KY IY τ r (uI g 0 7 e) :=
  h.now hb hk hi (fun a k _ _ h => uI_d (by omega)) (h.2.2.2.1.eq fun a k h1 h2 => uI_d (by omega))
theorem MS.ag (h : MS b kc ic T R Y KY IY τ g) (ha : Ag g g') : MS b kc ic T R Y KY IY τ g' := by
  obtain ⟨b1, b2, b3, ⟨k6, k8⟩, ⟨i6, i8⟩, t3, t5⟩ := h
  refine ⟨fun k hk => ?_, fun k hk => ?_, ?_, ⟨?_, fun i hi k hk => ?_⟩, ⟨?_, fun i hi k hk => ?_⟩, ?_, fun i hi => ?_⟩
  · rw [ha 266 k rfl]; exact b1 k hk
  · rw [ha 268 k rfl]; exact b2 k hk
  · rw [ha 263 14 rfl]; exact b3
  · rw [ha 263 20 rfl]; exact k6
  · rw [ha 269 _ rfl]; exact k8 i hi k hk
  · rw [ha 263 21 rfl]; exact i6
  · rw [ha 270 _ rfl]; exact i8 i hi k hk
  · rw [ha 263 2 rfl]; exact t3
  · rw [ha 264 i rfl]; exact t5 i hi
theorem MS.xo (h : MS b kc ic T R Y KY IY τ g) (e : ∀ a k, 263 ≤ a → g' a k = g a k) : MS b kc ic T R Y KY IY τ g' := by
  obtain ⟨b1, b2, b3, ⟨k6, k8⟩, ⟨i6, i8⟩, t3, t5⟩ := h
  refine ⟨fun k hk => ?_, fun k hk => ?_, ?_, ⟨?_, fun i hi k hk => ?_⟩, ⟨?_, fun i hi k hk => ?_⟩, ?_, fun i hi => ?_⟩
  · rw [e 266 k (by decide)]; exact b1 k hk
  · rw [e 268 k (by decide)]; exact b2 k hk
  · rw [e 263 14 (by decide)]; exact b3
  · rw [e 263 20 (by decide)]; exact k6
  · rw [e 269 _ (by decide)]; exact k8 i hi k hk
  · rw [e 263 21 (by decide)]; exact i6
  · rw [e 270 _ (by decide)]; exact i8 i hi k hk
  · rw [e 263 2 (by decide)]; exact t3
  · rw [e 264 i (by decide)]; exact t5 i hi
theorem XS.mo (h : XS p p' b kc ic T R Y σ KY IY τ r g) (hb : R 4 ≤ 3 ∧ R 5 ≤ 15) (hk : kc ≤ 16) (hi : ic ≤ 3) (e : ∀ a k, a < 263 → g' a k = g a k) : XS p p' b kc ic T R Y σ KY IY τ r g' :=
  h.now hb hk hi (fun a k h1 _ _ => e a k h1) (h.2.2.2.1.eq fun a k h1 h2 => e a k (by omega))
theorem MS.gen (h : MS b kc ic T R Y KY IY τ g) (ha : ∀ a k, a = 266 ∨ a = 264 ∨ (a = 263 ∧ (k = 14 ∨ k = 2)) → g' a k = g a k) (hy : ∀ k, k < 246 → g' 268 k = nI (Y' k)) (hk : KpM kc' KY' g') (hi : IpM ic' IY' g') : MS b kc' ic' T R Y' KY' IY' τ g' := by
  obtain ⟨b1, b2, b3, -, -, t3, t5⟩ := h
  refine ⟨fun k hk => ?_, hy, ?_, hk, hi, ?_, fun i hi => ?_⟩
  · rw [ha 266 k (by omega)]; exact b1 k hk
  · rw [ha 263 14 (by omega)]; exact b3
  · rw [ha 263 2 (by omega)]; exact t3
  · rw [ha 264 i (by omega)]; exact t5 i hi
theorem KpM.eq (h : KpM kc KY g) (e : ∀ k, g' 269 k = g 269 k) (e0 : g' 263 20 = g 263 20) : KpM kc KY g' := ⟨by rw [e0]; exact h.1, fun i hi k hk => by rw [e]; exact h.2 i hi k hk⟩
theorem IpM.eq (h : IpM ic IY g) (e : ∀ k, g' 270 k = g 270 k) (e0 : g' 263 21 = g 263 21) : IpM ic IY g' := ⟨by rw [e0]; exact h.1, fun i hi k hk => by rw [e]; exact h.2 i hi k hk⟩
/-- one step of both -/
theorem OPi.mk {xm mm : Nat} {as : List Value} (hn : n + 1 ≤ 512) (hJ : J n r g)
    (h : ∀ p p' b kc ic T R Y σ KY IY τ, XS p p' b kc ic T R Y σ KY IY τ r g → MS b kc ic T R Y KY IY τ g → PS n b kc ic T R Y KY IY τ → Ft g → Vw n p b R Y r g →
      ∃ (v e : Int32) (kc' ic' T' : Nat) (Y' : Nat → Nat) (KY' IY' : Nat → Nat → Nat) (τ' : Nat → Nat), e ≠ nI 4 ∧ PS (n + 1) b kc' ic' T' R Y' KY' IY' τ' ∧
      Cm d xm (.ref 0 :: as) r g j (rkI fun v1 r1 g1 _ => v1 = v ∧ (∃ σ', XS p p' b kc' ic' T' R Y' σ' KY' IY' τ' r1 g1) ∧ (∀ a k, 263 ≤ a → g1 a k = g a k) ∧ g1 0 7 = e ∧ g1 0 6 = g 0 6) ∧
      (∀ r g j, MS b kc ic T R Y KY IY τ g → Cm d mm (.ref 263 :: as) r g j (rkI fun v2 r2 g2 _ => v2 = v ∧ r2 = r ∧ MS b kc' ic' T' R Y' KY' IY' τ' g2 ∧ (∀ a k, a < 263 → g2 a k = g a k) ∧ g2 263 11 = e ∧ g2 263 9 = g 263 9))) : OPi d xm mm as n r g j := by
  obtain ⟨p, p', b, kc, ic, T, R, Y, σ, KY, IY, τ, hj⟩ := id hJ
  obtain ⟨hX, hM, hP⟩ := hj.xs
  obtain ⟨v, e, kc', ic', T', Y', KY', IY', τ', he, hP', hx, hm⟩ := h p p' b kc ic T R Y σ KY IY τ hX hM hP hj.2.2.2.1 hj.1
  refine Cm_mI hx ?_
  rintro v1 r1 g1 j1 ⟨rfl, ⟨σ', hX'⟩, hxo, h7, h6⟩
  refine Cm_mI (hm r1 g1 j1 (hM.xo hxo)) ?_
  rintro v2 r2 g2 j2 ⟨rfl, rfl, hM', hmo, h11, h9⟩
  have hR := hP'.2.1.2.2.1
  refine ⟨rfl, J_mk (hX'.mo ⟨hR.2.2.2.2.1, hR.2.2.2.2.2.1⟩ hP'.2.2.2.1.1 hP'.2.2.2.2.2.1.1 hmo) hM' hP' ⟨?_, ?_, fun h4 => ?_⟩⟩
  · rw [hmo 0 6 (by decide), h6, h9, hxo 263 9 (by decide)]; exact hj.2.2.2.1.1
  · rw [hmo 0 7 (by decide), h7, h11]
  · rw [hmo 0 7 (by decide), h7] at h4; exact absurd h4 he
end
