/-! ACTS: NOW is kept before an act -/
def kk (kc : Nat) : Nat := if kc = 16 then 16 else kc + 1
def kY (kc : Nat) (KY : Nat → Nat → Nat) (Y : Nat → Nat) : Nat → Nat → Nat := fun i => if kc = 16 then (if i < 15 then KY (i + 1) else Y) else (if i < kc then KY i else Y)
section
variable {n p p' b kc ic T kc' ic' T' d : Nat} {R Y σ Y' σ' : Nat → Nat} {KY IY KY' IY' : Nat → Nat → Nat} {τ τ' : Nat → Nat} {r r' : Rr} {g g' : Gi} {j : Gl} {x x1 x2 x3 : Int32}
theorem X_keep58 {K : Rr → Gi → Gl → Prop} (hX : XS p p' b kc ic T R Y σ KY IY τ r g) (hb : R 4 ≤ 3 ∧ R 5 ≤ 15) (hk : kc ≤ 15) (hi : ic ≤ 3) (hyo : YO n R Y) (h : ∀ g', XS p p' b (kc + 1) ic T R Y σ (fun i => if i < kc then KY i else Y) IY τ r g' → (∀ a k, 263 ≤ a → g' a k = g a k) → g' 0 6 = g 0 6 → K r g' j) : G (d + 2) 138 58 [(0, .ref 0)] [] r g j (rkV K) := by
  obtain ⟨k1, k2, k5, k7⟩ := hX.2.2.2.2.2.2.1
  have hs := k1 kc (by omega)
  refine vX9_keepNow_58 (IX_e k5 (by omega) (RF_i (Or.inr ⟨RS71 kc, hs.1⟩) (OB_i (SH_y (yA_k hs.2)) (X_become (yA_k hs.2) yA_n (by omega) fun g2 hbec => ?_))))
  have e10 : g2 0 10 = nI kc := by rw [hbec.1 0 10 (by omega)]; exact k5
  rw [e10, nI_add]
  have ho : ∀ a k, ¬ (92 + 9 * σ kc ≤ a ∧ a < 92 + 9 * σ kc + 9) → ¬ (a = 0 ∧ k = 10) → (uI g2 0 10 (nI (kc + 1))) a k = g a k := fun a k h1 h2 => by rw [uI_d h2, hbec.1 a k h1]
  have hlt := hs.2
  refine h _ (hX.gen (kc' := kc + 1) (ic' := ic) (σ' := σ) (IY' := IY) hb (fun a k h1 h2 h3 => ho a k (by omega) (by omega)) (fun _ _ _ => rfl) (hX.2.2.2.1.eq fun a k h1 h2 => ho a k (by omega) (by omega)) ⟨k1, k2, uI_s, fun i hi => ?_⟩ (hX.2.2.2.2.2.2.2.1.eq hi (fun a k h1 h2 => ho a k (by omega) (by omega)) (ho 0 12 (by omega) (by omega)))) (fun a k h => ho a k (by omega) (by omega)) (ho 0 6 (by omega) (by omega))
  by_cases e : i < kc
  · show Yx _ R (if i < kc then KY i else Y) _
    rw [if_pos e]
    have hne : σ i ≠ σ kc := fun e2 => by have := k2 i kc (by omega) (by omega) e2; omega
    exact (k7 i e).eq fun a k h1 h2 => ho a k (by omega) (by omega)
  · have : i = kc := by omega
    subst this
    show Yx _ R (if i < i then KY i else Y) _
    rw [if_neg e]
    exact (hbec.yx hb.2 hyo.q15 hyo.h5 hX.2.2.2.1).eq fun a k h1 h2 => uI_d (by omega)
theorem X_keepNow {K : Rr → Gi → Gl → Prop} (hX : XS p p' b kc ic T R Y σ KY IY τ r g) (hb : R 4 ≤ 3 ∧ R 5 ≤ 15) (hk : kc ≤ 16) (hi : ic ≤ 3) (hyo : YO n R Y) (h : ∀ r' g' σ', XS p p' b (kk kc) ic T R Y σ' (kY kc KY Y) IY τ r' g' → (∀ a k, 263 ≤ a → g' a k = g a k) → g' 0 6 = g 0 6 → K r' g' j) : Cm (d + 2) 138 [.ref 0] r g j (rkV K) := by
  obtain ⟨k1, k2, k5, k7⟩ := hX.2.2.2.2.2.2.1
  by_cases h16 : kc = 16
  · refine vX9_keepNow_0 ⟨fun a => ?_, fun _ => IX_l (by decide) (RF_i (Or.inr ⟨RS71 0, (k1 0 (by decide)).1⟩) ?_)⟩
    · rw [k5, h16] at a; exact absurd a (by decide +kernel)
    have loop : ∀ q m rr, m + q = 16 → 1 ≤ m → (∀ a k, a ≠ 71 → rr a k = r a k) → (∀ i, i + 1 < m → rr 71 i = r 71 (i + 1)) → (∀ i, m ≤ i + 1 → i < 16 → rr 71 i = r 71 i) → G (d + 2) 138 18 [(0, .ref 0), (1, .ref (92 + 9 * σ 0)), (2, .int (nI m))] [] rr g j (rkV K) := by
      intro q
      induction q with
      | zero =>
        intro m rr hm h1 hr1 hr2 hr3
        have : m = 16 := by omega
        subst this
        refine vX9_keepNow_18 ⟨fun _ => OB_i (SH_y (yA_k (k1 0 (by decide)).2)) (IX_l (by decide) ⟨RS71 15, ?_⟩), fun a => absurd (Int32.le_refl _) a⟩
        have hX2 : XS p p' b 15 ic T R Y (fun i => if i < 15 then σ (i + 1) else σ 0) (fun i => KY (i + 1)) IY τ (uR rr 71 15 (some (92 + 9 * σ 0))) (uI g 0 10 (nI 15)) := by
          refine hX.gen (kc' := 15) (ic' := ic) (IY' := IY) hb (fun a k h1 h2 h3 => uI_d (by omega)) (fun a k h => by rw [uR_o h]; exact hr1 a k h) (hX.2.2.2.1.eq fun a k h1 h2 => uI_d (by omega)) ⟨fun i hi => ?_, fun i i' hi hi' e => ?_, uI_s, fun i hi => ?_⟩ (hX.2.2.2.2.2.2.2.1.eq (by omega) (fun a k h1 h2 => uI_d (by omega)) (uI_d (by omega)))
          · show _ = some (92 + 9 * (if i < 15 then σ (i + 1) else σ 0)) ∧ (if i < 15 then σ (i + 1) else σ 0) < 16
            by_cases e : i < 15
            · rw [if_pos e, uR_n (by omega), hr2 i (by omega)]; exact k1 (i + 1) (by omega)
            · have : i = 15 := by omega
              subst this
              rw [if_neg e, uR_s]; exact ⟨rfl, (k1 0 (by decide)).2⟩
          · have e : (if i < 15 then σ (i + 1) else σ 0) = (if i' < 15 then σ (i' + 1) else σ 0) := e
            split at e <;> split at e
            · have := k2 _ _ (by omega) (by omega) e; omega
            · have := k2 _ _ (by omega) (by omega) e; omega
            · have := k2 _ _ (by omega) (by omega) e; omega
            · omega
          · show Yx (92 + 9 * (if i < 15 then σ (i + 1) else σ 0)) R (KY (i + 1)) _
            rw [if_pos hi]
            exact (k7 (i + 1) (by omega)).eq fun a k h1 h2 => uI_d (by omega)
        refine X_keep58 hX2 hb (by decide) (by omega) hyo fun g' hX3 ho h6 => h _ g' (fun i => if i < 15 then σ (i + 1) else σ 0) ?_ (fun a k h => by rw [ho a k h, uI_d (by omega)]) (by rw [h6, uI_d (by omega)])
        have e1 : kk kc = 15 + 1 := by unfold kk; rw [if_pos h16]
        have e2 : kY kc KY Y = fun i => if i < 15 then KY (i + 1) else Y := by unfold kY; rw [h16]; rfl
        rw [e1, e2]; exact hX3
      | succ q ih =>
        intro m rr hm h1 hr1 hr2 hr3
        have hs := k1 m (by omega)
        refine vX9_keepNow_18 ⟨fun a => absurd a (nI_ge (by omega) (by omega)), fun _ => IX_l (by omega) (RF_i (Or.inr ⟨RS71 m, by rw [hr3 m (by omega) (by omega)]; exact hs.1⟩) (OB_i (SH_y (yA_k hs.2)) (IX_e (q := m - 1) (by rw [pk_sub h1]) (by omega) ⟨RS71 _, ?_⟩)))⟩
        rw [nI_add]
        refine ih (m + 1) _ (by omega) (by omega) (fun a k h => by rw [uR_o h]; exact hr1 a k h) (fun i hi => ?_) (fun i h1 h2 => ?_)
        · by_cases e : i = m - 1
          · subst e
            rw [uR_s, show m - 1 + 1 = m by omega]; exact hs.1.symm
          · rw [uR_n e]; exact hr2 i (by omega)
        · rw [uR_n (by omega)]; exact hr3 i (by omega) h2
    exact loop 15 1 r (by decide) (by decide) (fun _ _ _ => rfl) (fun i hi => by omega) (fun _ _ _ => rfl)
  · refine vX9_keepNow_0 ⟨fun _ => X_keep58 hX hb (by omega) (by omega) hyo fun g' hX3 ho h6 => h r g' σ ?_ ho h6, fun a => absurd ?_ a⟩
    · have e1 : kk kc = kc + 1 := by unfold kk; rw [if_neg h16]
      have e2 : kY kc KY Y = fun i => if i < kc then KY i else Y := by unfold kY; funext i; rw [if_neg h16]
      rw [e1, e2]; exact hX3
    · rw [k5]; exact nI_lt (by omega) (by omega)
theorem M_note50 {K : Rr → Gi → Gl → Prop} (hM : MS b kc ic T R Y KY IY τ g) (hk : kc ≤ 15) (h : ∀ g', MS b (kc + 1) ic T R Y (fun i => if i < kc then KY i else Y) IY τ g' → (∀ a k, a < 263 → g' a k = g a k) → g' 263 11 = g 263 11 → g' 263 9 = g 263 9 → K r g' j) : G (d + 1) 243 50 [(0, .ref 263)] [] r g j (rkV K) := by
  obtain ⟨k6, k8⟩ := hM.2.2.2.1
  refine vX10_note_50 ?_
  rw [k6, pk_mul]
  refine M_copy (a := 268) (a2 := 269) (n0 := 246) (n2 := 3936) rfl rfl (by decide) (by decide) (by omega) (by decide) (by decide) fun g3 hc => ?_
  have e20 : g3 263 20 = nI kc := by rw [hc.1 263 20 (by omega)]; exact k6
  show K r (uI g3 263 20 (g3 263 20 + nI 1)) j
  rw [e20, nI_add]
  have ho : ∀ a k, a ≠ 269 → ¬ (a = 263 ∧ k = 20) → (uI g3 263 20 (nI (kc + 1))) a k = g a k := fun a k h1 h2 => by rw [uI_d h2, hc.1 a k (by omega)]
  refine h _ (hM.gen (fun a k h => ho a k (by omega) (by omega)) (fun k hk => by rw [ho 268 k (by decide) (by omega)]; exact hM.2.1 k hk) ⟨uI_s, fun i hi k hk2 => ?_⟩ (hM.2.2.2.2.1.eq (fun k => ho 270 k (by decide) (by omega)) (ho 263 21 (by decide) (by omega)))) (fun a k h => ho a k (by omega) (by omega)) (ho 263 11 (by decide) (by omega)) (ho 263 9 (by decide) (by omega))
  rw [uI_o (by decide)]
  by_cases e : i < kc
  · show _ = nI ((if i < kc then KY i else Y) k)
    rw [if_pos e, hc.1 269 _ (by omega)]
    exact k8 i e k hk2
  · have : i = kc := by omega
    subst this
    show _ = nI ((if i < i then KY i else Y) k)
    rw [if_neg e, hc.2 k hk2, Nat.zero_add]
    exact hM.2.1 k hk2
theorem M_note {K : Rr → Gi → Gl → Prop} (hM : MS b kc ic T R Y KY IY τ g) (hk : kc ≤ 16) (h : ∀ g', MS b (kk kc) ic T R Y (kY kc KY Y) IY τ g' → (∀ a k, a < 263 → g' a k = g a k) → g' 263 11 = g 263 11 → g' 263 9 = g 263 9 → K r g' j) : Cm (d + 1) 243 [.ref 263] r g j (rkV K) := by
  obtain ⟨k6, k8⟩ := hM.2.2.2.1
  by_cases h16 : kc = 16
  · have loop : ∀ q m gg, m + q = 3690 → (∀ a k, a ≠ 269 → gg a k = g a k) → (∀ k, k < m → gg 269 k = g 269 (k + 246)) → (∀ k, m ≤ k → gg 269 k = g 269 k) → G (d + 1) 243 11 [(0, .ref 263), (1, .int (nI m))] [] r gg j (rkV K) := by
      intro q
      induction q with
      | zero =>
        intro m gg hm h1 h2 h3
        have : m = 3690 := by omega
        subst this
        refine vX10_note_11 ⟨fun _ => ?_, fun a => absurd (Int32.le_refl _) a⟩
        have e20 : gg 263 20 - nI 1 = nI 15 := by rw [h1 263 20 (by decide), k6, h16]; decide +kernel
        rw [e20]
        have ho : ∀ a k, a ≠ 269 → ¬ (a = 263 ∧ k = 20) → (uI gg 263 20 (nI 15)) a k = g a k := fun a k h1' h2 => by rw [uI_d h2, h1 a k h1']
        have hM2 : MS b 15 ic T R Y (fun i => KY (i + 1)) IY τ (uI gg 263 20 (nI 15)) := by
          refine hM.gen (fun a k h => ho a k (by omega) (by omega)) (fun k hk => by rw [ho 268 k (by decide) (by omega)]; exact hM.2.1 k hk) ⟨uI_s, fun i hi k hk => ?_⟩ (hM.2.2.2.2.1.eq (fun k => ho 270 k (by decide) (by omega)) (ho 263 21 (by decide) (by omega)))
          rw [uI_o (by decide), h2 _ (by omega), show 246 * i + k + 246 = 246 * (i + 1) + k by omega]
          exact k8 (i + 1) (by omega) k hk
        refine M_note50 hM2 (by decide) fun g' hM3 hmo h11 h9 => h g' ?_ (fun a k h => by rw [hmo a k h]; exact ho a k (by omega) (by omega)) (by rw [h11]; exact ho 263 11 (by decide) (by omega)) (by rw [h9]; exact ho 263 9 (by decide) (by omega))
        have e1 : kk kc = 15 + 1 := by unfold kk; rw [if_pos h16]
        have e2 : kY kc KY Y = fun i => if i < 15 then KY (i + 1) else Y := by unfold kY; rw [h16]; rfl
        rw [e1, e2]; exact hM3
      | succ q ih =>
        intro m gg hm h1 h2 h3
        refine vX10_note_11 ⟨fun a => absurd a (nI_ge (by omega) (by omega)), fun _ => IX_e (q := m + 246) (nI_add m 246) (by omega) (IX_l (by omega) ?_)⟩
        rw [nI_add]
        refine ih (m + 1) _ (by omega) (fun a k h => by rw [uI_o h]; exact h1 a k h) (fun k hk => ?_) (fun k hk => ?_)
        · by_cases e : k = m
          · subst e; rw [uI_s]; exact h3 _ (by omega)
          · rw [uI_n e]; exact h2 k (by omega)
        · rw [uI_n (by omega)]; exact h3 k (by omega)
    refine vX10_note_0 ⟨fun _ => loop 3690 0 g (by decide) (fun _ _ _ => rfl) (fun k hk => by omega) (fun _ _ => rfl), fun a => ?_⟩
    rw [k6, h16] at a; exact absurd rfl a
  · refine vX10_note_0 ⟨fun a => ?_, fun _ => M_note50 hM (by omega) fun g' hM3 hmo h11 h9 => h g' ?_ hmo h11 h9⟩
    · rw [k6, nI_eq (by omega) (by decide)] at a; exact absurd a h16
    · have e1 : kk kc = kc + 1 := by unfold kk; rw [if_neg h16]
      have e2 : kY kc KY Y = fun i => if i < kc then KY i else Y := by unfold kY; funext i; rw [if_neg h16]
      rw [e1, e2]; exact hM3
theorem kk_le (h : kc ≤ 16) : kk kc ≤ 16 := by unfold kk; split <;> omega
theorem kY_all {P : (Nat → Nat) → Prop} (hk : kc ≤ 16) (h : ∀ i, i < kc → P (KY i)) (hY : P Y) : ∀ i, i < kk kc → P (kY kc KY Y i) := by
  intro i hi
  unfold kk at hi
  unfold kY
  split
  · split
    · exact h _ (by omega)
    · exact hY
  · split
    · exact h _ (by omega)
    · exact hY
/-- an act behind keepNow: NOW becomes Y' -/
theorem PS.act (hP : PS n b kc ic T R Y KY IY τ) (hn : n + 1 ≤ 512) (hb : b = 1) (hY : YO (n + 1) R Y') : PS (n + 1) b (kk kc) ic T R Y' (kY kc KY Y) IY τ := by
  obtain ⟨p1, p2, p3, p4, p5, p6, p7, p8, p10, p11⟩ := hP.up hn
  exact ⟨p1, p2, hY, ⟨kk_le p4.1, fun e => by omega⟩, kY_all (P := YO (n + 1) R) p4.1 p5 p3, p6, p7, p8, hn, fun e => by omega⟩
end
