/-! port -/
section
variable {d n m T p p' b kc ic e e' f : Nat} {τ F F' R Y σ : Nat → Nat} {KY IY : Nat → Nat → Nat} {r r' : Rr} {g g' : Gi} {j : Gl}
theorem txt_ok : ∀ f e b F, FI b F → e ≤ n → txt n τ f e b F = .inr (e', F') → FI 1 F' ∧ 0 < F' 4 ∧ 0 < F' 6 := by
  intro f
  induction f with
  | zero => intro e b F _ _ h; cases h
  | succ f ih =>
    intro e b F hI he h
    have h : bz (lineL n τ e b F) (fun p => if tK n τ p.1 = 3 then txt n τ f (tZ n τ p.1) 1 p.2 else if tK n τ p.1 = 0 then (if 0 < p.2 4 ∧ 0 < p.2 6 then .inr p else .inl (6, tA n τ p.1)) else .inl (1, tA n τ p.1)) = .inr (e', F') := h
    obtain ⟨⟨e1, F1⟩, hl, h⟩ := bz_r h
    have ok := lineL_ok he hI hl
    have h : (if tK n τ e1 = 3 then txt n τ f (tZ n τ e1) 1 F1 else if tK n τ e1 = 0 then (if 0 < F1 4 ∧ 0 < F1 6 then .inr (e1, F1) else .inl (6, tA n τ e1)) else .inl (1, tA n τ e1)) = (.inr (e', F') : LR) := h
    by_cases c3 : tK n τ e1 = 3
    · rw [if_pos c3] at h
      exact ih _ 1 F1 ok.1 (tZ_m ok.2).2 h
    · rw [if_neg c3] at h
      by_cases c0 : tK n τ e1 = 0
      · rw [if_pos c0] at h
        by_cases c : 0 < F1 4 ∧ 0 < F1 6
        · rw [if_pos c] at h
          simp only [Sum.inr.injEq, Prod.mk.injEq] at h
          obtain ⟨rfl, rfl⟩ := h
          exact ⟨ok.1, c⟩
        · rw [if_neg c] at h; cases h
      · rw [if_neg c0] at h; cases h
theorem M_port {K : Int32 → Rr → Gi → Gl → Prop} (hm : m ≤ T) (hT : T ≤ 1000) (e2 : g 263 2 = nI T) (ht : ∀ i, i < m → τ i < 256 ∧ g 264 i = nI (τ i))
    (h1 : ∀ e' F', txt m τ (m + 1) 0 0 (fun _ => 0) = .inr (e', F') → ∀ g', (∀ k, k < 348 → g' 266 k = nI (F' k)) → RW8 (bgY F' (F' 5)) g' → (g' 263 14 = nI 1 ∧ g' 263 20 = nI 0 ∧ g' 263 21 = nI 0 ∧ g' 263 2 = nI 0 ∧ g' 263 9 = nI 0 ∧ g' 263 11 = nI 0) → (∀ a k, a < 263 → g' a k = g a k) → K (nI (F' 5)) r g' j)
    (h0 : ∀ num pl, txt m τ (m + 1) 0 0 (fun _ => 0) = .inl (num, pl) → ∀ g', (g' 263 9 = nI num ∧ g' 263 10 = nI pl ∧ g' 263 11 = nI 4 ∧ g' 263 2 = nI 0) → (∀ a k, ¬ (a = 265 ∨ a = 267 ∨ (a = 263 ∧ k ≤ 13)) → g' a k = g a k) → K (-1) r g' j) : Cm (d + 12) 165 [.ref 263, .int (nI m)] r g j (rkI K) := by
  refine vX10_port_0 (vX10_good_0 ?_)
  have w2 : (uI (uI g 263 0 (nI 0)) 263 11 (nI 0)) 263 2 = nI T := by rw [uI_n (by decide), uI_n (by decide)]; exact e2
  show Cm (d + 11) 144 [.int (nI m), .int (nI 0), .int ((uI (uI g 263 0 (nI 0)) 263 11 (nI 0)) 263 2)] r (uI (uI g 263 0 (nI 0)) 263 11 (nI 0)) j (rkI _)
  rw [w2]
  refine sM_inL (by omega) (by omega) (by omega) ?_
  rw [if_pos ⟨Nat.zero_le _, hm⟩]
  refine ⟨fun y => absurd y n10, fun _ => ⟨bo0, ?_⟩⟩
  have ou : ∀ a k, ¬ (a = 263 ∧ (k = 0 ∨ k = 11 ∨ k = 2 ∨ k = 9 ∨ k = 13)) → (uI (uI (uI (uI (uI g 263 0 (nI 0)) 263 11 (nI 0)) 263 2 (nI 0)) 263 9 (nI 0)) 263 13 (nI 0)) a k = g a k := fun a k z => by
    rw [uI_d (by omega), uI_d (by omega), uI_d (by omega), uI_d (by omega), uI_d (by omega)]
  have u11 : (uI (uI (uI (uI (uI g 263 0 (nI 0)) 263 11 (nI 0)) 263 2 (nI 0)) 263 9 (nI 0)) 263 13 (nI 0)) 263 11 = nI 0 := by rw [uI_n (by decide), uI_n (by decide), uI_n (by decide), uI_s]
  have u2 : (uI (uI (uI (uI (uI g 263 0 (nI 0)) 263 11 (nI 0)) 263 2 (nI 0)) 263 9 (nI 0)) 263 13 (nI 0)) 263 2 = nI 0 := by rw [uI_n (by decide), uI_n (by decide), uI_s]
  have u9 : (uI (uI (uI (uI (uI g 263 0 (nI 0)) 263 11 (nI 0)) 263 2 (nI 0)) 263 9 (nI 0)) 263 13 (nI 0)) 263 9 = nI 0 := by rw [uI_n (by decide), uI_s]
  refine M_text (d := d + 1) (n := m) (τ := τ) (by omega) (fun i hi => ?_) uI_s fun g1 o1 c3 => ⟨fun e' F' g2 hl R2 W2 f2 M2 => ?_, fun num pl g2 hl z => ?_⟩
  · rw [ou 264 i (by omega)]; exact ht i hi
  · have ok := txt_ok (n := m) _ _ _ _ FI_0 (Nat.zero_le _) hl
    refine vX10_port_173 ⟨fun _ => ?_, fun y => absurd (f13 f2) y⟩
    refine M_copy (a := 267) (a2 := 266) (n0 := 348) (n2 := 348) rfl rfl (by decide) (by decide) (by decide) (by decide) (by decide) fun g3 hc => ?_
    have r3 : ∀ k, k < 348 → g3 266 k = nI (F' k) := fun k hk => by
      have := hc.2 k hk
      rw [Nat.zero_add] at this
      rw [this]; exact W2 k hk
    refine M_fill (d := d + 11) ok.1.2.2.2.1 r3 fun g4 w4 o4 => ?_
    have oo : ∀ a k, a ≠ 268 → a ≠ 266 → g4 a k = g2 a k := fun a k z1 z2 => by rw [o4 a k z1, hc.1 a k (by omega)]
    refine h1 e' F' hl _ (fun k hk => ?_) (fun k hk => ?_) ⟨?_, ?_, ?_, ?_, ?_, ?_⟩ (fun a k ha => ?_)
    · rw [uI_o (by decide), uI_o (by decide), uI_o (by decide), o4 266 k (by decide)]; exact r3 k hk
    · rw [uI_o (by decide), uI_o (by decide), uI_o (by decide)]; exact w4 k hk
    · rw [uI_n (by decide), uI_n (by decide), uI_s]
    · rw [uI_n (by decide), uI_s]
    · rw [uI_s]
    · rw [uI_n (by decide), uI_n (by decide), uI_n (by decide), oo 263 2 (by decide) (by decide), M2 263 2 (by omega), o1 263 2 (by omega)]; exact u2
    · rw [uI_n (by decide), uI_n (by decide), uI_n (by decide), oo 263 9 (by decide) (by decide), M2 263 9 (by omega), o1 263 9 (by omega)]; exact u9
    · rw [uI_n (by decide), uI_n (by decide), uI_n (by decide), oo 263 11 (by decide) (by decide), M2 263 11 (by omega), o1 263 11 (by omega)]; exact u11
    · rw [uI_o (by omega), uI_o (by omega), uI_o (by omega), oo a k (by omega) (by omega), M2 a k (by omega), o1 a k (by omega), ou a k (by omega)]
  · refine vX10_port_173 ⟨fun y => absurd y z.nz, fun _ => vX10_no_0 (h0 num pl hl _ ⟨?_, ?_, uI_s, ?_⟩ (fun a k ha => ?_))⟩
    · rw [uI_n (by decide)]; exact z.1.2.1
    · rw [uI_n (by decide)]; exact z.1.2.2
    · rw [uI_n (by decide), z.2 263 2 (by omega), o1 263 2 (by omega)]; exact u2
    · rw [uI_d (by omega), z.2 a k (by omega), o1 a k (by omega), ou a k (by omega)]
end
