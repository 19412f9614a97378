/-! ACTS: the reference's half alone (its helpers once more, without the class's half); rows of numbers that change -/
def Mv (n b : Nat) (R Y : Nat → Nat) (g : Gi) : Prop := (∀ k, k < 348 → g 266 k = nI (R k)) ∧ (∀ k, k < 246 → g 268 k = nI (Y k)) ∧ g 263 14 = nI b ∧ (b = 0 ∨ b = 1) ∧ RO b R ∧ YO n R Y
section
variable {n p b d : Nat} {R Y : Nat → Nat} {r : Rr} {g : Gi} {j : Gl} {K : Int32 → Rr → Gi → Gl → Prop} {x x1 x2 : Int32}
theorem Mv.b4 (hV : Mv n b R Y g) : R 4 ≤ 3 := hV.2.2.2.2.1.2.2.1.2.2.2.2.1
theorem Mv.b5 (hV : Mv n b R Y g) : R 5 ≤ 15 := hV.2.2.2.2.1.2.2.1.2.2.2.2.2.1
theorem Mv.mr (hV : Mv n b R Y g) {k : Nat} (h : k < 348) : g 266 k = nI (R k) := hV.1 k h
theorem Mv.ms (hV : Mv n b R Y g) {k : Nat} (h : k < 246) : g 268 k = nI (Y k) := hV.2.1 k h
theorem Mv.ro (hV : Mv n b R Y g) : RO b R := hV.2.2.2.2.1
theorem Mv.yo (hV : Mv n b R Y g) : YO n R Y := hV.2.2.2.2.2
theorem Mv.tm (hV : Mv n b R Y g) : g 263 14 = nI b := hV.2.2.1
theorem Mv.b01 (hV : Mv n b R Y g) : b = 0 ∨ b = 1 := hV.2.2.2.1
theorem Mv.z (hV : Mv n b R Y g) (k : Nat) : (b = 0 ∧ R k = 0) ∨ b = 1 := by
  rcases hV.b01 with h | h
  · exact Or.inl ⟨h, hV.ro.1 h k⟩
  · exact Or.inr h
theorem W_isShip (hV : Mv n b R Y g) (h1 : ∀ k, k < R 4 → x = nI k → K (nI 1) r g j) (h0 : out x (R 4) → K (nI 0) r g j) : Cm (d + 1) 176 [.ref 263, .int x] r g j (rkI K) := by
  have hb := hV.b4
  exact sM_isShip (by omega) hV.tm (hV.z 4) (hV.mr (by decide)) h1 h0
theorem W_isCrate (hV : Mv n b R Y g) (h1 : ∀ k, k < R 5 → x = nI k → K (nI 1) r g j) (h0 : out x (R 5) → K (nI 0) r g j) : Cm (d + 1) 177 [.ref 263, .int x] r g j (rkI K) := by
  have hb := hV.b5
  refine vX10_isCrate_0 ⟨fun a => ⟨bo0, h0 ?_⟩, fun a => IX_l (by decide) ?_⟩
  · rcases hV.z 5 with ⟨-, e⟩ | e
    · intro k hk; omega
    · rw [hV.tm, e] at a; exact absurd a n10
  · rw [hV.mr (by decide)]
    exact sM_in (by omega) (fun k hk e => ⟨fun a => absurd a n10, fun _ => ⟨bo1, h1 k hk e⟩⟩) (fun o => ⟨fun _ => ⟨bo0, h0 o⟩, fun a => absurd n00 a⟩)
theorem W_isStack (hV : Mv n b R Y g) (h1 : ∀ k t, k < R 4 → t < 3 → x1 = nI k → x2 = nI t → K (nI 1) r g j) (h0 : (out x1 (R 4) ∨ out x2 3) → K (nI 0) r g j) : Cm (d + 2) 182 [.ref 263, .int x1, .int x2] r g j (rkI K) := by
  refine vX10_isStack_0 (W_isShip hV (fun k hk e => ⟨fun a => absurd a n10, fun _ => M_in 2 (by decide) (fun t ht e2 => ⟨fun a => absurd a n10, fun _ => ⟨bo1, h1 k t hk (by omega) e e2⟩⟩) (fun o => ⟨fun _ => ⟨bo0, h0 (Or.inr o)⟩, fun a => absurd n00 a⟩)⟩) (fun o => ⟨fun _ => ⟨bo0, h0 (Or.inl o)⟩, fun a => absurd n00 a⟩))
theorem W_highOf (hV : Mv n b R Y g) {k t : Nat} (hk : k < 3) (ht : t < 3) (h : K (nI (Y (120 + (3 * k + t)))) r g j) : Cm d 183 [.ref 263, .int (nI k), .int (nI t)] r g j (rkI K) := by
  refine vX10_highOf_0 (IX_e (q := 120 + (3 * k + t)) (by rw [pk_mul, nI_add, nI_add, Nat.add_assoc]) (by omega) ?_)
  show K (g 268 _) r g j
  rw [hV.ms (by omega)]; exact h
theorem W_ofCrate (hV : Mv n b R Y g) {c w : Nat} (hc : c < 15) (hw : w < 5) (h : K (nI (R (21 + 5 * c + w))) r g j) : Cm d 179 [.ref 263, .int (nI c), .int (nI w)] r g j (rkI K) := by
  refine vX10_ofCrate_0 (IX_e (q := 21 + 5 * c + w) (by rw [pk_mul, nI_add, nI_add]) (by omega) ?_)
  show K (g 266 (21 + 5 * c + w)) r g j
  rw [hV.mr (by omega)]; exact h
theorem W_dry_loop (hV : Mv n b R Y g) : ∀ q i, i + q = Y 144 → (∀ v, dryF R Y i v → rkI K (some (.int v)) r g j) → G (d + 1) 188 2 [(0, .ref 263), (1, .int (nI i))] [] r g j (rkI K) := by
  have h5 := hV.b5
  have hq := hV.yo.2.2.2.2.1
  have h145 := hV.yo.2.2.2.2.2.2.2.2.2.1.1
  intro q
  induction q with
  | zero =>
    intro i hi h
    exact vX10_nextOnQuay_2 (IX_l (by decide) ⟨fun _ => h _ (Or.inr ⟨fun k a c => by omega, rfl⟩), fun a => absurd (by rw [hV.ms (by decide)]; exact nI_le (by omega) (by omega)) a⟩)
  | succ q ih =>
    intro i hi h
    have hc := hq.2 i (by omega)
    have hR := hV.ro.2.2.2.2.1 _ hc.1
    have hd := (hV.yo.2.2.2.2.2.2.2.1 _ hc.1).2.2.2
    refine vX10_nextOnQuay_2 (IX_l (by decide) ⟨fun a => absurd a (by rw [hV.ms (by decide)]; exact nI_ge (by omega) (by omega)), fun _ => IX_e (q := 129 + i) (nI_add 129 i) (by omega) ?_⟩)
    rw [hV.ms (by omega)]
    refine W_ofCrate hV (c := Y (129 + i)) (w := 0) (by omega) (by decide) ⟨fun e => IX_e (q := 129 + i) (nI_add 129 i) (by omega) (IX_e (q := 45 + Y (129 + i)) (by rw [hV.ms (by omega), nI_add]) (by omega) ?_), fun e => ?_⟩
    · rw [nI_eq (by rw [Nat.add_zero]; omega) (by decide), Nat.add_zero] at e
      rw [hV.ms (by omega)]
      refine ⟨fun a => ?_, fun a => ?_⟩
      · rw [← nI_0] at a
        have a := le_n (by omega) (by decide) a
        have hw : wetAt R Y i := ⟨e, by omega⟩
        rw [nI_add]
        refine ih (i + 1) (by omega) (fun v hv => h v ?_)
        rcases hv with ⟨k, a1, a2, a3, a4, a5⟩ | ⟨a1, a2⟩
        · refine Or.inl ⟨k, by omega, a2, a3, fun k' b1 b2 => ?_, a5⟩
          by_cases e2 : k' = i
          · subst e2; exact hw
          · exact a4 k' (by omega) b2
        · refine Or.inr ⟨fun k' b1 b2 => ?_, a2⟩
          by_cases e2 : k' = i
          · subst e2; exact hw
          · exact a1 k' (by omega) b2
      · refine h _ (Or.inl ⟨i, Nat.le_refl _, by omega, fun hw => a ?_, fun k' a1 a2 => by omega, rfl⟩)
        rw [hw.2, n00]
        exact Int32.le_refl 0
    · rw [nI_eq (by rw [Nat.add_zero]; omega) (by decide), Nat.add_zero] at e
      exact h _ (Or.inl ⟨i, Nat.le_refl _, by omega, fun hw => e hw.1, fun k' a1 a2 => by omega, rfl⟩)
theorem W_nextOnQuay (hV : Mv n b R Y g) (h : ∀ v, dryF R Y 0 v → K v r g j) : Cm (d + 1) 188 [.ref 263] r g j (rkI K) := vX10_nextOnQuay_0 (W_dry_loop hV (Y 144) 0 (by omega) h)
end
