/-! THE TEXT: what a line does to the class's port -/
section
variable {q a0 b0 c0 sh : Nat} {F F' : Nat → Nat} {g H : Gi}
theorem port_px (o : ∀ k, k < 141 → 4 ≤ k → k ≠ 8 → F' k = 0) (n0 : H q 0 = nI (F' 0)) (n1 : H q 1 = nI (F' 1)) (n2 : H q 2 = nI (F' 2)) (n3 : H q 3 = nI (F' 3)) (n5 : H q 5 = nI 0) (n7 : H q 7 = nI 0) (n9 : H q 9 = nI 0) (n11 : H q 11 = nI 0) (hr : ∀ a b, a < 5 → b < 5 → H (q + 5 + a) b = nI 0) : Px q F' H := by
  have o4 := o 4 (by decide) (by decide) (by decide)
  have o5 := o 5 (by decide) (by decide) (by decide)
  have o6 := o 6 (by decide) (by decide) (by decide)
  have o7 := o 7 (by decide) (by decide) (by decide)
  refine ⟨⟨n0, n1, n2, n3, by rw [o4]; exact n5, by rw [o5]; exact n7, by rw [o6]; exact n9, by rw [o7]; exact n11⟩, fun s hs => by omega, fun c hc => by omega, fun t ht => by omega, fun a b ha hb => ?_⟩
  rw [o _ (by omega) (by omega) (by omega)]
  exact hr a b ha hb
theorem ship_px (hB : RB F) (hx : Px q F g) (h4 : F 4 < 3) (o : ∀ k, k < 141 → k ≠ 4 → ¬ (9 + 4 * F 4 ≤ k ∧ k ≤ 12 + 4 * F 4) → F' k = F k) (e4 : F' 4 = F 4 + 1) (hs : ∀ a k, ¬ (a = q + 10 + F 4 ∧ k ≤ 4) → ¬ (a = q ∧ k = 5) → H a k = g a k) (n5 : H q 5 = nI (F 4 + 1))
    (w0 : H (q + 10 + F 4) 0 = nI (F' (9 + 4 * F 4))) (w1 : H (q + 10 + F 4) 1 = nI (F' (10 + 4 * F 4))) (w2 : H (q + 10 + F 4) 2 = nI (F' (11 + 4 * F 4))) (w3 : H (q + 10 + F 4) 3 = nI (F' (12 + 4 * F 4))) (w4 : H (q + 10 + F 4) 4 = nI 0) : Px q F' H := by
  obtain ⟨r1, r2, r3, r4, r5, r6, r7, r8⟩ := hB
  obtain ⟨⟨x0, x1, x2, x3, x5, x7, x9, x11⟩, y2, y3, y4, y5⟩ := hx
  have o0 := o 0 (by decide) (by decide) (by omega)
  have o1 := o 1 (by decide) (by decide) (by omega)
  have o2 := o 2 (by decide) (by decide) (by omega)
  have o3 := o 3 (by decide) (by decide) (by omega)
  have o5 := o 5 (by decide) (by decide) (by omega)
  have o6 := o 6 (by decide) (by decide) (by omega)
  have o7 := o 7 (by decide) (by decide) (by omega)
  have cs : ∀ s, cntS F' s (F' 5) = cntS F s (F 5) := fun s => by rw [o5, cntS_eq (F := F) (fun c hc => o _ (by omega) (by omega) (by omega))]
  refine ⟨⟨?_, ?_, ?_, ?_, by rw [e4]; exact n5, ?_, ?_, ?_⟩, fun s h => ?_, fun c hc => ?_, fun t ht => ?_, fun a b ha hb => ?_⟩
  · rw [hs _ _ (by omega) (by omega), o0]; exact x0
  · rw [hs _ _ (by omega) (by omega), o1]; exact x1
  · rw [hs _ _ (by omega) (by omega), o2]; exact x2
  · rw [hs _ _ (by omega) (by omega), o3]; exact x3
  · rw [hs _ _ (by omega) (by omega), o5]; exact x7
  · rw [hs _ _ (by omega) (by omega), o6]; exact x9
  · rw [hs _ _ (by omega) (by omega), o7]; exact x11
  · rw [cs]
    by_cases c : s = F 4
    · subst c
      rw [cntS_z (F := F) (fun c hc => by have := (r3 c hc).2.1; omega)]
      exact ⟨w0, w1, w2, w3, w4⟩
    · have hl : s < F 4 := by omega
      rw [hs (q + 10 + s) 0 (by omega) (by omega), hs (q + 10 + s) 1 (by omega) (by omega), hs (q + 10 + s) 2 (by omega) (by omega), hs (q + 10 + s) 3 (by omega) (by omega), hs (q + 10 + s) 4 (by omega) (by omega), o (9 + 4 * s) (by omega) (by omega) (by omega), o (10 + 4 * s) (by omega) (by omega) (by omega), o (11 + 4 * s) (by omega) (by omega) (by omega), o (12 + 4 * s) (by omega) (by omega) (by omega)]
      exact y2 s hl
  · have hl : c < F 5 := by omega
    rw [hs (q + 13 + c) 0 (by omega) (by omega), hs (q + 13 + c) 1 (by omega) (by omega), hs (q + 13 + c) 2 (by omega) (by omega), hs (q + 13 + c) 3 (by omega) (by omega), hs (q + 13 + c) 4 (by omega) (by omega), hs (q + 13 + c) 5 (by omega) (by omega), o (21 + 5 * c) (by omega) (by omega) (by omega), o (22 + 5 * c) (by omega) (by omega) (by omega), o (23 + 5 * c) (by omega) (by omega) (by omega), o (24 + 5 * c) (by omega) (by omega) (by omega), o (25 + 5 * c) (by omega) (by omega) (by omega), o (126 + c) (by omega) (by omega) (by omega)]
    exact y3 c hl
  · rw [hs _ _ (by omega) (by omega), o _ (by omega) (by omega) (by omega)]; exact y4 t (by omega)
  · rw [hs _ _ (by omega) (by omega), o _ (by omega) (by omega) (by omega)]; exact y5 a b ha hb
theorem crate_px (hB : RB F) (hx : Px q F g) (h5 : F 5 < 15) (hsh : sh < 3) (o : ∀ k, k < 141 → k ≠ 5 → ¬ (21 + 5 * F 5 ≤ k ∧ k ≤ 25 + 5 * F 5) → F' k = F k) (e5 : F' 5 = F 5 + 1) (esh : F' (22 + 5 * F 5) = sh) (hs : ∀ a k, ¬ (a = q + 13 + F 5 ∧ k ≤ 5) → ¬ (a = q + 10 + sh ∧ k = 4) → ¬ (a = q ∧ k = 7) → H a k = g a k) (n7 : H q 7 = nI (F 5 + 1)) (ns : H (q + 10 + sh) 4 = nI (cntS F sh (F 5) + 1))
    (w0 : H (q + 13 + F 5) 0 = nI (F' (21 + 5 * F 5))) (w1 : H (q + 13 + F 5) 1 = nI (F' (22 + 5 * F 5))) (w3 : H (q + 13 + F 5) 3 = nI (F' (23 + 5 * F 5))) (w4 : H (q + 13 + F 5) 4 = nI (F' (24 + 5 * F 5))) (w2 : H (q + 13 + F 5) 2 = nI (F' (25 + 5 * F 5))) (w5 : H (q + 13 + F 5) 5 = nI 0) : Px q F' H := by
  obtain ⟨r1, r2, r3, r4, r5, r6, r7, r8⟩ := hB
  obtain ⟨⟨x0, x1, x2, x3, x5, x7, x9, x11⟩, y2, y3, y4, y5⟩ := hx
  have o0 := o 0 (by decide) (by decide) (by omega)
  have o1 := o 1 (by decide) (by decide) (by omega)
  have o2 := o 2 (by decide) (by decide) (by omega)
  have o3 := o 3 (by decide) (by decide) (by omega)
  have o4 := o 4 (by decide) (by decide) (by omega)
  have o6 := o 6 (by decide) (by decide) (by omega)
  have o7 := o 7 (by decide) (by decide) (by omega)
  have cs : ∀ s, cntS F' s (F' 5) = cntS F s (F 5) + (if sh = s then 1 else 0) := fun s => by
    rw [e5]
    show cntS F' s (F 5) + (if F' (22 + 5 * F 5) = s then 1 else 0) = _
    rw [esh, cntS_eq (F := F) (fun c hc => o _ (by omega) (by omega) (by omega))]
  refine ⟨⟨?_, ?_, ?_, ?_, ?_, by rw [e5]; exact n7, ?_, ?_⟩, fun s h => ?_, fun c hc => ?_, fun t ht => ?_, fun a b ha hb => ?_⟩
  · rw [hs _ _ (by omega) (by omega) (by omega), o0]; exact x0
  · rw [hs _ _ (by omega) (by omega) (by omega), o1]; exact x1
  · rw [hs _ _ (by omega) (by omega) (by omega), o2]; exact x2
  · rw [hs _ _ (by omega) (by omega) (by omega), o3]; exact x3
  · rw [hs _ _ (by omega) (by omega) (by omega), o4]; exact x5
  · rw [hs _ _ (by omega) (by omega) (by omega), o6]; exact x9
  · rw [hs _ _ (by omega) (by omega) (by omega), o7]; exact x11
  · have hl : s < F 4 := by omega
    have := y2 s hl
    rw [cs, hs (q + 10 + s) 0 (by omega) (by omega) (by omega), hs (q + 10 + s) 1 (by omega) (by omega) (by omega), hs (q + 10 + s) 2 (by omega) (by omega) (by omega), hs (q + 10 + s) 3 (by omega) (by omega) (by omega), o (9 + 4 * s) (by omega) (by omega) (by omega), o (10 + 4 * s) (by omega) (by omega) (by omega), o (11 + 4 * s) (by omega) (by omega) (by omega), o (12 + 4 * s) (by omega) (by omega) (by omega)]
    refine ⟨this.1, this.2.1, this.2.2.1, this.2.2.2.1, ?_⟩
    by_cases c : sh = s
    · subst c; rw [if_pos rfl]; exact ns
    · rw [if_neg c, hs _ _ (by omega) (by omega) (by omega)]; exact this.2.2.2.2
  · by_cases z : c = F 5
    · subst z
      refine ⟨w0, w1, w3, w4, w2, ?_⟩
      rw [w5, o (126 + F 5) (by omega) (by omega) (by omega), (r8 (F 5) h5).2 (Nat.le_refl _)]
      rfl
    · have hl : c < F 5 := by omega
      rw [hs (q + 13 + c) 0 (by omega) (by omega) (by omega), hs (q + 13 + c) 1 (by omega) (by omega) (by omega), hs (q + 13 + c) 2 (by omega) (by omega) (by omega), hs (q + 13 + c) 3 (by omega) (by omega) (by omega), hs (q + 13 + c) 4 (by omega) (by omega) (by omega), hs (q + 13 + c) 5 (by omega) (by omega) (by omega), o (21 + 5 * c) (by omega) (by omega) (by omega), o (22 + 5 * c) (by omega) (by omega) (by omega), o (23 + 5 * c) (by omega) (by omega) (by omega), o (24 + 5 * c) (by omega) (by omega) (by omega), o (25 + 5 * c) (by omega) (by omega) (by omega), o (126 + c) (by omega) (by omega) (by omega)]
      exact y3 c hl
  · rw [hs _ _ (by omega) (by omega) (by omega), o _ (by omega) (by omega) (by omega)]; exact y4 t (by omega)
  · rw [hs _ _ (by omega) (by omega) (by omega), o _ (by omega) (by omega) (by omega)]; exact y5 a b ha hb
/-- rows of ships and crates stay -/
theorem rest_px (hB : RB F) (hx : Px q F g) (o : ∀ k, k < 96 → k ≠ 6 → k ≠ 7 → F' k = F k) (hs : ∀ a k, q + 10 ≤ a → a < q + 28 → k ≠ 5 ∨ a < q + 13 → H a k = g a k) (hz : ∀ k, k < 6 ∨ k = 7 → H q k = g q k) (n9 : H q 9 = nI (F' 6)) (n11 : H q 11 = nI (F' 7))
    (hc : ∀ c, c < F 5 → H (q + 13 + c) 5 = nI (opx (F' (126 + c)))) (ht : ∀ t, t < F' 6 → H (q + 3) t = nI (F' (96 + t))) (hr : ∀ a b, a < 5 → b < 5 → H (q + 5 + a) b = nI (F' (101 + 5 * a + b))) : Px q F' H := by
  obtain ⟨r1, r2, r3, r4, r5, r6, r7, r8⟩ := hB
  obtain ⟨⟨x0, x1, x2, x3, x5, x7, x9, x11⟩, y2, y3, y4, y5⟩ := hx
  have o0 := o 0 (by decide) (by decide) (by omega)
  have o1 := o 1 (by decide) (by decide) (by omega)
  have o2 := o 2 (by decide) (by decide) (by omega)
  have o3 := o 3 (by decide) (by decide) (by omega)
  have o4 := o 4 (by decide) (by decide) (by omega)
  have o5 := o 5 (by decide) (by decide) (by omega)
  have cs : ∀ s, cntS F' s (F' 5) = cntS F s (F 5) := fun s => by rw [o5, cntS_eq (F := F) (fun c hc => o _ (by omega) (by omega) (by omega))]
  refine ⟨⟨?_, ?_, ?_, ?_, ?_, ?_, n9, n11⟩, fun s h => ?_, fun c hcc => ?_, ht, hr⟩
  · rw [hz _ (by omega), o0]; exact x0
  · rw [hz _ (by omega), o1]; exact x1
  · rw [hz _ (by omega), o2]; exact x2
  · rw [hz _ (by omega), o3]; exact x3
  · rw [hz _ (by omega), o4]; exact x5
  · rw [hz _ (by omega), o5]; exact x7
  · have hl : s < F 4 := by omega
    rw [cs, hs (q + 10 + s) 0 (by omega) (by omega) (by omega), hs (q + 10 + s) 1 (by omega) (by omega) (by omega), hs (q + 10 + s) 2 (by omega) (by omega) (by omega), hs (q + 10 + s) 3 (by omega) (by omega) (by omega), hs (q + 10 + s) 4 (by omega) (by omega) (by omega), o (9 + 4 * s) (by omega) (by omega) (by omega), o (10 + 4 * s) (by omega) (by omega) (by omega), o (11 + 4 * s) (by omega) (by omega) (by omega), o (12 + 4 * s) (by omega) (by omega) (by omega)]
    exact y2 s hl
  · have hl : c < F 5 := by omega
    have := y3 c hl
    rw [hs (q + 13 + c) 0 (by omega) (by omega) (by omega), hs (q + 13 + c) 1 (by omega) (by omega) (by omega), hs (q + 13 + c) 2 (by omega) (by omega) (by omega), hs (q + 13 + c) 3 (by omega) (by omega) (by omega), hs (q + 13 + c) 4 (by omega) (by omega) (by omega), o (21 + 5 * c) (by omega) (by omega) (by omega), o (22 + 5 * c) (by omega) (by omega) (by omega), o (23 + 5 * c) (by omega) (by omega) (by omega), o (24 + 5 * c) (by omega) (by omega) (by omega), o (25 + 5 * c) (by omega) (by omega) (by omega)]
    exact ⟨this.1, this.2.1, this.2.2.1, this.2.2.2.1, this.2.2.2.2.1, hc c hl⟩
end
