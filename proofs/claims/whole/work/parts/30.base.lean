/-! SPECS, base: small rows -/
theorem IX_l {n q : Nat} {K : Nat → Prop} (h : q < n) (k : K q) : IX (nI q) n K := ⟨q, rfl, h, k⟩
theorem IX_e {i : Int32} {n q : Nat} {K : Nat → Prop} (e : i = nI q) (h : q < n) (k : K q) : IX i n K := ⟨q, e, h, k⟩
theorem bo0 : (nI 0) = 0 ∨ (nI 0) = 1 := Or.inl (by decide +kernel)
theorem bo1 : (nI 1) = 0 ∨ (nI 1) = 1 := Or.inr (by decide +kernel)
theorem n00 : nI 0 = 0 := nI_0
theorem n10 : ¬ nI 1 = 0 := by decide +kernel
theorem le_n {a b : Nat} (ha : a < 2 ^ 31) (hb : b < 2 ^ 31) (h : nI a ≤ nI b) : a ≤ b := (nI_leI ha hb).mp h
theorem lt_n {a b : Nat} (ha : a < 2 ^ 31) (hb : b < 2 ^ 31) (h : nI a < nI b) : a < b := (nI_ltI ha hb).mp h
theorem nlt_0 {a : Nat} (ha : a < 2 ^ 31) : ¬ nI a < 0 := nI_pos ha
/-- x is no number below n -/
def out (x : Int32) (n : Nat) : Prop := ∀ k, k < n → x ≠ nI k
theorem in_or (x : Int32) {n : Nat} (hn : n < 2 ^ 31) : (∃ k, k < n ∧ x = nI k) ∨ out x n := by
  rcases pk_ix x hn with h | h | ⟨k, h1, h2⟩
  · exact Or.inr fun k hk e => nI_pos (show k < 2 ^ 31 by omega) (e ▸ h)
  · exact Or.inr fun k hk e => by subst e; exact absurd ((nI_leI hn (by omega)).mp h) (by omega)
  · exact Or.inl ⟨k, h1, h2⟩
theorem out_c {x : Int32} {n : Nat} (hn : n < 2 ^ 31) (h : out x n) (h0 : ¬ x < 0) : nI n ≤ x := by
  rcases pk_ix x hn with a | a | ⟨k, h1, h2⟩
  · exact absurd a h0
  · exact a
  · exact absurd h2 (h k h1)
theorem out_nlt {x : Int32} {n : Nat} (hn : n < 2 ^ 31) (h : out x n) (h0 : ¬ x < 0) : ¬ x < nI n := by
  have := out_c hn h h0
  rw [Int32.le_iff_toInt_le] at this
  rw [Int32.lt_iff_toInt_lt]
  omega
theorem fa_subI {n : Nat} (hn : n < 2 ^ 31) : (nI n - nI 1).toInt = (n : Int) - 1 := by
  rcases Nat.eq_zero_or_pos n with rfl | h
  · decide +kernel
  · obtain ⟨m, rfl⟩ : ∃ m, n = m + 1 := ⟨n - 1, by omega⟩
    rw [pk_sub (by omega), nI_toInt (by omega)]
    omega
theorem le_out {x : Int32} {n : Nat} (hn : n < 2 ^ 31) (h : out x n) (h0 : ¬ x < 0) (h1 : ¬ nI n - nI 1 < x) : False := by
  rcases pk_ix x hn with a | a | ⟨k, g1, g2⟩
  · exact h0 a
  · apply h1
    rw [Int32.le_iff_toInt_le, nI_toInt hn] at a
    rw [Int32.lt_iff_toInt_lt, fa_subI hn]
    omega
  · exact h k g1 g2
theorem lt_in {n k : Nat} (hn : n < 2 ^ 31) (hk : k < n) : ¬ nI n - nI 1 < nI k := by
  rw [Int32.lt_iff_toInt_lt, fa_subI hn, nI_toInt (by omega)]
  omega
/-! helpers of the reference -/
theorem sM_in {d : Nat} {r : Rr} {g : Gi} {j : Gl} {K : Int32 → Rr → Gi → Gl → Prop} {x : Int32} {n : Nat} (hn : n < 2 ^ 31) (h1 : ∀ k, k < n → x = nI k → K (nI 1) r g j) (h0 : out x n → K (nI 0) r g j) : Cm d 144 [.int x, .int (nI 0), .int (nI n - nI 1)] r g j (rkI K) := by
  rcases in_or x hn with ⟨k, hk, e⟩ | ho
  · have h2 := h1 k hk e
    subst e
    exact vX10_in_0 ⟨fun a => absurd (n00 ▸ a) (nlt_0 (by omega)), fun _ => ⟨fun a => absurd a (lt_in hn hk), fun _ => ⟨bo1, h2⟩⟩⟩
  · have h2 := h0 ho
    exact vX10_in_0 ⟨fun _ => ⟨bo0, h2⟩, fun a => ⟨fun _ => ⟨bo0, h2⟩, fun b => (le_out hn ho (n00 ▸ a) b).elim⟩⟩
theorem sM_good {d : Nat} {r : Rr} {g : Gi} {j : Gl} {K : Rr → Gi → Gl → Prop} (h : K r (uI (uI g 263 0 (nI 0)) 263 11 (nI 0)) j) : Cm d 141 [.ref 263] r g j (rkV K) := vX10_good_0 h
theorem sM_isShip {d : Nat} {r : Rr} {g : Gi} {j : Gl} {K : Int32 → Rr → Gi → Gl → Prop} {x : Int32} {n b : Nat} (hn : n < 2 ^ 31) (hb : g 263 14 = nI b) (hbn : (b = 0 ∧ n = 0) ∨ b = 1) (hg : g 266 4 = nI n) (h1 : ∀ k, k < n → x = nI k → K (nI 1) r g j) (h0 : out x n → K (nI 0) r g j) : Cm (d + 1) 176 [.ref 263, .int x] r g j (rkI K) := by
  refine vX10_isShip_0 ⟨fun a => ⟨bo0, h0 ?_⟩, fun a => IX_l (by decide) ?_⟩
  · rcases hbn with ⟨rfl, rfl⟩ | rfl
    · intro k hk; omega
    · rw [hb] at a; exact absurd a n10
  · rw [hg]
    exact sM_in hn (fun k hk e => ⟨fun a => absurd a n10, fun _ => ⟨bo1, h1 k hk e⟩⟩) (fun o => ⟨fun _ => ⟨bo0, h0 o⟩, fun a => absurd n00 a⟩)
