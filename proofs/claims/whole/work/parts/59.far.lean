/-! how far: the class's table against the reference's rounds -/
abbrev wF (R : Nat → Nat) (a c : Nat) : Nat := R (101 + 5 * a + c)
section
variable {R : Nat → Nat}
theorem fw_s (k a c : Nat) : fwF R (k + 1) a c = if fwF R k a k + fwF R k k c < fwF R k a c then fwF R k a k + fwF R k k c else fwF R k a c := rfl
theorem fw_dec (k a c : Nat) : fwF R (k + 1) a c ≤ fwF R k a c := by rw [fw_s]; split <;> omega
theorem fw_via (k a c : Nat) : fwF R (k + 1) a c ≤ fwF R k a k + fwF R k k c := by rw [fw_s]; split <;> omega
theorem fw_or (k a c : Nat) : fwF R (k + 1) a c = fwF R k a c ∨ (fwF R (k + 1) a c = fwF R k a k + fwF R k k c ∧ fwF R k a k + fwF R k k c < fwF R k a c) := by
  rw [fw_s]
  by_cases h : fwF R k a k + fwF R k k c < fwF R k a c
  · rw [if_pos h]; exact Or.inr ⟨rfl, h⟩
  · rw [if_neg h]; exact Or.inl rfl
theorem fw_z (a : Nat) : ∀ k, fwF R k a a = 0 := by
  intro k
  induction k with
  | zero => show (if a = a then 0 else _) = 0; rw [if_pos rfl]
  | succ k ih => have := fw_dec (R := R) k a a; omega
theorem fw_tri : ∀ k a c i, i < k → fwF R k a c ≤ fwF R k a i + fwF R k i c := by
  intro k
  induction k with
  | zero => intro a c i hi; omega
  | succ k ih =>
    intro a c i hi
    have z := fw_z (R := R) k k
    have d := fw_dec (R := R) k a c
    have v := fw_via (R := R) k a c
    rcases fw_or (R := R) k a i with e1 | ⟨e1, l1⟩ <;> rcases fw_or (R := R) k i c with e2 | ⟨e2, l2⟩ <;> rw [e1, e2]
    · by_cases e : i = k
      · subst e; exact v
      · have := ih a c i (by omega); omega
    · by_cases e : i = k
      · subst e; omega
      · have := ih a k i (by omega); omega
    · by_cases e : i = k
      · subst e; omega
      · have := ih k c i (by omega); omega
    · omega
theorem fw_M (hR : ∀ a c, a < 5 → c < 5 → wF R a c ≤ 9) {a c : Nat} (ha : a < 5) (hc : c < 5) : ∀ k, fwF R k a c ≤ 1000000 := by
  intro k
  induction k with
  | zero =>
    show (if a = c then 0 else if 0 < R (101 + 5 * a + c) then R (101 + 5 * a + c) else 1000000) ≤ 1000000
    have : R (101 + 5 * a + c) ≤ 9 := hR a c ha hc
    split
    · omega
    · split <;> omega
  | succ k ih => have := fw_dec (R := R) k a c; omega
theorem fw_edge {a c : Nat} (h : 0 < wF R a c) : ∀ k, fwF R k a c ≤ wF R a c := by
  intro k
  induction k with
  | zero =>
    have h : 0 < R (101 + 5 * a + c) := h
    show (if a = c then 0 else if 0 < R (101 + 5 * a + c) then R (101 + 5 * a + c) else 1000000) ≤ R (101 + 5 * a + c)
    split
    · omega
    · exact Nat.le_refl _
  | succ k ih => have := fw_dec (R := R) k a c; omega
theorem fw_feas {a e c : Nat} (he : e < 5) (h : 0 < wF R a e) : fwF R 5 a c ≤ wF R a e + fwF R 5 e c := by
  have := fw_tri (R := R) 5 a c e he
  have := fw_edge h 5
  omega
theorem fw_tight : ∀ k, k ≤ 5 → ∀ a c, c < 5 → a ≠ c → fwF R k a c < 1000000 → ∃ e, e < 5 ∧ 0 < wF R a e ∧ wF R a e + fwF R k e c ≤ fwF R k a c := by
  intro k
  induction k with
  | zero =>
    intro _ a c hc hne hl
    have e : fwF R 0 a c = if a = c then 0 else if 0 < R (101 + 5 * a + c) then R (101 + 5 * a + c) else 1000000 := rfl
    rw [if_neg hne] at e
    by_cases h : 0 < R (101 + 5 * a + c)
    · rw [if_pos h] at e
      exact ⟨c, hc, h, by rw [fw_z, e]; exact Nat.le_refl _⟩
    · rw [if_neg h] at e; omega
  | succ k ih =>
    intro hk a c hc hne hl
    rcases fw_or (R := R) k a c with e1 | ⟨e1, l1⟩
    · obtain ⟨e, h1, h2, h3⟩ := ih (by omega) a c hc hne (by omega)
      exact ⟨e, h1, h2, by have := fw_dec (R := R) k e c; omega⟩
    · by_cases hak : a = k
      · subst hak
        have := fw_z (R := R) a a; omega
      · obtain ⟨e, h1, h2, h3⟩ := ih (by omega) a k (by omega) hak (by omega)
        exact ⟨e, h1, h2, by have := fw_via (R := R) k e c; omega⟩
theorem cntP_lt {P Q : Nat → Bool} {x : Nat} : ∀ N, (∀ i, i < N → P i = true → Q i = true) → x < N → P x = false → Q x = true → cntP P N + 1 ≤ cntP Q N := by
  have le : ∀ N, (∀ i, i < N → P i = true → Q i = true) → cntP P N ≤ cntP Q N := by
    intro N
    induction N with
    | zero => intro _; exact Nat.le_refl _
    | succ N ih =>
      intro h
      have := ih (fun i hi => h i (by omega))
      show cntP P N + (if P N = true then 1 else 0) ≤ cntP Q N + (if Q N = true then 1 else 0)
      by_cases hp : P N = true
      · rw [if_pos hp, if_pos (h N (by omega) hp)]; omega
      · rw [if_neg hp]; omega
  intro N
  induction N with
  | zero => intro _ hx; omega
  | succ N ih =>
    intro h hx hp hq
    show cntP P N + (if P N = true then 1 else 0) + 1 ≤ cntP Q N + (if Q N = true then 1 else 0)
    by_cases e : x = N
    · subst e
      have := le x (fun i hi => h i (by omega))
      rw [hp, hq, if_pos rfl, if_neg (by decide)]; omega
    · have := ih (fun i hi => h i (by omega)) (by omega) hp hq
      by_cases hp2 : P N = true
      · rw [if_pos hp2, if_pos (h N (by omega) hp2)]; omega
      · rw [if_neg hp2]; omega
/-- how many towns lie nearer to c than a -/
def nrF (R : Nat → Nat) (c a : Nat) : Nat := cntP (fun e => decide (fwF R 5 e c < fwF R 5 a c)) 5
theorem nr_lt {c a e : Nat} (he : e < 5) (h : fwF R 5 e c < fwF R 5 a c) : nrF R c e + 1 ≤ nrF R c a := by
  refine cntP_lt (x := e) 5 (fun i hi hp => ?_) he (by simp) (by simpa using h)
  simp only [decide_eq_true_eq] at hp ⊢
  omega
theorem nr_4 {c a : Nat} (ha : a < 5) : nrF R c a ≤ 4 := by
  have := cntP_lt (P := fun e => decide (fwF R 5 e c < fwF R 5 a c)) (Q := fun _ => true) (x := a) 5 (fun _ _ _ => rfl) ha (by simp) rfl
  have h2 : cntP (fun _ => true) 5 = 5 := rfl
  unfold nrF
  omega
/-- the reference's rounds: D never too small, and small enough for those with few nearer ones -/
def bfI (R : Nat → Nat) (c m : Nat) (D : Nat → Nat) : Prop := (∀ a, a < 5 → fwF R 5 a c ≤ D a ∧ D a ≤ 1000000) ∧ ∀ a, a < 5 → nrF R c a ≤ m → D a ≤ fwF R 5 a c
theorem bf_0 {c : Nat} (hR : ∀ a c, a < 5 → c < 5 → wF R a c ≤ 9) (hc : c < 5) : bfI R c 0 (fun a => if a = c then 0 else 1000000) := by
  refine ⟨fun a ha => ?_, fun a ha h => ?_⟩
  · show fwF R 5 a c ≤ (if a = c then 0 else 1000000) ∧ (if a = c then 0 else 1000000) ≤ 1000000
    split
    · rename_i e; subst e; rw [fw_z]; omega
    · exact ⟨fw_M hR ha hc 5, Nat.le_refl _⟩
  · show (if a = c then 0 else 1000000) ≤ _
    split
    · exact Nat.zero_le _
    · rename_i e
      rcases Nat.lt_or_ge (fwF R 5 a c) 1000000 with h1 | h1
      · obtain ⟨b, b1, b2, b3⟩ := fw_tight (R := R) 5 (Nat.le_refl _) a c hc e h1
        have := nr_lt (R := R) (c := c) (a := a) b1 (by omega)
        omega
      · exact h1
theorem bf_fin {c : Nat} {D : Nat → Nat} (h : bfI R c 5 D) {a : Nat} (ha : a < 5) : D a = fwF R 5 a c := by
  have h1 := (h.1 a ha).1
  have h2 := h.2 a ha (by have := nr_4 (R := R) (c := c) ha; omega)
  omega
end
