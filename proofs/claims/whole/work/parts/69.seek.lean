/-! CRANES, the class: how an Outing holds the stacks; move, stillNeeded -/
def OT (s : St) (g : Gi) : Prop := ∀ i, i < 3 → g 76 i = nI (cr_g s i).length ∧ ∀ l1 k l2, cr_g s i = l1 ++ k :: l2 → g 75 (5 * i + l2.length) = nI k
def OD (cnt B : Nat) (fr e : Nat → Nat) (g : Gi) : Prop := cnt ≤ 5 ∧ B ≤ 30 ∧ g 73 8 = nI cnt ∧ g 73 9 = nI B ∧ ∀ k, k < cnt → g 77 k = nI (e k) ∧ g 78 k = nI (if fr k = 0 then 0 else 1)
def lst : List Nat → Nat
  | [] => 5
  | k :: l => if k < lst l then k else lst l
theorem lst_lt {k : Nat} (hk : k ≤ 5) : ∀ l, lst l < k ↔ ∃ x, x ∈ l ∧ x < k := by
  intro l
  induction l with
  | nil =>
    constructor
    · intro h
      have : (5 : Nat) < k := h
      omega
    · rintro ⟨x, hx, _⟩; cases hx
  | cons a l ih =>
    constructor
    · intro h
      have h : (if a < lst l then a else lst l) < k := h
      split at h
      · exact ⟨a, List.mem_cons_self, h⟩
      · obtain ⟨x, h1, h2⟩ := ih.mp h
        exact ⟨x, List.mem_cons_of_mem _ h1, h2⟩
    · rintro ⟨x, hx, h2⟩
      show (if a < lst l then a else lst l) < k
      rcases List.mem_cons.mp hx with rfl | hx
      · split <;> omega
      · have := ih.mpr ⟨x, hx, h2⟩
        split <;> omega
theorem lst_5 : ∀ l, lst l ≤ 5 := by
  intro l
  induction l with
  | nil => exact Nat.le_refl _
  | cons a l ih => show (if a < lst l then a else lst l) ≤ 5; split <;> omega
theorem nI_if {a b : Nat} (ha : a < 2 ^ 31) (hb : b < 2 ^ 31) : (if nI a < nI b then nI a else nI b) = nI (if a < b then a else b) := by
  by_cases c : a < b
  · rw [if_pos c, if_pos ((nI_ltI ha hb).mpr c)]
  · rw [if_neg c, if_neg (fun h => c ((nI_ltI ha hb).mp h))]
section
variable {fr e : Nat → Nat} {s s' : St} {f t k n n' cnt B d : Nat} {r : Rr} {g g' : Gi} {j : Gl}
theorem V_two (hV : cr_V cnt s) (hf : f < 3) (ht : t < 3) (hft : f ≠ t) : (cr_g s f).length + (cr_g s t).length + s.1 ≤ cnt := by
  have := hV.2
  rcases i3 hf with rfl | rfl | rfl <;> rcases i3 ht with rfl | rfl | rfl <;> first | exact absurd rfl hft | omega
theorem OT.eq (h : OT s g) (e1 : ∀ a q, a = 75 ∨ a = 76 → g' a q = g a q) : OT s g' := fun i hi => ⟨by rw [e1 76 i (by omega)]; exact (h i hi).1, fun l1 k l2 hg => by rw [e1 75 _ (by omega)]; exact (h i hi).2 l1 k l2 hg⟩
theorem OD.eq (h : OD cnt B fr e g) (e1 : ∀ a q, a = 77 ∨ a = 78 ∨ (a = 73 ∧ (q = 8 ∨ q = 9)) → g' a q = g a q) : OD cnt B fr e g' := ⟨h.1, h.2.1, by rw [e1 73 8 (by omega)]; exact h.2.2.1, by rw [e1 73 9 (by omega)]; exact h.2.2.2.1, fun k hk => by rw [e1 77 k (by omega), e1 78 k (by omega)]; exact h.2.2.2.2 k hk⟩
/-- one crate of the Outing's stacks goes over -/
theorem OT_move {l : List Nat} {v : Int32} (hV : cr_V cnt s) (h5 : cnt ≤ 5) (hO : OT s g) (hf : f < 3) (ht : t < 3) (hft : f ≠ t) (hg : cr_g s f = k :: l) (hv : v = nI k) : OT (cr_p (cr_p s f l) t (k :: cr_g s t)) (uI (uI (uI g 76 f (nI l.length)) 75 (5 * t + (cr_g s t).length) v) 76 t (nI ((cr_g s t).length + 1))) := by
  have h2 := V_two hV hf ht hft
  have hF := hO f hf
  have hT := hO t ht
  rw [hg] at h2
  simp only [List.length_cons] at h2
  intro i hi
  by_cases c1 : i = t
  · subst c1
    rw [cr_gs hi]
    refine ⟨uI_s, fun l1 k' l2 he => ?_⟩
    rw [uI_o (by decide)]
    cases l1 with
    | nil =>
      simp only [List.nil_append, List.cons.injEq] at he
      obtain ⟨rfl, rfl⟩ := he
      rw [uI_s]; exact hv
    | cons a l1 =>
      simp only [List.cons_append, List.cons.injEq] at he
      have hl : (cr_g s i).length = l1.length + (l2.length + 1) := by rw [he.2]; simp
      rw [uI_n (by omega), uI_o (by decide)]
      exact hT.2 l1 k' l2 he.2
  · rw [cr_go ht hi c1]
    by_cases c2 : i = f
    · subst c2
      rw [cr_gs hi]
      refine ⟨by rw [uI_n c1, uI_o (by decide), uI_s], fun l1 k' l2 he => ?_⟩
      have hl : l.length = l1.length + (l2.length + 1) := by rw [he]; simp
      rw [uI_o (by decide), uI_n (by omega), uI_o (by decide)]
      exact hF.2 (k :: l1) k' l2 (by rw [hg, he]; rfl)
    · rw [cr_go hf hi c2]
      have h3 := V_len hV hi
      refine ⟨by rw [uI_n c1, uI_o (by decide), uI_n c2]; exact (hO i hi).1, fun l1 k' l2 he => ?_⟩
      have hl : (cr_g s i).length = l1.length + (l2.length + 1) := by rw [he]; simp
      rw [uI_o (by decide), uI_n (by omega), uI_o (by decide)]
      exact (hO i hi).2 l1 k' l2 he
theorem X_move {K : Rr → Gi → Gl → Prop} {l : List Nat} (hV : cr_V cnt s) (h5 : cnt ≤ 5) (hO : OT s g) (hf : f < 3) (ht : t < 3) (hft : f ≠ t) (hg : cr_g s f = k :: l) (h : ∀ g', OT (cr_p (cr_p s f l) t (k :: cr_g s t)) g' → (∀ a q, a ≠ 75 → a ≠ 76 → g' a q = g a q) → K r g' j) : Cm d 22 [.ref 73, .int (nI f), .int (nI t)] r g j (rkV K) := by
  have h2 := V_two hV hf ht hft
  have hF := hO f hf
  have hT := hO t ht
  rw [hg] at h2 hF
  simp only [List.length_cons] at h2 hF
  have e1 : g 76 f - nI 1 = nI l.length := by rw [hF.1, pk_sub (by omega)]; rfl
  have e2 : (uI g 76 f (g 76 f - nI 1)) 76 t = nI (cr_g s t).length := by rw [uI_n (Ne.symm hft)]; exact hT.1
  refine vX3_move_0 (IX_l hf (IX_l hf (IX_l ht (IX_l hf (IX_e (q := 5 * f + l.length) (by rw [uI_s, e1, pk_mul, nI_add, Nat.mul_comm]) (by omega) (IX_e (q := 5 * t + (cr_g s t).length) (by rw [e2, pk_mul, nI_add, Nat.mul_comm]) (by omega) (IX_l ht (IX_l ht ?_))))))))
  rw [e2, e1, nI_add]
  refine h _ (OT_move hV h5 hO hf ht hft hg (hF.2 [] k l rfl)) (fun a q h1 h2 => ?_)
  rw [uI_o h2, uI_o h1, uI_o h2]
theorem eS_le (he : ∀ k, e k ≤ 2) (lo : Nat) : ∀ n, eS e lo n ≤ 2 * n := by
  intro n
  induction n with
  | zero => exact Nat.le_refl _
  | succ n ih =>
    show eS e lo n + e (lo + n) ≤ _
    have := he (lo + n); omega
theorem b_le (he : ∀ k, e k ≤ 2) : ∀ l, cr_b e l ≤ 2 * l.length := by
  intro l
  induction l with
  | nil => exact Nat.le_refl _
  | cons k l ih =>
    show cr_b e l + _ ≤ 2 * (l.length + 1)
    have := he k
    split <;> omega
theorem X_still3 {K : Int32 → Rr → Gi → Gl → Prop} (hV : cr_V cnt s) (hO : OT s g) (h5 : cnt ≤ 5) (h77 : ∀ k, k < cnt → g 77 k = nI (e k)) {i A : Nat} (hi : i < 3) (h : G (d + 1) 19 29 [(0, .ref 73), (2, .int (nI (A + cr_b e (cr_g s i)))), (3, .int (nI (i + 1)))] [] r g j (rkI K)) : ∀ (q : Nat) (l1 l2 : List Nat), l1.length = q → cr_g s i = l1 ++ l2 → G (d + 1) 19 40 [(0, .ref 73), (2, .int (nI (A + cr_b e l2))), (3, .int (nI i)), (4, .int (nI (lst l2))), (5, .int (nI l2.length))] [] r g j (rkI K) := by
  have hlen := V_len hV hi
  have hT := hO i hi
  intro q
  induction q with
  | zero =>
    intro l1 l2 hq hg
    have : l1 = [] := List.eq_nil_of_length_eq_zero hq
    subst this
    simp only [List.nil_append] at hg
    refine vX3_stillNeeded_40 (IX_l hi ⟨fun _ => ?_, fun a => absurd ?_ a⟩)
    · rw [nI_add, ← hg]; exact h
    · rw [hT.1, hg]; exact Int32.le_refl _
  | succ q ih =>
    intro l1 l2 hq hg
    rcases List.eq_nil_or_concat l1 with h0 | ⟨l, k, hl⟩
    · rw [h0] at hq; simp at hq
    · subst hl
      rw [List.concat_eq_append] at hg hq
      simp only [List.length_append, List.length_cons, List.length_nil] at hq
      have hg2 : cr_g s i = l ++ k :: l2 := by rw [hg]; simp
      have hl : (cr_g s i).length = l.length + (l2.length + 1) := by rw [hg2]; simp
      have hk := V_mem hV hi (show k ∈ cr_g s i by rw [hg2]; simp)
      have e75 : g 75 (5 * i + l2.length) = nI k := hT.2 l k l2 hg2
      have e77 := h77 k hk.2
      have h5l := lst_5 l2
      have ih := ih l (k :: l2) (by omega) hg2
      have el : nI (if k < lst l2 then k else lst l2) = nI (lst (k :: l2)) := rfl
      refine vX3_stillNeeded_40 (IX_l hi ⟨fun a => ?_, fun _ => IX_e (q := 5 * i + l2.length) (by rw [pk_mul, nI_add, Nat.mul_comm]) (by omega) ?_⟩)
      · rw [hT.1] at a; exact absurd a (nI_ge (by omega) (by omega))
      · rw [e75]
        refine ⟨fun a => vX3_stillNeeded_81 ?_, fun a => IX_l (by omega) (vX3_stillNeeded_81 ?_)⟩
        · have a := le_n (by omega) (by omega) a
          have hno : ¬ ∃ x, x ∈ l2 ∧ x < k := fun z => by have := (lst_lt (by omega) l2).mpr z; omega
          have eb : cr_b e (k :: l2) = cr_b e l2 := by show cr_b e l2 + (if _ then _ else _) = _; rw [if_neg hno]; rfl
          rw [nI_if (by omega) (by omega), nI_add, el, ← eb]
          exact ih
        · have hyes : ∃ x, x ∈ l2 ∧ x < k := (lst_lt (by omega) l2).mp (by
            rw [← Nat.not_le]; exact fun z => a (nI_le z (by omega)))
          have eb : cr_b e (k :: l2) = cr_b e l2 + e k := by show cr_b e l2 + (if _ then _ else _) = _; rw [if_pos hyes]
          rw [nI_if (by omega) (by omega), nI_add, e77, nI_add, el, Nat.add_assoc, ← eb]
          exact ih
theorem X_stillE {K : Int32 → Rr → Gi → Gl → Prop} (hV : cr_V cnt s) (hO : OT s g) (h5 : cnt ≤ 5) (h8 : g 73 8 = nI cnt) (h77 : ∀ k, k < cnt → g 77 k = nI (e k)) (h : K (nI (cr_s (cr_h e) s)) r g j) : Cm (d + 1) 19 [.ref 73, .int (nI s.1)] r g j (rkI K) := by
  have hs : s.1 ≤ cnt := by have := hV.2; omega
  have st2 : ∀ i A, i < 3 → G (d + 1) 19 29 [(0, .ref 73), (2, .int (nI (A + cr_b e (cr_g s i)))), (3, .int (nI (i + 1)))] [] r g j (rkI K) → G (d + 1) 19 29 [(0, .ref 73), (2, .int (nI A)), (3, .int (nI i))] [] r g j (rkI K) := fun i A hi h =>
    vX3_stillNeeded_29 ⟨fun a => absurd a (nI_ge hi (by decide)), fun _ => X_still3 hV hO h5 h77 hi h (cr_g s i).length (cr_g s i) [] rfl (by simp)⟩
  have fin : G (d + 1) 19 29 [(0, .ref 73), (2, .int (nI (eS e s.1 (cnt - s.1)))), (3, .int (nI 0))] [] r g j (rkI K) := by
    refine st2 0 _ (by decide) (st2 1 _ (by decide) (st2 2 _ (by decide) (vX3_stillNeeded_29 ⟨fun _ => ?_, fun a => absurd (Int32.le_refl _) a⟩)))
    rw [← H_sum hV]; exact h
  have loop : ∀ q i, i + q = cnt - s.1 → G (d + 1) 19 4 [(0, .ref 73), (2, .int (nI (eS e s.1 i))), (3, .int (nI (s.1 + i)))] [] r g j (rkI K) := by
    intro q
    induction q with
    | zero =>
      intro i hi
      have : i = cnt - s.1 := by omega
      subst this
      refine vX3_stillNeeded_4 ⟨fun _ => fin, fun a => absurd ?_ a⟩
      rw [h8]; exact nI_le (by omega) (by omega)
    | succ q ih =>
      intro i hi
      refine vX3_stillNeeded_4 ⟨fun a => ?_, fun _ => IX_l (by omega) ?_⟩
      · rw [h8] at a; exact absurd a (nI_ge (by omega) (by omega))
      · rw [h77 (s.1 + i) (by omega), nI_add, nI_add]
        exact ih (i + 1) (by omega)
  exact vX3_stillNeeded_0 (loop (cnt - s.1) 0 (by omega))
theorem X_still {K : Int32 → Rr → Gi → Gl → Prop} (hV : cr_V cnt s) (hO : OT s g) (hD : OD cnt B fr e g) (h : K (nI (cr_s (cr_h e) s)) r g j) : Cm (d + 1) 19 [.ref 73, .int (nI s.1)] r g j (rkI K) := X_stillE hV hO hD.1 hD.2.2.1 (fun k hk => (hD.2.2.2.2 k hk).1) h
end
