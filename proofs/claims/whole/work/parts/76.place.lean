/-! CRANES, the reference: how many ways there are; the table of ways, placeOf -/
def insL (x : Nat) : List Nat → List (List Nat)
  | [] => [[x]]
  | a :: l => (x :: a :: l) :: (insL x l).map (fun q => a :: q)
def pms : List Nat → List (List Nat)
  | [] => [[]]
  | x :: l => (pms l).flatMap (insL x)
def splL : List Nat → List (List Nat × List Nat)
  | [] => [([], [])]
  | x :: l => ([], x :: l) :: (splL l).map (fun q => (x :: q.1, q.2))
def allS (cnt : Nat) : List St := (List.range (cnt + 1)).flatMap fun o => (pms (List.range' o (cnt - o))).flatMap fun l => (splL l).flatMap fun q => (splL q.2).map fun w => (o, q.1, w.1, w.2)
theorem insL_mem {x : Nat} {a2 : List Nat} : ∀ a1, a1 ++ x :: a2 ∈ insL x (a1 ++ a2) := by
  intro a1
  induction a1 with
  | nil =>
    cases a2 with
    | nil => exact List.mem_cons_self
    | cons b a2 => exact List.mem_cons_self
  | cons b a1 ih => exact List.mem_cons_of_mem _ (List.mem_map.mpr ⟨_, ih, rfl⟩)
theorem pms_mem : ∀ (l a : List Nat), a.Perm l → a ∈ pms l := by
  intro l
  induction l with
  | nil =>
    intro a h
    rw [List.Perm.eq_nil h]; exact List.mem_cons_self
  | cons x l ih =>
    intro a h
    have hx : x ∈ a := h.mem_iff.mpr List.mem_cons_self
    obtain ⟨a1, a2, rfl⟩ := List.append_of_mem hx
    have h2 : (a1 ++ a2).Perm l := List.Perm.cons_inv ((List.perm_middle.symm).trans h)
    exact List.mem_flatMap.mpr ⟨_, ih _ h2, insL_mem a1⟩
theorem splL_mem (b : List Nat) : ∀ a, (a, b) ∈ splL (a ++ b) := by
  intro a
  induction a with
  | nil =>
    cases b with
    | nil => exact List.mem_cons_self
    | cons x b => exact List.mem_cons_self
  | cons x a ih => exact List.mem_cons_of_mem _ (List.mem_map.mpr ⟨_, ih, rfl⟩)
theorem allS_mem {cnt : Nat} {s : St} (h : cr_V cnt s) : s ∈ allS cnt := by
  obtain ⟨o, a, b, c⟩ := s
  have hp : (a ++ b ++ c).Perm (List.range' o (cnt - o)) := V_perm h
  have hl : a.length + b.length + c.length + o = cnt := h.2
  refine List.mem_flatMap.mpr ⟨o, List.mem_range.mpr (by omega), List.mem_flatMap.mpr ⟨a ++ b ++ c, pms_mem _ _ hp, List.mem_flatMap.mpr ⟨(a, b ++ c), by rw [List.append_assoc]; exact splL_mem _ a, List.mem_map.mpr ⟨(b, c), splL_mem c b, rfl⟩⟩⟩⟩
set_option maxRecDepth 100000 in
theorem allS_len : ∀ c, c < 6 → (allS c).length < 3200 := by decide +kernel
theorem V_many {cnt : Nat} (h5 : cnt ≤ 5) {fs : List St} (hn : fs.Nodup) (h : ∀ s, s ∈ fs → cr_V cnt s) : fs.length < 3200 :=
  Nat.lt_of_le_of_lt (List.Nodup.length_le_of_subset hn (l₂ := allS cnt) (fun s hs => allS_mem (h s hs))) (allS_len cnt (by omega))
noncomputable def hsW (W : Nat) : Nat := (((lN W * lN 31) ^^^ (lN W >>> ((nI 17).toInt64 &&& 63))) ^^^ (lN W >>> ((nI 31).toInt64 &&& 63))).toBitVec.toNat % 8192
theorem hsW_lt (W : Nat) : hsW W < 8192 := Nat.mod_lt _ (by decide)
theorem hsW_e (W : Nat) : (((((lN W * lN 31) ^^^ (lN W >>> ((nI 17).toInt64 &&& 63))) ^^^ (lN W >>> ((nI 31).toInt64 &&& 63))) &&& (lN 8191)).toInt32) = nI (hsW W) := by
  have key : ∀ x : Int64, (x &&& lN 8191).toInt32 = nI (x.toBitVec.toNat % 8192) := by
    intro x
    have e := wb_of x
    rw [e, show (8191 : Nat) = 2 ^ 13 - 1 from rfl, fb_maskL, lN_i, ← e]
  exact key _
def HT (lb : Nat → Nat) (cnt : Nat) (tb : Nat → Option St) (fl : List Nat) (fa : Nat → Nat) (g : Gi) (j : Gl) : Prop :=
  (∀ k, k < 8192 → tb k = none → j 271 k = -(lN 1)) ∧ (∀ k s, k < 8192 → tb k = some s → j 271 k = lN (wyE lb s) ∧ cr_V cnt s) ∧
  (∀ k k' s, k < 8192 → k' < 8192 → tb k = some s → tb k' = some s → k = k') ∧
  (∀ k s, k < 8192 → tb k = some s → ∃ m, m < 8192 ∧ k = (hsW (wyE lb s) + m) % 8192 ∧ ∀ m', m' < m → tb ((hsW (wyE lb s) + m') % 8192) ≠ none) ∧
  (g 263 26 = nI fl.length ∧ (∀ i k, fl[i]? = some k → g 273 i = nI k) ∧ fl.Nodup ∧ ∀ k, k ∈ fl ↔ k < 8192 ∧ tb k ≠ none) ∧
  ∀ k, k < 8192 → tb k ≠ none → g 272 k = nI (fa k) ∧ fa k ≤ 1000000
def upO (tb : Nat → Option St) (k : Nat) (s : St) : Nat → Option St := fun i => if i = k then some s else tb i
theorem upO_s {tb : Nat → Option St} {k : Nat} {s : St} : upO tb k s k = some s := by unfold upO; rw [if_pos rfl]
theorem upO_o {tb : Nat → Option St} {k i : Nat} {s : St} (h : i ≠ k) : upO tb k s i = tb i := by unfold upO; rw [if_neg h]
section
variable {cnt d : Nat} {r : Rr} {g g' : Gi} {j j' : Gl} {s s' : St} {lb : Nat → Nat} {tb tb' : Nat → Option St} {fl fl' : List Nat} {fa fa' : Nat → Nat}
theorem HT.len (h5 : cnt ≤ 5) (H : HT lb cnt tb fl fa g j) : fl.length < 3200 := by
  obtain ⟨h1, h2, h3, h4, ⟨_, _, hn, hm⟩, _⟩ := H
  have e : (fl.map (fun k => (tb k).getD (0, [], [], []))).length < 3200 := by
    refine V_many h5 ?_ (fun s hs => ?_)
    · have : (fl.map (fun k => (tb k).getD (0, [], [], []))).Pairwise (fun a b => a ≠ b) := by
        rw [List.pairwise_map]
        refine List.Pairwise.imp_of_mem ?_ hn
        intro a b ha hb hab e
        obtain ⟨a1, a2⟩ := (hm a).mp ha
        obtain ⟨b1, b2⟩ := (hm b).mp hb
        cases ea : tb a with
        | none => exact a2 ea
        | some sa =>
          cases eb : tb b with
          | none => exact b2 eb
          | some sb =>
            rw [ea, eb] at e
            simp only [Option.getD_some] at e
            subst e
            exact hab (h3 a b sa a1 b1 ea eb)
      exact this
    · obtain ⟨k, hk, rfl⟩ := List.mem_map.mp hs
      obtain ⟨a1, a2⟩ := (hm k).mp hk
      cases ea : tb k with
      | none => exact absurd ea a2
      | some sa => exact (h2 k sa a1 ea).2
  rw [List.length_map] at e
  exact e
theorem HT.free (h5 : cnt ≤ 5) (H : HT lb cnt tb fl fa g j) : ∃ k, k < 8192 ∧ tb k = none := by
  apply Classical.byContradiction
  intro z
  have hl := H.len h5
  have hm := H.2.2.2.2.1.2.2.2
  have := List.Nodup.length_le_of_subset (List.nodup_range (n := 8192)) (l₂ := fl) (fun k hk => (hm k).mpr ⟨List.mem_range.mp hk, fun e => z ⟨k, List.mem_range.mp hk, e⟩⟩)
  rw [List.length_range] at this
  omega
theorem HT.fr (H : HT lb cnt tb fl fa g j) (e : ∀ a q, a = 272 ∨ a = 273 ∨ (a = 263 ∧ q = 26) → g' a q = g a q) : HT lb cnt tb fl fa g' j := by
  obtain ⟨h1, h2, h3, h4, ⟨f1, f2, f3, f4⟩, h6⟩ := H
  exact ⟨h1, h2, h3, h4, ⟨by rw [e 263 26 (by omega)]; exact f1, fun i k hi => by rw [e 273 i (by omega)]; exact f2 i k hi, f3, f4⟩, fun k hk hn => by rw [e 272 k (by omega)]; exact h6 k hk hn⟩
theorem M_placeOf {K : Int32 → Rr → Gi → Gl → Prop} (hb : ∀ k, lb k ≤ 4) (hj : ∀ k k', k < cnt → k' < cnt → lb k = lb k' → k = k') (h5 : cnt ≤ 5) (H : HT lb cnt tb fl fa g j) (hC : cr_V cnt s)
    (p1 : ∀ k, k < 8192 → tb k = some s → K (nI k) r g j)
    (p2 : ∀ k g' j', k < 8192 → tb k = none → (∀ k', k' < 8192 → tb k' ≠ some s) → HT lb cnt (upO tb k s) (fl ++ [k]) (upN fa k (if wyE lb s = 0 then 0 else 1000000)) g' j' → (∀ a q, ¬ (a = 272 ∨ a = 273 ∨ (a = 263 ∧ q = 26)) → g' a q = g a q) → (∀ a q, a ≠ 271 → j' a q = j a q) → K (nI k) r g' j') : Cm d 204 [.ref 263, .long (lN (wyE lb s))] r g j (rkI K) := by
  have hlen := H.len h5
  have l5 : ∀ t, t < 3 → (cr_g s t).length ≤ 5 := fun t ht => by have := V_len hC ht; omega
  have hW := wyE_lt hb l5
  have hh := hsW_lt (wyE lb s)
  have hm1 : ∀ W, W < 2 ^ 45 → ¬ -(lN 1) = lN W := by
    intro W hW e
    have h1 : -(lN 1) < lN 0 := by decide +kernel
    rw [e, pk_lLT (by omega) (by decide)] at h1
    omega
  -- the place at which the search ends
  obtain ⟨M, hM, hMl⟩ := pk_least (fun m => m < 8192 ∧ (tb ((hsW (wyE lb s) + m) % 8192) = none ∨ tb ((hsW (wyE lb s) + m) % 8192) = some s)) (by
    obtain ⟨k, hk, e⟩ := H.free h5
    refine ⟨(k + 8192 - hsW (wyE lb s)) % 8192, Nat.mod_lt _ (by decide), Or.inl ?_⟩
    rw [show (hsW (wyE lb s) + (k + 8192 - hsW (wyE lb s)) % 8192) % 8192 = k by omega]
    exact e)
  obtain ⟨hM1, hM2⟩ := hM
  have occ : ∀ m, m < M → tb ((hsW (wyE lb s) + m) % 8192) ≠ none := fun m hm e => hMl m hm ⟨by omega, Or.inl e⟩
  have hk : (hsW (wyE lb s) + M) % 8192 < 8192 := Nat.mod_lt _ (by decide)
  obtain ⟨h1, h2, h3, h4, ⟨f1, f2, f3, f4⟩, h6⟩ := id H
  have stop : G d 204 56 [(0, .ref 263), (1, .long (lN (wyE lb s))), (3, .int (nI ((hsW (wyE lb s) + M) % 8192)))] [] r g j (rkI K) := by
    generalize ek : (hsW (wyE lb s) + M) % 8192 = k at hk hM2
    rcases hM2 with e | e
    · have hnot : ∀ k', k' < 8192 → tb k' ≠ some s := by
        intro k' hk' e'
        obtain ⟨m, m1, m2, m3⟩ := h4 k' s hk' e'
        rcases Nat.lt_trichotomy m M with z | z | z
        · exact hMl m z ⟨m1, Or.inr (by rw [← m2]; exact e')⟩
        · subst z
          rw [← m2] at ek
          rw [ek] at e'
          rw [e] at e'; cases e'
        · exact m3 M z (by rw [ek]; exact e)
      have hnk : ¬ k ∈ fl := fun z => ((f4 k).mp z).2 e
      refine vX10_placeOf_56 (IX_l hk ⟨fun a => ?_, fun _ => IX_l hk ?_⟩)
      · rw [lgz, h1 k hk e] at a
        exact absurd a (hm1 _ hW)
      have fin : ∀ v, v = (if wyE lb s = 0 then 0 else 1000000) → G d 204 94 [(0, .ref 263), (3, .int (nI k))] [.int (nI v), .int (nI k), .ref 272] r g (uJ j 271 k (lN (wyE lb s))) (rkI K) := by
        intro v hv
        refine vX10_placeOf_94 (IX_l hk (IX_e f1 hlen ?_))
        rw [f1, nI_add]
        refine p2 k _ _ hk e hnot ⟨fun k' hk' e' => ?_, fun k' s' hk' e' => ?_, fun k' k'' s' a1 a2 e1 e2 => ?_, fun k' s' hk' e' => ?_, ⟨?_, fun i k' hi => ?_, ?_, fun k' => ?_⟩, fun k' hk' e' => ?_⟩ (fun a q z => ?_) (fun a q z => uJ_o z ▸ rfl)
        · by_cases c : k' = k
          · subst c; rw [upO_s] at e'; cases e'
          · rw [upO_o c] at e'
            rw [uJ_n c]; exact h1 k' hk' e'
        · by_cases c : k' = k
          · subst c
            rw [upO_s] at e'
            simp only [Option.some.injEq] at e'
            subst e'
            exact ⟨uJ_s, hC⟩
          · rw [upO_o c] at e'
            rw [uJ_n c]; exact h2 k' s' hk' e'
        · by_cases c1 : k' = k
          · by_cases c2 : k'' = k
            · rw [c1, c2]
            · rw [c1, upO_s] at e1
              rw [upO_o c2] at e2
              simp only [Option.some.injEq] at e1
              subst e1
              exact absurd e2 (hnot k'' a2)
          · by_cases c2 : k'' = k
            · rw [c2, upO_s] at e2
              rw [upO_o c1] at e1
              simp only [Option.some.injEq] at e2
              subst e2
              exact absurd e1 (hnot k' a1)
            · rw [upO_o c1] at e1
              rw [upO_o c2] at e2
              exact h3 k' k'' s' a1 a2 e1 e2
        · by_cases c : k' = k
          · subst c
            rw [upO_s] at e'
            simp only [Option.some.injEq] at e'
            subst e'
            refine ⟨M, hM1, ek.symm, fun m' hm' z => occ m' hm' ?_⟩
            by_cases c2 : (hsW (wyE lb s) + m') % 8192 = k'
            · rw [c2, upO_s] at z; cases z
            · rw [upO_o c2] at z; exact z
          · rw [upO_o c] at e'
            obtain ⟨m, m1, m2, m3⟩ := h4 k' s' hk' e'
            refine ⟨m, m1, m2, fun m' hm' z => m3 m' hm' ?_⟩
            by_cases c2 : (hsW (wyE lb s') + m') % 8192 = k
            · rw [c2, upO_s] at z; cases z
            · rw [upO_o c2] at z; exact z
        · rw [uI_s, List.length_append]; rfl
        · rw [uI_o (by decide)]
          by_cases c : i < fl.length
          · rw [List.getElem?_append_left c] at hi
            rw [uI_n (by omega), uI_o (by decide)]; exact f2 i k' hi
          · rw [List.getElem?_append_right (by omega)] at hi
            by_cases c2 : i = fl.length
            · rw [c2, Nat.sub_self] at hi
              simp only [List.getElem?_cons_zero, Option.some.injEq] at hi
              rw [c2, uI_s, hi]
            · rw [List.getElem?_eq_none (by simp only [List.length_cons, List.length_nil]; omega)] at hi; cases hi
        · rw [List.nodup_append]
          exact ⟨f3, List.nodup_cons.mpr ⟨by simp, List.nodup_nil⟩, fun a ha b hb e2 => by
            simp only [List.mem_singleton] at hb
            rw [e2, hb] at ha
            exact hnk ha⟩
        · rw [List.mem_append, List.mem_singleton]
          by_cases c : k' = k
          · subst c
            exact ⟨fun _ => ⟨hk, by rw [upO_s]; exact fun z => by cases z⟩, fun _ => Or.inr rfl⟩
          · rw [upO_o c]
            exact ⟨fun z => (f4 k').mp (z.resolve_right c), fun z => Or.inl ((f4 k').mpr z)⟩
        · rw [uI_o (by decide), uI_o (by decide)]
          by_cases c : k' = k
          · subst c
            rw [uI_s, upN_s, hv]
            exact ⟨rfl, by split <;> omega⟩
          · rw [upO_o c] at e'
            rw [uI_n c, upN_o c]; exact h6 k' hk' e'
        · rw [uI_d (by omega), uI_o (by omega), uI_o (by omega)]
      rw [lgz, pk_lEQ (by omega) (by decide)]
      refine ⟨fun a => fin 0 ?_, fun a => fin 1000000 ?_⟩
      · rw [if_pos a]
      · rw [if_neg a]
    · refine vX10_placeOf_56 (IX_l hk ⟨fun _ => p1 k hk e, fun a => absurd ?_ a⟩)
      rw [lgz]; exact (h2 k s hk e).1
  have loop : ∀ q m, m + q = M → G d 204 21 [(0, .ref 263), (1, .long (lN (wyE lb s))), (3, .int (nI ((hsW (wyE lb s) + m) % 8192)))] [] r g j (rkI K) := by
    intro q
    induction q with
    | zero =>
      intro m hm
      have : m = M := by omega
      subst this
      refine vX10_placeOf_21 (IX_l hk ⟨fun _ => stop, fun a => IX_l hk ⟨fun _ => stop, fun a2 => ?_⟩⟩)
      exfalso
      rcases hM2 with e | e
      · exact a (lgz.mpr (h1 _ hk e))
      · exact a2 (lgz.mpr (h2 _ s hk e).1)
    | succ q ih =>
      intro m hm
      have hk2 : (hsW (wyE lb s) + m) % 8192 < 8192 := Nat.mod_lt _ (by decide)
      cases e : tb ((hsW (wyE lb s) + m) % 8192) with
      | none => exact absurd e (occ m (by omega))
      | some s' =>
        have hne : s' ≠ s := fun z => hMl m (by omega) ⟨by omega, Or.inr (by rw [e, z])⟩
        obtain ⟨e1, e2⟩ := h2 _ s' hk2 e
        have l5' : ∀ t, t < 3 → (cr_g s' t).length ≤ 5 := fun t ht => by have := V_len e2 ht; omega
        have hW' := wyE_lt hb l5'
        refine vX10_placeOf_21 (IX_l hk2 ⟨fun a => ?_, fun _ => IX_l hk2 ⟨fun a => ?_, fun _ => ?_⟩⟩)
        · rw [e1, lgz] at a; exact absurd a.symm (hm1 _ hW')
        · rw [e1, lgz, pk_lEQ (by omega) (by omega)] at a
          exact absurd (wyE_inj hb hj h5 e2 hC a) hne
        · rw [nI_add, pk_andN (by omega) 13 (by decide +kernel), show ((hsW (wyE lb s) + m) % 8192 + 1) % 2 ^ 13 = (hsW (wyE lb s) + (m + 1)) % 8192 by omega]
          exact ih (m + 1) (by omega)
  refine vX10_placeOf_0 ?_
  rw [hsW_e]
  have := loop M 0 (by omega)
  rw [Nat.add_zero, Nat.mod_eq_of_lt hh] at this
  exact this
theorem M_placeIn {K : Int32 → Rr → Gi → Gl → Prop} (hb : ∀ k, lb k ≤ 4) (hj : ∀ k k', k < cnt → k' < cnt → lb k = lb k' → k = k') (h5 : cnt ≤ 5) (H : HT lb cnt tb fl fa g j) {k : Nat} (hk : k < 8192) (e : tb k = some s) (h : K (nI k) r g j) : Cm d 204 [.ref 263, .long (lN (wyE lb s))] r g j (rkI K) := by
  refine M_placeOf hb hj h5 H (H.2.1 k s hk e).2 (fun k' hk' e' => ?_) (fun k' g' j' hk' e' hn => absurd e (hn k hk))
  rw [H.2.2.1 k' k s hk' hk e' e]; exact h
end
