/-! CRANES: when it can be, by how many at most; the crate lifted last is left alone; what all that lies there takes -/
def cr_x (fr : Nat → Nat) (s : St) : Prop := ∃ i k l m, i < 3 ∧ cr_g s i = m ++ k :: l ∧ fr k ≠ 0 ∧ (fr k = 2 ∨ ∃ x, x ∈ l ∧ x < k)
section
variable {fr e : Nat → Nat} {s s' s1 s2 : St} {f t k n n' n1 n2 cnt : Nat}
theorem X_step (hV : cr_V cnt s) (hx : cr_x fr s) (hf : f < 3) (ht : t ≤ 3) (h : cr_n fr s f t = some (k, s')) : cr_x fr s' := by
  obtain ⟨i, q, l, m, hi, hg, hq, hc⟩ := hx
  rcases Nat.lt_or_ge t 3 with h3 | h3
  · obtain ⟨lf, hgf, hft, hk, rfl⟩ := (cr_nt h3).mp h
    by_cases e1 : i = t
    · subst e1
      exact ⟨i, q, l, k :: m, hi, by rw [cr_gs h3, hg]; rfl, hq, hc⟩
    · by_cases e2 : i = f
      · subst e2
        rw [hgf] at hg
        cases m with
        | nil =>
          simp only [List.nil_append, List.cons.injEq] at hg
          exact absurd (hg.1 ▸ hk) hq
        | cons a m =>
          simp only [List.cons_append, List.cons.injEq] at hg
          exact ⟨i, q, l, m, hi, by rw [cr_go h3 hi e1, cr_gs hi]; exact hg.2, hq, hc⟩
      · exact ⟨i, q, l, m, hi, by rw [cr_go h3 hi e1, cr_go hf hi e2]; exact hg, hq, hc⟩
  · obtain rfl : t = 3 := by omega
    obtain ⟨lf, hgf, hk, hk2, rfl⟩ := (cr_nq hf).mp h
    by_cases e2 : i = f
    · subst e2
      rw [hgf] at hg
      cases m with
      | nil =>
        simp only [List.nil_append, List.cons.injEq] at hg
        obtain ⟨rfl, rfl⟩ := hg
        rcases hc with hc | ⟨x, hx1, hx2⟩
        · exact absurd hc hk2
        · have := V_mem hV hi (show x ∈ cr_g s i by rw [hgf]; exact List.mem_cons_of_mem _ hx1)
          omega
      | cons a m =>
        simp only [List.cons_append, List.cons.injEq] at hg
        exact ⟨i, q, l, m, hi, by rw [cr_gu, cr_gs hi]; exact hg.2, hq, hc⟩
    · exact ⟨i, q, l, m, hi, by rw [cr_gu, cr_go hf hi e2]; exact hg, hq, hc⟩
theorem X_no : ∀ l c s, cr_V cnt s → cr_x fr s → ¬ cr_q fr e l c s := by
  intro l
  induction l with
  | zero =>
    intro c s hV hx h
    obtain ⟨i, q, l, m, hi, hg, _⟩ := hx
    have := h.2 i hi
    rw [this] at hg
    simp at hg
  | succ l ih =>
    intro c s hV hx h
    obtain ⟨f, t, k, s', hf, ht, hm, hk, hq⟩ := h
    exact ih _ s' (V_step hV hf ht hm) (X_step hV hx hf ht hm) hq
theorem V_in (hV : cr_V cnt s) {x : Nat} (h1 : s.1 ≤ x) (h2 : x < cnt) : ∃ i, i < 3 ∧ x ∈ cr_g s i := by
  have a := hV.1 x
  rw [if_pos ⟨h1, h2⟩] at a
  by_cases c0 : x ∈ cr_g s 0
  · exact ⟨0, by decide, c0⟩
  · by_cases c1 : x ∈ cr_g s 1
    · exact ⟨1, by decide, c1⟩
    · by_cases c2 : x ∈ cr_g s 2
      · exact ⟨2, by decide, c2⟩
      · rw [List.count_eq_zero.mpr c0, List.count_eq_zero.mpr c1, List.count_eq_zero.mpr c2] at a
        omega
theorem V_one (hV : cr_V cnt s) {i x : Nat} (hi : i < 3) : List.count x (cr_g s i) ≤ 1 := by
  have a := hV.1 x
  have b : (if s.1 ≤ x ∧ x < cnt then 1 else 0) ≤ 1 := by split <;> omega
  rcases i3 hi with rfl | rfl | rfl <;> omega
theorem X_can (he : ∀ k, e k ≤ 2) : ∀ r s, cr_V cnt s → ¬ cr_x fr s → s.1 + r = cnt → ∃ l c, cr_q fr e l c s ∧ c ≤ r * (r + 1) := by
  intro r
  induction r with
  | zero =>
    intro s hV hx hr
    exact ⟨0, 0, ⟨rfl, (V_e hV).mpr (by omega)⟩, Nat.zero_le _⟩
  | succ r ih =>
    intro s hV hx hr
    have inner : ∀ (m : List Nat) (s : St) (i : Nat) (l : List Nat), cr_V cnt s → ¬ cr_x fr s → s.1 + (r + 1) = cnt → i < 3 → cr_g s i = m ++ s.1 :: l → ∃ ll c, cr_q fr e ll c s ∧ c ≤ 2 * m.length + 2 + r * (r + 1) := by
      intro m
      induction m with
      | nil =>
        intro s i l hV hx hr hi hg
        have h2 : fr s.1 ≠ 2 := fun h => hx ⟨i, s.1, l, [], hi, hg, by omega, Or.inl h⟩
        have hm : cr_n fr s i 3 = some (s.1, cr_u (cr_p s i l)) := (cr_nq hi).mpr ⟨l, hg, rfl, h2, rfl⟩
        have hx2 : ¬ cr_x fr (cr_u (cr_p s i l)) := by
          rintro ⟨i', q, l', m', hi', hg', hq, hc⟩
          rw [cr_gu] at hg'
          by_cases e1 : i' = i
          · subst e1
            rw [cr_gs hi] at hg'
            exact hx ⟨i', q, l', s.1 :: m', hi', by rw [hg, hg']; rfl, hq, hc⟩
          · rw [cr_go hi hi' e1] at hg'
            exact hx ⟨i', q, l', m', hi', hg', hq, hc⟩
        obtain ⟨ll, c, h3, h4⟩ := ih (cr_u (cr_p s i l)) (V_step hV hi (by decide) hm) hx2 (by show (cr_p s i l).1 + 1 + r = cnt; rw [cr_p1]; omega)
        exact ⟨ll + 1, e s.1 + c, ⟨i, 3, s.1, _, hi, by decide, hm, by omega, by rw [show e s.1 + c - e s.1 = c by omega]; exact h3⟩, by have := he s.1; simp only [List.length_nil]; omega⟩
      | cons a m ihm =>
        intro s i l hV hx hr hi hg
        have hg2 : cr_g s i = a :: (m ++ s.1 :: l) := hg
        have hin : s.1 ∈ m ++ s.1 :: l := by simp
        have hne : a ≠ s.1 := by
          intro e1
          have h0 := V_one hV (x := s.1) hi
          rw [hg2, e1, List.count_cons_self] at h0
          have h3 : 0 < List.count s.1 (m ++ s.1 :: l) := List.count_pos_iff.mpr hin
          omega
        have hge := V_mem hV hi (show a ∈ cr_g s i by rw [hg2]; exact List.mem_cons_self)
        have hfr : fr a = 0 := by
          rcases Nat.eq_zero_or_pos (fr a) with h | h
          · exact h
          · exact absurd ⟨i, a, m ++ s.1 :: l, [], hi, hg2, by omega, Or.inr ⟨s.1, hin, by omega⟩⟩ hx
        obtain ⟨t, ht, hti⟩ : ∃ t, t < 3 ∧ t ≠ i := by
          by_cases h : i = 0
          · exact ⟨1, by decide, by omega⟩
          · exact ⟨0, by decide, by omega⟩
        have hm : cr_n fr s i t = some (a, cr_p (cr_p s i (m ++ s.1 :: l)) t (a :: cr_g s t)) := (cr_nt ht).mpr ⟨_, hg2, Ne.symm hti, hfr, rfl⟩
        have h1 : (cr_p (cr_p s i (m ++ s.1 :: l)) t (a :: cr_g s t)).1 = s.1 := by rw [cr_p1, cr_p1]
        have hx2 : ¬ cr_x fr (cr_p (cr_p s i (m ++ s.1 :: l)) t (a :: cr_g s t)) := by
          rintro ⟨i', q, l', m', hi', hg', hq, hc⟩
          by_cases e0 : i' = t
          · subst e0
            rw [cr_gs ht] at hg'
            cases m' with
            | nil =>
              simp only [List.nil_append, List.cons.injEq] at hg'
              exact absurd (hg'.1 ▸ hfr) hq
            | cons b m' =>
              simp only [List.cons_append, List.cons.injEq] at hg'
              exact hx ⟨i', q, l', m', hi', hg'.2, hq, hc⟩
          · rw [cr_go ht hi' e0] at hg'
            by_cases e1 : i' = i
            · subst e1
              rw [cr_gs hi] at hg'
              exact hx ⟨i', q, l', a :: m', hi', by rw [hg2, hg']; rfl, hq, hc⟩
            · rw [cr_go hi hi' e1] at hg'
              exact hx ⟨i', q, l', m', hi', hg', hq, hc⟩
        obtain ⟨ll, c, h3, h4⟩ := ihm _ i l (V_step hV hi (by omega) hm) hx2 (by rw [h1]; exact hr) hi (by rw [h1, cr_go ht hi (Ne.symm hti), cr_gs hi])
        exact ⟨ll + 1, e a + c, ⟨i, t, a, _, hi, by omega, hm, by omega, by rw [show e a + c - e a = c by omega]; exact h3⟩, by have := he a; simp only [List.length_cons]; omega⟩
    obtain ⟨i, hi, hin⟩ := V_in hV (x := s.1) (Nat.le_refl _) (by omega)
    obtain ⟨m, l, hg⟩ := List.append_of_mem hin
    obtain ⟨ll, c, h3, h4⟩ := inner m s i l hV hx hr hi hg
    have h5 := V_len hV hi
    rw [hg] at h5
    simp only [List.length_append, List.length_cons] at h5
    have h6 : (r + 1) * (r + 1 + 1) = r * (r + 1) + (2 * r + 2) := by simp only [Nat.add_mul, Nat.mul_add]; omega
    exact ⟨ll, c, h3, by omega⟩
theorem X_twice (he : ∀ k, 1 ≤ e k) (hf : f < 3) (ht : t < 3) (hm : cr_n fr s f t = some (k, s')) (hn : cr_D fr e s n) (hn' : cr_D fr e s' n') (h : n = e k + n') {t' : Nat} (ht' : t' ≤ 3) : ¬ cr_o fr e s' n' t t' := by
  rintro ⟨k2, s2, n2, hm2, hn2, h2⟩
  obtain ⟨l, hg, hft, hk, rfl⟩ := (cr_nt ht).mp hm
  have h1 := he k
  rcases Nat.lt_or_ge t' 3 with h3 | h3
  · obtain ⟨l2, hg2, htt, hk2, rfl⟩ := (cr_nt h3).mp hm2
    rw [cr_gs ht] at hg2
    simp only [List.cons.injEq] at hg2
    obtain ⟨rfl, rfl⟩ := hg2
    by_cases e1 : t' = f
    · subst e1
      have es : cr_p (cr_p (cr_p (cr_p s t' l) t (k :: cr_g s t)) t (cr_g s t)) t' (k :: cr_g (cr_p (cr_p s t' l) t (k :: cr_g s t)) t') = s := by
        refine cr_ext (by simp only [cr_p1]) fun i hi => ?_
        by_cases c1 : i = t'
        · subst c1
          rw [cr_gs hi, cr_go ht hi (Ne.symm htt), cr_gs hi, hg]
        · rw [cr_go h3 hi c1]
          by_cases c2 : i = t
          · subst c2; rw [cr_gs hi]
          · rw [cr_go ht hi c2, cr_go ht hi c2, cr_go h3 hi c1]
      rw [es] at hn2
      have := D_u hn hn2
      omega
    · have hd : cr_n fr s f t' = some (k, cr_p (cr_p s f l) t' (k :: cr_g s t')) := (cr_nt h3).mpr ⟨l, hg, fun z => e1 z.symm, hk, rfl⟩
      have es : cr_p (cr_p (cr_p (cr_p s f l) t (k :: cr_g s t)) t (cr_g s t)) t' (k :: cr_g (cr_p (cr_p s f l) t (k :: cr_g s t)) t') = cr_p (cr_p s f l) t' (k :: cr_g s t') := by
        refine cr_ext (by simp only [cr_p1]) fun i hi => ?_
        by_cases c1 : i = t'
        · subst c1
          rw [cr_gs hi, cr_gs hi, cr_go ht hi (Ne.symm htt), cr_go hf hi e1]
        · rw [cr_go h3 hi c1, cr_go h3 hi c1]
          by_cases c2 : i = t
          · subst c2
            rw [cr_gs hi, cr_go hf hi (Ne.symm hft)]
          · rw [cr_go ht hi c2, cr_go ht hi c2]
      rw [es] at hn2
      have := D_step hf (by omega) hd hn hn2
      omega
  · obtain rfl : t' = 3 := by omega
    obtain ⟨l2, hg2, hk2, hk3, rfl⟩ := (cr_nq ht).mp hm2
    rw [cr_gs ht] at hg2
    simp only [List.cons.injEq] at hg2
    obtain ⟨rfl, rfl⟩ := hg2
    rw [cr_p1, cr_p1] at hk2
    have hd : cr_n fr s f 3 = some (k, cr_u (cr_p s f l)) := (cr_nq hf).mpr ⟨l, hg, hk2, hk3, rfl⟩
    have es : cr_u (cr_p (cr_p (cr_p s f l) t (k :: cr_g s t)) t (cr_g s t)) = cr_u (cr_p s f l) := by
      refine cr_ext ?_ fun i hi => ?_
      · show (cr_p (cr_p (cr_p s f l) t (k :: cr_g s t)) t (cr_g s t)).1 + 1 = (cr_p s f l).1 + 1
        simp only [cr_p1]
      · rw [cr_gu, cr_gu]
        by_cases c2 : i = t
        · subst c2
          rw [cr_gs hi, cr_go hf hi (Ne.symm hft)]
        · rw [cr_go ht hi c2, cr_go ht hi c2]
    rw [es] at hn2
    have := D_step hf (by decide) hd hn hn2
    omega
/-- the sum of what the ranks lo .. take -/
def eS (e : Nat → Nat) (lo : Nat) : Nat → Nat
  | 0 => 0
  | n + 1 => eS e lo n + e (lo + n)
def cr_w (e : Nat → Nat) : List Nat → Nat
  | [] => 0
  | k :: l => cr_w e l + e k
def cr_b (e : Nat → Nat) : List Nat → Nat
  | [] => 0
  | k :: l => cr_b e l + (if ∃ x, x ∈ l ∧ x < k then e k else 0)
theorem h_wb : ∀ l, cr_h e l = cr_w e l + cr_b e l := by
  intro l
  induction l with
  | nil => rfl
  | cons k l ih =>
    show cr_h e l + e k + _ = cr_w e l + e k + (cr_b e l + _)
    rw [ih]; omega
theorem w_perm {l l' : List Nat} (h : l.Perm l') : cr_w e l = cr_w e l' := by
  induction h with
  | nil => rfl
  | cons x _ ih => show cr_w e _ + e x = cr_w e _ + e x; rw [ih]
  | swap x y l => show cr_w e l + e x + e y = cr_w e l + e y + e x; omega
  | trans _ _ h1 h2 => rw [h1, h2]
theorem w_app : ∀ l l', cr_w e (l ++ l') = cr_w e l + cr_w e l' := by
  intro l l'
  induction l with
  | nil => show cr_w e l' = 0 + _; omega
  | cons k l ih =>
    show cr_w e (l ++ l') + e k = cr_w e l + e k + _
    rw [ih]; omega
theorem w_range (lo : Nat) : ∀ n, cr_w e (List.range' lo n) = eS e lo n := by
  intro n
  induction n with
  | zero => rfl
  | succ n ih =>
    rw [List.range'_1_concat, w_app, ih]
    show eS e lo n + (0 + e (lo + n)) = eS e lo n + e (lo + n)
    omega
theorem V_perm (hV : cr_V cnt s) : (cr_g s 0 ++ cr_g s 1 ++ cr_g s 2).Perm (List.range' s.1 (cnt - s.1)) := by
  rw [List.perm_iff_count]
  intro a
  rw [List.count_append, List.count_append, hV.1 a, List.Nodup.count List.nodup_range']
  simp only [List.mem_range'_1]
  by_cases c : s.1 ≤ a ∧ a < cnt
  · rw [if_pos c, if_pos (by omega)]
  · rw [if_neg c, if_neg (by omega)]
theorem V_sum (hV : cr_V cnt s) : cr_s (cr_w e) s = eS e s.1 (cnt - s.1) := by
  rw [← w_range, ← w_perm (V_perm hV), w_app, w_app]
  rfl
theorem H_sum (hV : cr_V cnt s) : cr_s (cr_h e) s = eS e s.1 (cnt - s.1) + cr_b e (cr_g s 0) + cr_b e (cr_g s 1) + cr_b e (cr_g s 2) := by
  rw [← V_sum hV]
  unfold cr_s
  rw [h_wb, h_wb, h_wb]
  omega
theorem H_pos (he : ∀ k, 1 ≤ e k) (hV : cr_V cnt s) (h : s.1 < cnt) : 1 ≤ cr_s (cr_h e) s := by
  rw [← Nat.not_lt]
  intro h0
  obtain ⟨i, hi, hx⟩ := V_in hV (x := s.1) (Nat.le_refl _) h
  have h1 : ∀ l, s.1 ∈ l → 1 ≤ cr_h e l := by
    intro l hl
    cases l with
    | nil => cases hl
    | cons k l =>
      have := he k
      show 1 ≤ cr_h e l + e k + _
      omega
  have h2 := h1 _ hx
  unfold cr_s at h0
  rcases i3 hi with rfl | rfl | rfl <;> omega
end
