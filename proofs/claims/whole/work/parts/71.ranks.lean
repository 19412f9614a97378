/-! CRANES: a ship's crates as they lie NOW, by ranks -/
abbrev onS (R Y : Nat → Nat) (sh c : Nat) : Prop := R (22 + 5 * c) = sh ∧ Y c < 3
def rkF (R Y : Nat → Nat) (sh c : Nat) : Nat → Nat
  | 0 => 0
  | n + 1 => rkF R Y sh c n + (if onS R Y sh n ∧ R (23 + 5 * n) < R (23 + 5 * c) then 1 else 0)
def ctF (R Y : Nat → Nat) (sh : Nat) : Nat → Nat
  | 0 => 0
  | n + 1 => ctF R Y sh n + (if onS R Y sh n then 1 else 0)
abbrev rkC (R Y : Nat → Nat) (sh c : Nat) : Nat := rkF R Y sh c (R 5)
abbrev ctC (R Y : Nat → Nat) (sh : Nat) : Nat := ctF R Y sh (R 5)
def stk (F : Nat → Nat) : Nat → List Nat
  | 0 => []
  | n + 1 => F n :: stk F n
def lyC (Y : Nat → Nat) (k i : Nat) : Nat := Y (75 + 5 * k + i) - 1
def crL (Y : Nat → Nat) (sh : Nat) : List Nat := stk (lyC Y (3 * sh + 0)) (Y (120 + (3 * sh + 0))) ++ stk (lyC Y (3 * sh + 1)) (Y (120 + (3 * sh + 1))) ++ stk (lyC Y (3 * sh + 2)) (Y (120 + (3 * sh + 2)))
def cr0 (R Y : Nat → Nat) (sh : Nat) : St := (0, stk (fun i => rkC R Y sh (lyC Y (3 * sh + 0) i)) (Y (120 + (3 * sh + 0))), stk (fun i => rkC R Y sh (lyC Y (3 * sh + 1) i)) (Y (120 + (3 * sh + 1))), stk (fun i => rkC R Y sh (lyC Y (3 * sh + 2) i)) (Y (120 + (3 * sh + 2))))
noncomputable def crK (R Y : Nat → Nat) (sh k : Nat) : Nat := @Classical.epsilon Nat ⟨0⟩ (fun c => c < R 5 ∧ onS R Y sh c ∧ rkC R Y sh c = k)
noncomputable def crE (R Y : Nat → Nat) (sh k : Nat) : Nat := if R (21 + 5 * crK R Y sh k) = 3 then 2 else 1
noncomputable def crF (R Y : Nat → Nat) (sh k : Nat) : Nat := if R (21 + 5 * crK R Y sh k) = 2 then (if Y (15 + crK R Y sh k) = 0 then 1 else 2) else 0
theorem stk_len (F : Nat → Nat) : ∀ n, (stk F n).length = n := by
  intro n
  induction n with
  | zero => rfl
  | succ n ih => show (stk F n).length + 1 = _; rw [ih]
theorem stk_mem (F : Nat → Nat) {x : Nat} : ∀ n, x ∈ stk F n ↔ ∃ i, i < n ∧ x = F i := by
  intro n
  induction n with
  | zero =>
    constructor
    · intro h; cases h
    · rintro ⟨i, h, _⟩; omega
  | succ n ih =>
    constructor
    · intro h
      rcases List.mem_cons.mp h with h | h
      · exact ⟨n, by omega, h⟩
      · obtain ⟨i, h1, h2⟩ := ih.mp h
        exact ⟨i, by omega, h2⟩
    · rintro ⟨i, h1, h2⟩
      by_cases e : i = n
      · subst e; exact List.mem_cons.mpr (Or.inl h2)
      · exact List.mem_cons.mpr (Or.inr (ih.mpr ⟨i, by omega, h2⟩))
theorem stk_split (F : Nat → Nat) {k : Nat} {l1 l2 : List Nat} : ∀ n, stk F n = l1 ++ k :: l2 → k = F l2.length ∧ l2 = stk F l2.length ∧ l2.length < n := by
  induction l1 with
  | nil =>
    intro n h
    cases n with
    | zero => cases h
    | succ n =>
      have h : F n :: stk F n = k :: l2 := h
      simp only [List.cons.injEq] at h
      obtain ⟨rfl, rfl⟩ := h
      rw [stk_len]
      exact ⟨rfl, rfl, by omega⟩
  | cons a l1 ih =>
    intro n h
    cases n with
    | zero => cases h
    | succ n =>
      have h : F n :: stk F n = a :: (l1 ++ k :: l2) := h
      simp only [List.cons.injEq] at h
      obtain ⟨h1, h2, h3⟩ := ih n h.2
      exact ⟨h1, h2, by omega⟩
theorem stk_at (F : Nat → Nat) {i : Nat} : ∀ n, i < n → ∃ l1, stk F n = l1 ++ F i :: stk F i := by
  intro n
  induction n with
  | zero => intro h; omega
  | succ n ih =>
    intro h
    by_cases e : i = n
    · subst e; exact ⟨[], rfl⟩
    · obtain ⟨l1, hl⟩ := ih (by omega)
      exact ⟨F n :: l1, by show F n :: stk F n = _; rw [hl]; rfl⟩
theorem stk_map (F f : Nat → Nat) : ∀ n, (stk F n).map f = stk (fun i => f (F i)) n := by
  intro n
  induction n with
  | zero => rfl
  | succ n ih => show f (F n) :: (stk F n).map f = _; rw [ih]; rfl
theorem stk_nodup (F : Nat → Nat) : ∀ n, (∀ i i', i < n → i' < n → F i = F i' → i = i') → (stk F n).Nodup := by
  intro n
  induction n with
  | zero => intro _; exact List.nodup_nil
  | succ n ih =>
    intro h
    show (F n :: stk F n).Nodup
    rw [List.nodup_cons]
    refine ⟨fun hm => ?_, ih fun i i' h1 h2 e => h i i' (by omega) (by omega) e⟩
    obtain ⟨i, h1, h2⟩ := (stk_mem F n).mp hm
    have := h n i (by omega) (by omega) h2
    omega
section
variable {R Y : Nat → Nat} {n b sh c c' : Nat}
theorem rkF_ct (c : Nat) : ∀ n, rkF R Y sh c n + (if onS R Y sh c ∧ c < n then 1 else 0) ≤ ctF R Y sh n := by
  intro n
  induction n with
  | zero => rw [if_neg (by omega)]; exact Nat.le_refl _
  | succ n ih =>
    show rkF R Y sh c n + (if onS R Y sh n ∧ R (23 + 5 * n) < R (23 + 5 * c) then 1 else 0) + _ ≤ ctF R Y sh n + (if onS R Y sh n then 1 else 0)
    by_cases e : n = c
    · subst e
      rw [if_neg (show ¬ (onS R Y sh n ∧ R (23 + 5 * n) < R (23 + 5 * n)) by omega)]
      rw [if_neg (show ¬ (onS R Y sh n ∧ n < n) by omega)] at ih
      by_cases h : onS R Y sh n
      · rw [if_pos ⟨h, by omega⟩, if_pos h]; omega
      · rw [if_neg (fun z => h z.1), if_neg h]; omega
    · have e1 : (if onS R Y sh c ∧ c < n + 1 then 1 else 0) = (if onS R Y sh c ∧ c < n then 1 else 0) := by
        by_cases h : onS R Y sh c ∧ c < n
        · rw [if_pos h, if_pos ⟨h.1, by omega⟩]
        · rw [if_neg h, if_neg (fun z => h ⟨z.1, by omega⟩)]
      rw [e1]
      by_cases h : onS R Y sh n
      · rw [if_pos h]
        split <;> omega
      · rw [if_neg h, if_neg (fun z => h z.1)]; omega
theorem rkF_lt (hc : onS R Y sh c) (h : R (23 + 5 * c) < R (23 + 5 * c')) : ∀ n, rkF R Y sh c n + (if c < n then 1 else 0) ≤ rkF R Y sh c' n := by
  intro n
  induction n with
  | zero => rw [if_neg (by omega)]; exact Nat.le_refl _
  | succ n ih =>
    show rkF R Y sh c n + (if onS R Y sh n ∧ R (23 + 5 * n) < R (23 + 5 * c) then 1 else 0) + _ ≤ rkF R Y sh c' n + (if onS R Y sh n ∧ R (23 + 5 * n) < R (23 + 5 * c') then 1 else 0)
    by_cases e : n = c
    · subst e
      rw [if_neg (show ¬ (onS R Y sh n ∧ R (23 + 5 * n) < R (23 + 5 * n)) by omega), if_pos (show n < n + 1 by omega), if_pos ⟨hc, h⟩]
      rw [if_neg (show ¬ n < n by omega)] at ih
      omega
    · have e1 : (if c < n + 1 then 1 else 0) = (if c < n then 1 else 0) := by
        by_cases h : c < n
        · rw [if_pos h, if_pos (by omega)]
        · rw [if_neg h, if_neg (by omega)]
      rw [e1]
      by_cases h2 : onS R Y sh n ∧ R (23 + 5 * n) < R (23 + 5 * c)
      · have h3 : onS R Y sh n ∧ R (23 + 5 * n) < R (23 + 5 * c') := ⟨h2.1, by have := h2.2; omega⟩
        rw [if_pos h2, if_pos h3]; omega
      · rw [if_neg h2]; omega
theorem ctF_S : ∀ n, ctF R Y sh n ≤ cntS R sh n := by
  intro n
  induction n with
  | zero => exact Nat.le_refl _
  | succ n ih =>
    show ctF R Y sh n + (if onS R Y sh n then 1 else 0) ≤ cntS R sh n + (if R (22 + 5 * n) = sh then 1 else 0)
    by_cases h : onS R Y sh n
    · rw [if_pos h, if_pos h.1]; omega
    · rw [if_neg h]; omega
theorem ct5 (hR : RO b R) : ctC R Y sh ≤ 5 := Nat.le_trans (ctF_S _) (hR.2.2.2.2.2.2.1 sh)
theorem rk_ct (hc : c < R 5) (ho : onS R Y sh c) : rkC R Y sh c < ctC R Y sh := by
  have := rkF_ct (R := R) (Y := Y) (sh := sh) c (R 5)
  rw [if_pos ⟨ho, hc⟩] at this
  exact this
theorem rk_lt (hR : RO b R) (hc : c < R 5) (ho : onS R Y sh c) (hc' : c' < R 5) (ho' : onS R Y sh c') : rkC R Y sh c < rkC R Y sh c' ↔ R (23 + 5 * c) < R (23 + 5 * c') := by
  constructor
  · intro h
    rw [← Nat.not_le]
    intro z
    rcases Nat.lt_or_ge (R (23 + 5 * c')) (R (23 + 5 * c)) with z1 | z1
    · have := rkF_lt (R := R) (Y := Y) ho' z1 (R 5)
      rw [if_pos hc'] at this
      have this : rkC R Y sh c' + 1 ≤ rkC R Y sh c := this
      omega
    · have := hR.2.2.2.2.2.1 c c' hc hc' (by omega)
      subst this
      omega
  · intro h
    have := rkF_lt (R := R) (Y := Y) ho h (R 5)
    rw [if_pos hc] at this
    exact this
theorem rk_inj (hR : RO b R) (hc : c < R 5) (ho : onS R Y sh c) (hc' : c' < R 5) (ho' : onS R Y sh c') (h : rkC R Y sh c = rkC R Y sh c') : c = c' := by
  have a := rk_lt hR hc ho hc' ho'
  have b := rk_lt hR hc' ho' hc ho
  exact hR.2.2.2.2.2.1 c c' hc hc' (by omega)
theorem crK_rk (hR : RO b R) (hc : c < R 5) (ho : onS R Y sh c) : crK R Y sh (rkC R Y sh c) = c := by
  have := @Classical.epsilon_spec Nat (fun c' => c' < R 5 ∧ onS R Y sh c' ∧ rkC R Y sh c' = rkC R Y sh c) ⟨c, hc, ho, rfl⟩
  exact rk_inj hR this.1 this.2.1 hc ho this.2.2
theorem cr0_g {t : Nat} (ht : t < 3) : cr_g (cr0 R Y sh) t = stk (fun i => rkC R Y sh (lyC Y (3 * sh + t) i)) (Y (120 + (3 * sh + t))) := by
  rcases i3 ht with rfl | rfl | rfl <;> rfl
theorem ly_on (hY : YO n R Y) (hs : sh < 3) {t i : Nat} (ht : t < 3) (hi : i < Y (120 + (3 * sh + t))) : lyC Y (3 * sh + t) i < R 5 ∧ onS R Y sh (lyC Y (3 * sh + t) i) ∧ Y (lyC Y (3 * sh + t) i) = t ∧ lyC Y (3 * sh + t) i + 1 = Y (75 + 5 * (3 * sh + t) + i) := by
  obtain ⟨h1, h2, h3, h4⟩ := (hY.1 (3 * sh + t) (by omega)).2.2 i hi
  unfold lyC
  rw [show (3 * sh + t) / 3 = sh by omega] at h3
  rw [show (3 * sh + t) % 3 = t by omega] at h4
  exact ⟨by omega, ⟨h3, by omega⟩, h4, by omega⟩
theorem ly_inj (hY : YO n R Y) (hs : sh < 3) {t i i' : Nat} (ht : t < 3) (hi : i < Y (120 + (3 * sh + t))) (hi' : i' < Y (120 + (3 * sh + t))) (h : lyC Y (3 * sh + t) i = lyC Y (3 * sh + t) i') : i = i' := by
  have a := ly_on hY hs ht hi
  have b := ly_on hY hs ht hi'
  exact hY.2.1 (3 * sh + t) i i' (by omega) hi hi' (by omega)
theorem ly_ex (hY : YO n R Y) (hc : c < R 5) (ho : onS R Y sh c) : ∃ i, i < Y (120 + (3 * sh + Y c)) ∧ lyC Y (3 * sh + Y c) i = c := by
  obtain ⟨i, h1, h2⟩ := hY.2.2.2.1 c hc ho.2
  rw [ho.1] at h1 h2
  exact ⟨i, h1, by unfold lyC; omega⟩
theorem crL_mem (hY : YO n R Y) (hs : sh < 3) : c ∈ crL Y sh ↔ c < R 5 ∧ onS R Y sh c := by
  unfold crL
  rw [List.mem_append, List.mem_append, stk_mem, stk_mem, stk_mem]
  constructor
  · rintro ((⟨i, h1, rfl⟩ | ⟨i, h1, rfl⟩) | ⟨i, h1, rfl⟩)
    · have := ly_on hY hs (by decide) h1; exact ⟨this.1, this.2.1⟩
    · have := ly_on hY hs (by decide) h1; exact ⟨this.1, this.2.1⟩
    · have := ly_on hY hs (by decide) h1; exact ⟨this.1, this.2.1⟩
  · rintro ⟨h1, h2⟩
    obtain ⟨i, h3, h4⟩ := ly_ex hY h1 h2
    rcases i3 h2.2 with e | e | e <;> rw [e] at h3 h4
    · exact Or.inl (Or.inl ⟨i, h3, h4.symm⟩)
    · exact Or.inl (Or.inr ⟨i, h3, h4.symm⟩)
    · exact Or.inr ⟨i, h3, h4.symm⟩
theorem crL_nodup (hY : YO n R Y) (hs : sh < 3) : (crL Y sh).Nodup := by
  have nd : ∀ t, t < 3 → (stk (lyC Y (3 * sh + t)) (Y (120 + (3 * sh + t)))).Nodup := fun t ht => stk_nodup _ _ fun i i' h1 h2 e => ly_inj hY hs ht h1 h2 e
  have ne : ∀ t t', t < 3 → t' < 3 → t ≠ t' → ∀ a, a ∈ stk (lyC Y (3 * sh + t)) (Y (120 + (3 * sh + t))) → ∀ b, b ∈ stk (lyC Y (3 * sh + t')) (Y (120 + (3 * sh + t'))) → a ≠ b := by
    intro t t' ht ht' hne a ha b hb e
    subst e
    obtain ⟨i, h1, h2⟩ := (stk_mem _ _).mp ha
    obtain ⟨i', h3, h4⟩ := (stk_mem _ _).mp hb
    have a1 := (ly_on hY hs ht h1).2.2.1
    have a2 := (ly_on hY hs ht' h3).2.2.1
    rw [← h2] at a1
    rw [← h4] at a2
    omega
  unfold crL
  rw [List.nodup_append, List.nodup_append]
  refine ⟨⟨nd 0 (by decide), nd 1 (by decide), ne 0 1 (by decide) (by decide) (by decide)⟩, nd 2 (by decide), fun a ha b hb => ?_⟩
  rcases List.mem_append.mp ha with h | h
  · exact ne 0 2 (by decide) (by decide) (by decide) a h b hb
  · exact ne 1 2 (by decide) (by decide) (by decide) a h b hb
theorem ct_filter : ∀ n, ((List.range n).filter (fun c => decide (onS R Y sh c))).length = ctF R Y sh n := by
  intro n
  induction n with
  | zero => rfl
  | succ n ih =>
    rw [List.range_succ, List.filter_append, List.length_append, ih]
    show _ = ctF R Y sh n + (if onS R Y sh n then 1 else 0)
    by_cases h : onS R Y sh n
    · rw [if_pos h, List.filter_cons_of_pos (by simpa using h)]; rfl
    · rw [if_neg h, List.filter_cons_of_neg (by simpa using h)]; rfl
theorem crL_len (hY : YO n R Y) (hs : sh < 3) : (crL Y sh).length = ctC R Y sh := by
  have hp : (crL Y sh).Perm ((List.range (R 5)).filter (fun c => decide (onS R Y sh c))) := by
    rw [List.perm_ext_iff_of_nodup (crL_nodup hY hs) (List.Nodup.sublist List.filter_sublist List.nodup_range)]
    intro a
    rw [crL_mem hY hs, List.mem_filter, List.mem_range, decide_eq_true_eq]
  rw [hp.length_eq, ct_filter]
theorem cr0_map : (crL Y sh).map (rkC R Y sh) = cr_g (cr0 R Y sh) 0 ++ cr_g (cr0 R Y sh) 1 ++ cr_g (cr0 R Y sh) 2 := by
  unfold crL
  rw [List.map_append, List.map_append, stk_map, stk_map, stk_map]
  rfl
theorem V0 (hR : RO b R) (hY : YO n R Y) (hs : sh < 3) : cr_V (ctC R Y sh) (cr0 R Y sh) := by
  have hlen := crL_len hY hs
  have hnd : ((crL Y sh).map (rkC R Y sh)).Nodup := by
    have : ((crL Y sh).map (rkC R Y sh)).Pairwise (fun a b => a ≠ b) := by
      rw [List.pairwise_map]
      refine List.Pairwise.imp_of_mem ?_ (crL_nodup hY hs)
      intro a b ha hb hab e
      have h1 := (crL_mem hY hs).mp ha
      have h2 := (crL_mem hY hs).mp hb
      exact hab (rk_inj hR h1.1 h1.2 h2.1 h2.2 e)
    exact this
  have hlt : ∀ k, k ∈ (crL Y sh).map (rkC R Y sh) → k < ctC R Y sh := by
    intro k hk
    obtain ⟨c, h1, rfl⟩ := List.mem_map.mp hk
    have h2 := (crL_mem hY hs).mp h1
    exact rk_ct h2.1 h2.2
  have hall : ∀ k, k < ctC R Y sh → k ∈ (crL Y sh).map (rkC R Y sh) := by
    intro k hk
    apply Classical.byContradiction
    intro hno
    have h1 : (k :: (crL Y sh).map (rkC R Y sh)).Nodup := List.nodup_cons.mpr ⟨hno, hnd⟩
    have h2 := List.Nodup.length_le_of_subset h1 (l₂ := List.range (ctC R Y sh)) (fun x hx => by
      rw [List.mem_range]
      rcases List.mem_cons.mp hx with rfl | hx
      · exact hk
      · exact hlt x hx)
    rw [List.length_range, List.length_cons, List.length_map, hlen] at h2
    omega
  refine ⟨fun k => ?_, ?_⟩
  · rw [← List.count_append, ← List.count_append, ← cr0_map, List.Nodup.count hnd]
    show _ = if 0 ≤ k ∧ k < ctC R Y sh then 1 else 0
    by_cases h : k < ctC R Y sh
    · rw [if_pos (hall k h), if_pos ⟨Nat.zero_le _, h⟩]
    · rw [if_neg (fun z => h (hlt k z)), if_neg (fun z => h z.2)]
  · rw [← List.length_append, ← List.length_append, ← cr0_map, List.length_map, hlen]; rfl
theorem crE_b (k : Nat) : 1 ≤ crE R Y sh k ∧ crE R Y sh k ≤ 2 := by unfold crE; split <;> omega
/-- a crate on a stack that can't come -/
def badC (R Y : Nat → Nat) (sh t i : Nat) : Prop := R (21 + 5 * lyC Y (3 * sh + t) i) = 2 ∧ (0 < Y (15 + lyC Y (3 * sh + t) i) ∨ ∃ m, m < i ∧ R (23 + 5 * lyC Y (3 * sh + t) m) < R (23 + 5 * lyC Y (3 * sh + t) i))
theorem cr_x0 (hR : RO b R) (hY : YO n R Y) (hs : sh < 3) : cr_x (crF R Y sh) (cr0 R Y sh) ↔ ∃ t i, t < 3 ∧ i < Y (120 + (3 * sh + t)) ∧ badC R Y sh t i := by
  constructor
  · rintro ⟨t, k, l, m, ht, hg, hk, hc⟩
    rw [cr0_g ht] at hg
    obtain ⟨h1, h2, h3⟩ := stk_split _ _ hg
    have ho := ly_on hY hs ht h3
    have ek : crK R Y sh k = lyC Y (3 * sh + t) l.length := by rw [h1]; exact crK_rk hR ho.1 ho.2.1
    unfold crF at hk hc
    rw [ek] at hk hc
    refine ⟨t, l.length, ht, h3, ?_, ?_⟩
    · apply Classical.byContradiction
      intro z
      exact hk (if_neg z)
    · have z : R (21 + 5 * lyC Y (3 * sh + t) l.length) = 2 := by
        apply Classical.byContradiction
        intro z
        exact hk (if_neg z)
      rw [if_pos z] at hc
      rcases hc with hc | ⟨x, hx, hx2⟩
      · left
        rcases Nat.eq_zero_or_pos (Y (15 + lyC Y (3 * sh + t) l.length)) with z1 | z1
        · rw [if_pos z1] at hc; omega
        · exact z1
      · right
        rw [h2] at hx
        obtain ⟨q, q1, q2⟩ := (stk_mem _ _).mp hx
        have hoq := ly_on hY hs ht (show q < Y (120 + (3 * sh + t)) by omega)
        refine ⟨q, q1, (rk_lt hR hoq.1 hoq.2.1 ho.1 ho.2.1).mp ?_⟩
        rw [h1, q2] at hx2
        exact hx2
  · rintro ⟨t, i, ht, hi, h1, h2⟩
    have ho := ly_on hY hs ht hi
    obtain ⟨l1, hl⟩ := stk_at (fun i => rkC R Y sh (lyC Y (3 * sh + t) i)) _ hi
    have ek : crK R Y sh (rkC R Y sh (lyC Y (3 * sh + t) i)) = lyC Y (3 * sh + t) i := crK_rk hR ho.1 ho.2.1
    have ef : crF R Y sh (rkC R Y sh (lyC Y (3 * sh + t) i)) = if Y (15 + lyC Y (3 * sh + t) i) = 0 then 1 else 2 := by
      unfold crF
      rw [ek, if_pos h1]
    refine ⟨t, rkC R Y sh (lyC Y (3 * sh + t) i), _, l1, ht, by rw [cr0_g ht]; exact hl, ?_, ?_⟩
    · rw [ef]; split <;> omega
    · rcases h2 with h2 | ⟨m, hm, h2⟩
      · left
        rw [ef, if_neg (by omega)]
      · right
        have hom := ly_on hY hs ht (show m < Y (120 + (3 * sh + t)) by omega)
        exact ⟨rkC R Y sh (lyC Y (3 * sh + t) m), (stk_mem _ _).mpr ⟨m, hm, rfl⟩, (rk_lt hR hom.1 hom.2.1 ho.1 ho.2.1).mpr h2⟩
theorem crF2 (hR : RO b R) (hY : YO n R Y) (hs : sh < 3) (hx : ¬ cr_x (crF R Y sh) (cr0 R Y sh)) {k : Nat} (hk : k < ctC R Y sh) : crF R Y sh k ≠ 2 := by
  intro h2
  obtain ⟨i, hi, hm⟩ := V_in (V0 hR hY hs) (x := k) (Nat.zero_le _) hk
  obtain ⟨m, l, hg⟩ := List.append_of_mem hm
  exact hx ⟨i, k, l, m, hi, hg, by omega, Or.inl h2⟩
end
