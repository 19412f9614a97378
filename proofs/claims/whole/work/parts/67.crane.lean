/-! CRANES, the mathematics: stacks of ranks (top first), lifts, the fewest, the first of them -/
abbrev St : Type := Nat × List Nat × List Nat × List Nat
def cr_g (s : St) (i : Nat) : List Nat := match i with
  | 0 => s.2.1
  | 1 => s.2.2.1
  | 2 => s.2.2.2
  | _ => []
def cr_p (s : St) (i : Nat) (l : List Nat) : St := match i with
  | 0 => (s.1, l, s.2.2.1, s.2.2.2)
  | 1 => (s.1, s.2.1, l, s.2.2.2)
  | 2 => (s.1, s.2.1, s.2.2.1, l)
  | _ => s
def cr_u (s : St) : St := (s.1 + 1, s.2)
theorem i3 {i : Nat} (h : i < 3) : i = 0 ∨ i = 1 ∨ i = 2 := by omega
theorem cr_gs {s : St} {i : Nat} {l : List Nat} (h : i < 3) : cr_g (cr_p s i l) i = l := by rcases i3 h with rfl | rfl | rfl <;> rfl
theorem cr_go {s : St} {i k : Nat} {l : List Nat} (h : i < 3) (hk : k < 3) (e : k ≠ i) : cr_g (cr_p s i l) k = cr_g s k := by
  rcases i3 h with rfl | rfl | rfl <;> rcases i3 hk with rfl | rfl | rfl <;> first | rfl | exact absurd rfl e
theorem cr_p1 {s : St} {i : Nat} {l : List Nat} : (cr_p s i l).1 = s.1 := by
  unfold cr_p; split <;> rfl
theorem cr_gu {s : St} {i : Nat} : cr_g (cr_u s) i = cr_g s i := by unfold cr_g cr_u; split <;> rfl
theorem cr_ext {s t : St} (h1 : s.1 = t.1) (h : ∀ i, i < 3 → cr_g s i = cr_g t i) : s = t := by
  have a := h 0 (by decide); have b := h 1 (by decide); have c := h 2 (by decide)
  obtain ⟨s1, s2, s3, s4⟩ := s
  obtain ⟨t1, t2, t3, t4⟩ := t
  simp only [cr_g] at a b c
  simp only at h1
  subst h1 a b c; rfl
/-- nothing is left -/
def cr_e (s : St) : Prop := ∀ i, i < 3 → cr_g s i = []
/-- a lift: the crate, and what lies then. fr: 0 not frail, 1 frail, 2 frail and lifted before -/
def cr_n (fr : Nat → Nat) (s : St) (f t : Nat) : Option (Nat × St) := match cr_g s f with
  | [] => none
  | k :: l => if f = t then none else if t = 3 then (if k = s.1 ∧ fr k ≠ 2 then some (k, cr_u (cr_p s f l)) else none)
      else if fr k = 0 then some (k, cr_p (cr_p s f l) t (k :: cr_g s t)) else none
theorem cr_nq {fr : Nat → Nat} {s s' : St} {f k : Nat} (hf : f < 3) : cr_n fr s f 3 = some (k, s') ↔ ∃ l, cr_g s f = k :: l ∧ k = s.1 ∧ fr k ≠ 2 ∧ s' = cr_u (cr_p s f l) := by
  unfold cr_n
  cases h : cr_g s f with
  | nil => simp
  | cons a l =>
    simp only [if_neg (show ¬ f = 3 by omega), if_true]
    constructor
    · intro e
      split at e
      · rename_i c
        simp only [Option.some.injEq, Prod.mk.injEq] at e
        obtain ⟨rfl, rfl⟩ := e
        exact ⟨l, rfl, c.1, c.2, rfl⟩
      · cases e
    · rintro ⟨l', e, h1, h2, rfl⟩
      simp only [List.cons.injEq] at e
      obtain ⟨rfl, rfl⟩ := e
      rw [if_pos ⟨h1, h2⟩]
theorem cr_nt {fr : Nat → Nat} {s s' : St} {f t k : Nat} (ht : t < 3) : cr_n fr s f t = some (k, s') ↔ ∃ l, cr_g s f = k :: l ∧ f ≠ t ∧ fr k = 0 ∧ s' = cr_p (cr_p s f l) t (k :: cr_g s t) := by
  unfold cr_n
  cases h : cr_g s f with
  | nil => simp
  | cons a l =>
    constructor
    · intro e
      by_cases c1 : f = t
      · simp [c1] at e
      · simp only [if_neg c1, if_neg (show ¬ t = 3 by omega)] at e
        split at e
        · rename_i c
          simp only [Option.some.injEq, Prod.mk.injEq] at e
          obtain ⟨rfl, rfl⟩ := e
          exact ⟨l, rfl, c1, c, rfl⟩
        · cases e
    · rintro ⟨l', e, h1, h2, rfl⟩
      simp only [List.cons.injEq] at e
      obtain ⟨rfl, rfl⟩ := e
      simp only [if_neg h1, if_neg (show ¬ t = 3 by omega), if_pos h2]
/-- all by l lifts that cost c -/
def cr_q (fr e : Nat → Nat) : Nat → Nat → St → Prop
  | 0, c, s => c = 0 ∧ cr_e s
  | l + 1, c, s => ∃ f t k s', f < 3 ∧ t ≤ 3 ∧ cr_n fr s f t = some (k, s') ∧ e k ≤ c ∧ cr_q fr e l (c - e k) s'
def cr_D (fr e : Nat → Nat) (s : St) (n : Nat) : Prop := (∃ l, cr_q fr e l n s) ∧ ∀ l c, cr_q fr e l c s → n ≤ c
section
variable {fr e : Nat → Nat} {s s' s1 s2 : St} {f t k n n' n1 n2 cnt : Nat}
theorem D_ex (h : ∃ l c, cr_q fr e l c s) : ∃ n, cr_D fr e s n := by
  obtain ⟨l, c, h⟩ := h
  obtain ⟨n, h1, h2⟩ := pk_least (fun c => ∃ l, cr_q fr e l c s) ⟨c, l, h⟩
  exact ⟨n, h1, fun l c hc => Nat.le_of_not_lt fun z => h2 c z ⟨l, hc⟩⟩
theorem D_u (h : cr_D fr e s n) (h' : cr_D fr e s n') : n = n' := by
  obtain ⟨l, hl⟩ := h.1
  obtain ⟨l', hl'⟩ := h'.1
  exact Nat.le_antisymm (h.2 l' n' hl') (h'.2 l n hl)
theorem D_0 (h : cr_e s) : cr_D fr e s 0 := ⟨⟨0, rfl, h⟩, fun _ _ _ => Nat.zero_le _⟩
theorem D_step (hf : f < 3) (ht : t ≤ 3) (h : cr_n fr s f t = some (k, s')) (hn : cr_D fr e s n) (hn' : cr_D fr e s' n') : n ≤ e k + n' := by
  obtain ⟨l, hl⟩ := hn'.1
  exact hn.2 (l + 1) (e k + n') ⟨f, t, k, s', hf, ht, h, by omega, by rw [show e k + n' - e k = n' by omega]; exact hl⟩
theorem D_back (hf : f < 3) (ht : t ≤ 3) (h : cr_n fr s f t = some (k, s')) (hn' : cr_D fr e s' n') : ∃ n, cr_D fr e s n := by
  obtain ⟨l, hl⟩ := hn'.1
  exact D_ex ⟨l + 1, e k + n', f, t, k, s', hf, ht, h, by omega, by rw [show e k + n' - e k = n' by omega]; exact hl⟩
/-- a lift that lies on a way of fewest lifts -/
def cr_o (fr e : Nat → Nat) (s : St) (n f t : Nat) : Prop := ∃ k s' n', cr_n fr s f t = some (k, s') ∧ cr_D fr e s' n' ∧ n = e k + n'
theorem D_opt (hn : cr_D fr e s n) (hs : ¬ cr_e s) : ∃ f t, f < 3 ∧ t ≤ 3 ∧ cr_o fr e s n f t := by
  obtain ⟨l, hl⟩ := hn.1
  cases l with
  | zero => exact absurd hl.2 hs
  | succ l =>
    obtain ⟨f, t, k, s', hf, ht, hm, hk, hq⟩ := hl
    obtain ⟨n', hn'⟩ := D_ex ⟨l, _, hq⟩
    have a := D_step hf ht hm hn hn'
    have b := hn'.2 l _ hq
    exact ⟨f, t, hf, ht, k, s', n', hm, hn', by omega⟩
/-- the first of them, by from, then by to -/
def cr_F (fr e : Nat → Nat) (s : St) (n f t : Nat) : Prop := f < 3 ∧ t ≤ 3 ∧ cr_o fr e s n f t ∧ ∀ f' t', f' < 3 → t' ≤ 3 → (f' < f ∨ (f' = f ∧ t' < t)) → ¬ cr_o fr e s n f' t'
theorem F_ex (hn : cr_D fr e s n) (hs : ¬ cr_e s) : ∃ f t, cr_F fr e s n f t := by
  obtain ⟨f0, t0, a1, a2, a3⟩ := D_opt hn hs
  obtain ⟨f, ⟨b1, t1, b2, b3⟩, b4⟩ := pk_least (fun f => f < 3 ∧ ∃ t, t ≤ 3 ∧ cr_o fr e s n f t) ⟨f0, a1, t0, a2, a3⟩
  obtain ⟨t, ⟨c1, c2⟩, c3⟩ := pk_least (fun t => t ≤ 3 ∧ cr_o fr e s n f t) ⟨t1, b2, b3⟩
  refine ⟨f, t, b1, c1, c2, fun f' t' h1 h2 h3 h4 => ?_⟩
  rcases h3 with h3 | ⟨rfl, h3⟩
  · exact b4 f' h3 ⟨h1, t', h2, h4⟩
  · exact c3 t' h3 ⟨h2, h4⟩
theorem F_u {f' t' : Nat} (h : cr_F fr e s n f t) (h' : cr_F fr e s n f' t') : f = f' ∧ t = t' := by
  obtain ⟨a1, a2, a3, a4⟩ := h
  obtain ⟨b1, b2, b3, b4⟩ := h'
  rcases Nat.lt_trichotomy f f' with z | z | z
  · exact absurd a3 (b4 f t a1 a2 (Or.inl z))
  · subst z
    rcases Nat.lt_trichotomy t t' with z | z | z
    · exact absurd a3 (b4 f t a1 a2 (Or.inr ⟨rfl, z⟩))
    · exact ⟨rfl, z⟩
    · exact absurd b3 (a4 f t' b1 b2 (Or.inr ⟨rfl, z⟩))
  · exact absurd b3 (a4 f' t' b1 b2 (Or.inl z))
/-- the lifts, one by one -/
def cr_L (fr e : Nat → Nat) : List Nat → St → Prop
  | [], s => cr_e s
  | c :: ps, s => ∃ n f t k s', ¬ cr_e s ∧ cr_D fr e s n ∧ cr_F fr e s n f t ∧ c = 10 * f + t ∧ cr_n fr s f t = some (k, s') ∧ cr_L fr e ps s'
theorem L_u : ∀ (ps ps' : List Nat) (s : St), cr_L fr e ps s → cr_L fr e ps' s → ps = ps' := by
  intro ps
  induction ps with
  | nil =>
    intro ps' s h h'
    cases ps' with
    | nil => rfl
    | cons c ps' => obtain ⟨n, f, t, k, s', h1, _⟩ := h'; exact absurd h h1
  | cons c ps ih =>
    intro ps' s h h'
    cases ps' with
    | nil => obtain ⟨n, f, t, k, s', h1, _⟩ := h; exact absurd h' h1
    | cons c' ps' =>
      obtain ⟨n, f, t, k, s1, h1, h2, h3, rfl, h5, h6⟩ := h
      obtain ⟨n', f', t', k', s1', g1, g2, g3, rfl, g5, g6⟩ := h'
      have := D_u h2 g2
      subst this
      obtain ⟨rfl, rfl⟩ := F_u h3 g3
      rw [h5] at g5
      simp only [Option.some.injEq, Prod.mk.injEq] at g5
      obtain ⟨rfl, rfl⟩ := g5
      rw [ih ps' s1 h6 g6]
theorem L_ex (he : ∀ k, 1 ≤ e k) : ∀ N n s, n ≤ N → cr_D fr e s n → ∃ ps, cr_L fr e ps s := by
  intro N
  induction N with
  | zero =>
    intro n s hn hd
    by_cases hs : cr_e s
    · exact ⟨[], hs⟩
    · obtain ⟨f, t, h1, h2, k, s', n', h3, h4, h5⟩ := D_opt hd hs
      have := he k; omega
  | succ N ih =>
    intro n s hn hd
    by_cases hs : cr_e s
    · exact ⟨[], hs⟩
    · obtain ⟨f, t, hF⟩ := F_ex hd hs
      obtain ⟨k, s', n', h3, h4, h5⟩ := hF.2.2.1
      have := he k
      obtain ⟨ps, hps⟩ := ih n' s' (by omega) h4
      exact ⟨(10 * f + t) :: ps, n, f, t, k, s', hs, hd, hF, rfl, h3, hps⟩
/-- the ranks out .. cnt - 1 lie there, each once -/
def cr_V (cnt : Nat) (s : St) : Prop := (∀ k, List.count k (cr_g s 0) + List.count k (cr_g s 1) + List.count k (cr_g s 2) = if s.1 ≤ k ∧ k < cnt then 1 else 0) ∧ (cr_g s 0).length + (cr_g s 1).length + (cr_g s 2).length + s.1 = cnt
def cr_s (F : List Nat → Nat) (s : St) : Nat := F (cr_g s 0) + F (cr_g s 1) + F (cr_g s 2)
theorem cr_s1 (F : List Nat → Nat) {s : St} {i : Nat} {l : List Nat} (hi : i < 3) : cr_s F (cr_p s i l) + F (cr_g s i) = cr_s F s + F l := by
  unfold cr_s
  rcases i3 hi with rfl | rfl | rfl
  · show F l + F s.2.2.1 + F s.2.2.2 + F s.2.1 = F s.2.1 + F s.2.2.1 + F s.2.2.2 + F l; omega
  · show F s.2.1 + F l + F s.2.2.2 + F s.2.2.1 = F s.2.1 + F s.2.2.1 + F s.2.2.2 + F l; omega
  · show F s.2.1 + F s.2.2.1 + F l + F s.2.2.2 = F s.2.1 + F s.2.2.1 + F s.2.2.2 + F l; omega
theorem cr_su (F : List Nat → Nat) {s : St} : cr_s F (cr_u s) = cr_s F s := by unfold cr_s; rw [cr_gu, cr_gu, cr_gu]
/-- a sum over the stacks, behind a lift onto a stack -/
theorem cr_st (F : List Nat → Nat) {l : List Nat} (hf : f < 3) (ht : t < 3) (hft : f ≠ t) (hg : cr_g s f = k :: l) : cr_s F (cr_p (cr_p s f l) t (k :: cr_g s t)) + F (k :: l) + F (cr_g s t) = cr_s F s + F l + F (k :: cr_g s t) := by
  have a := cr_s1 F (s := s) (l := l) hf
  have b := cr_s1 F (s := cr_p s f l) (l := k :: cr_g s t) ht
  rw [cr_go hf ht (Ne.symm hft)] at b
  rw [hg] at a
  omega
theorem cr_sq (F : List Nat → Nat) {l : List Nat} (hf : f < 3) (hg : cr_g s f = k :: l) : cr_s F (cr_u (cr_p s f l)) + F (k :: l) = cr_s F s + F l := by
  have a := cr_s1 F (s := s) (l := l) hf
  rw [hg] at a
  rw [cr_su]
  exact a
theorem V_step (hV : cr_V cnt s) (hf : f < 3) (ht : t ≤ 3) (h : cr_n fr s f t = some (k, s')) : cr_V cnt s' := by
  rcases Nat.lt_or_ge t 3 with h3 | h3
  · obtain ⟨l, hg, hft, _, rfl⟩ := (cr_nt h3).mp h
    refine ⟨fun x => ?_, ?_⟩
    · have a := cr_st (List.count x) hf h3 hft hg
      have b := hV.1 x
      rw [cr_p1, cr_p1, ← b]
      show cr_s (List.count x) _ = cr_s (List.count x) s
      rw [List.count_cons, List.count_cons] at a
      omega
    · have a := cr_st List.length hf h3 hft hg
      have b := hV.2
      rw [cr_p1, cr_p1, ← b]
      show cr_s List.length _ + s.1 = cr_s List.length s + s.1
      simp only [List.length_cons] at a
      omega
  · obtain rfl : t = 3 := by omega
    obtain ⟨l, hg, hk, _, rfl⟩ := (cr_nq hf).mp h
    refine ⟨fun x => ?_, ?_⟩
    · have a := cr_sq (List.count x) hf hg
      have b := hV.1 x
      show cr_s (List.count x) _ = if (cr_p s f l).1 + 1 ≤ x ∧ x < cnt then 1 else 0
      have b' : cr_s (List.count x) s = if s.1 ≤ x ∧ x < cnt then 1 else 0 := b
      rw [List.count_cons] at a
      rw [cr_p1]
      by_cases e1 : k = x
      · subst e1
        simp only [beq_self_eq_true, if_true] at a
        rw [if_neg (by omega)]
        split at b' <;> omega
      · rw [if_neg (by simpa using e1)] at a
        by_cases c : s.1 ≤ x ∧ x < cnt
        · rw [if_pos c] at b'
          rw [if_pos (by omega)]; omega
        · rw [if_neg c] at b'
          rw [if_neg (by omega)]; omega
    · have a := cr_sq List.length hf hg
      have b := hV.2
      show cr_s List.length _ + ((cr_p s f l).1 + 1) = cnt
      have b' : cr_s List.length s + s.1 = cnt := b
      rw [cr_p1]
      simp only [List.length_cons] at a
      omega
theorem V_mem (hV : cr_V cnt s) {i x : Nat} (hi : i < 3) (hx : x ∈ cr_g s i) : s.1 ≤ x ∧ x < cnt := by
  have a := hV.1 x
  have b : 0 < List.count x (cr_g s i) := List.count_pos_iff.mpr hx
  by_cases c : s.1 ≤ x ∧ x < cnt
  · exact c
  · rw [if_neg c] at a
    rcases i3 hi with rfl | rfl | rfl <;> omega
theorem V_len (hV : cr_V cnt s) {i : Nat} (hi : i < 3) : (cr_g s i).length + s.1 ≤ cnt := by
  have := hV.2
  rcases i3 hi with rfl | rfl | rfl <;> omega
theorem V_e (hV : cr_V cnt s) : cr_e s ↔ cnt ≤ s.1 := by
  have := hV.2
  constructor
  · intro h
    have a := h 0 (by decide); have b := h 1 (by decide); have c := h 2 (by decide)
    rw [a, b, c] at this
    simp at this; omega
  · intro h i hi
    have : (cr_g s i).length = 0 := by have := V_len hV hi; omega
    exact List.eq_nil_of_length_eq_zero this
/-- at least so many lifts are to come -/
def cr_h (e : Nat → Nat) : List Nat → Nat
  | [] => 0
  | k :: l => cr_h e l + e k + (if ∃ x, x ∈ l ∧ x < k then e k else 0)
theorem H_step (hV : cr_V cnt s) (hf : f < 3) (ht : t ≤ 3) (h : cr_n fr s f t = some (k, s')) : cr_s (cr_h e) s ≤ e k + cr_s (cr_h e) s' := by
  rcases Nat.lt_or_ge t 3 with h3 | h3
  · obtain ⟨l, hg, hft, _, rfl⟩ := (cr_nt h3).mp h
    have a := cr_st (cr_h e) hf h3 hft hg
    simp only [cr_h] at a
    split at a <;> split at a <;> omega
  · obtain rfl : t = 3 := by omega
    obtain ⟨l, hg, hk, _, rfl⟩ := (cr_nq hf).mp h
    have a := cr_sq (cr_h e) hf hg
    have no : ¬ ∃ x, x ∈ l ∧ x < k := by
      rintro ⟨x, hx, hx2⟩
      have := V_mem hV hf (show x ∈ cr_g s f by rw [hg]; exact List.mem_cons_of_mem _ hx)
      omega
    simp only [cr_h, if_neg no] at a
    omega
theorem H_le : ∀ l c s, cr_V cnt s → cr_q fr e l c s → cr_s (cr_h e) s ≤ c := by
  intro l
  induction l with
  | zero =>
    intro c s hV h
    have a := h.2 0 (by decide); have b := h.2 1 (by decide); have d := h.2 2 (by decide)
    unfold cr_s
    rw [a, b, d]; exact Nat.zero_le _
  | succ l ih =>
    intro c s hV h
    obtain ⟨f, t, k, s', hf, ht, hm, hk, hq⟩ := h
    have a := H_step (e := e) hV hf ht hm
    have b := ih _ s' (V_step hV hf ht hm) hq
    omega
theorem H_D (hV : cr_V cnt s) (h : cr_D fr e s n) : cr_s (cr_h e) s ≤ n := by
  obtain ⟨l, hl⟩ := h.1
  exact H_le l n s hV hl
end
