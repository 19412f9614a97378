/-! the reference's layDays; late, farthest, inland, people -/
/-- one relaxing -/
def rlx (R D : Nat → Nat) (a e : Nat) : Nat → Nat := if 0 < wF R a e ∧ D e + wF R a e < D a then upN D a (D e + wF R a e) else D
/-- within a round: m rounds are done; towns below a are done, of a those below e -/
def bfJ (R : Nat → Nat) (c m a e : Nat) (D : Nat → Nat) : Prop := bfI R c m D ∧ (∀ a', a' < a → nrF R c a' ≤ m + 1 → D a' ≤ fwF R 5 a' c) ∧ ∀ e', e' < e → 0 < wF R a e' → nrF R c e' ≤ m → D a ≤ wF R a e' + fwF R 5 e' c
section
variable {n p b d : Nat} {R Y D : Nat → Nat} {r : Rr} {g : Gi} {j : Gl} {K : Int32 → Rr → Gi → Gl → Prop} {x x1 x2 : Int32}
theorem rlx_le (a e t : Nat) : rlx R D a e t ≤ D t := by
  unfold rlx
  split
  · rename_i h
    by_cases e2 : t = a
    · subst e2; rw [upN_s]; omega
    · rw [upN_o e2]; omega
  · exact Nat.le_refl _
theorem rlx_ge {c m a e : Nat} (h : bfI R c m D) (he : e < 5) {t : Nat} (ht : t < 5) : fwF R 5 t c ≤ rlx R D a e t := by
  unfold rlx
  split
  · rename_i hh
    by_cases e2 : t = a
    · subst e2
      rw [upN_s]
      have := fw_feas (R := R) (c := c) he hh.1
      have := (h.1 e he).1
      omega
    · rw [upN_o e2]; exact (h.1 t ht).1
  · exact (h.1 t ht).1
theorem bfJ_step {c m a e : Nat} (h : bfJ R c m a e D) (ha : a < 5) (he : e < 5) : bfJ R c m a (e + 1) (rlx R D a e) := by
  obtain ⟨h1, h2, h3⟩ := h
  refine ⟨⟨fun t ht => ⟨rlx_ge h1 he ht, ?_⟩, fun t ht hn => ?_⟩, fun t ht hn => ?_, fun e' he' hw hn => ?_⟩
  · have := rlx_le (R := R) (D := D) a e t; have := (h1.1 t ht).2; omega
  · have := rlx_le (R := R) (D := D) a e t; have := h1.2 t ht hn; omega
  · have := rlx_le (R := R) (D := D) a e t; have := h2 t ht hn; omega
  · by_cases e2 : e' = e
    · subst e2
      have hd := h1.2 e' he hn
      unfold rlx
      by_cases hh : D e' + wF R a e' < D a
      · rw [if_pos ⟨hw, hh⟩, upN_s]; omega
      · rw [if_neg (fun z => hh z.2)]; omega
    · have := rlx_le (R := R) (D := D) a e a; have := h3 e' (by omega) hw hn; omega
theorem bfJ_row {c m a : Nat} (hRO : ∀ a e, a < 5 → e < 5 → R 6 ≤ e → wF R a e = 0) (h6 : R 6 ≤ 5) (hc : c < 5) (ha : a < 5) (h : bfJ R c m a (R 6) D) : bfJ R c m (a + 1) 0 D := by
  obtain ⟨h1, h2, h3⟩ := h
  refine ⟨h1, fun t ht hn => ?_, fun e' he' => by omega⟩
  by_cases e2 : t = a
  · subst e2
    by_cases etc : t = c
    · subst etc
      refine h1.2 t ha ?_
      rcases Nat.eq_zero_or_pos (nrF R t t) with e | e
      · omega
      · exfalso
        have hz : cntP (fun e => decide (fwF R 5 e t < fwF R 5 t t)) 5 = 0 := by
          have hf : ∀ e, decide (fwF R 5 e t < fwF R 5 t t) = false := fun e => by rw [fw_z]; simp
          have : ∀ N, cntP (fun e => decide (fwF R 5 e t < fwF R 5 t t)) N = 0 := by
            intro N
            induction N with
            | zero => rfl
            | succ N ih => show cntP _ N + (if decide (fwF R 5 N t < fwF R 5 t t) = true then 1 else 0) = 0; rw [ih, hf N]; rfl
          exact this 5
        unfold nrF at e
        omega
    · rcases Nat.lt_or_ge (fwF R 5 t c) 1000000 with hl | hl
      · obtain ⟨e, b1, b2, b3⟩ := fw_tight (R := R) 5 (Nat.le_refl _) t c hc etc hl
        have hn2 := nr_lt (R := R) (c := c) (a := t) b1 (by omega)
        have he6 : e < R 6 := by
          rcases Nat.lt_or_ge e (R 6) with h | h
          · exact h
          · have := hRO t e ha b1 h; omega
        have := h3 e he6 b2 (by omega)
        omega
      · have := (h1.1 t ha).2; omega
  · exact h2 t (by omega) hn
theorem bfJ_round {c m : Nat} (hRO : ∀ a e, a < 5 → e < 5 → R 6 ≤ a → wF R a e = 0) (hc : c < R 6) (h6 : R 6 ≤ 5) (h : bfJ R c m (R 6) 0 D) : bfJ R c (m + 1) 0 0 D := by
  obtain ⟨h1, h2, h3⟩ := h
  refine ⟨⟨h1.1, fun a ha hn => ?_⟩, fun a ha => by omega, fun e he => by omega⟩
  rcases Nat.lt_or_ge a (R 6) with h | h
  · exact h2 a h hn
  · rcases Nat.lt_or_ge (fwF R 5 a c) 1000000 with hl | hl
    · obtain ⟨e, b1, b2, b3⟩ := fw_tight (R := R) 5 (Nat.le_refl _) a c (by omega) (by omega) hl
      have := hRO a e ha b1 h; omega
    · have := (h1.1 a ha).2; omega
theorem Vw.w9 (hV : Vw n p b R Y r g) : ∀ a c, a < 5 → c < 5 → wF R a c ≤ 9 := fun a c ha hc => (hV.ro.2.2.2.2.2.2.2.2.1 a c ha hc).1
theorem Vw.w0 (hV : Vw n p b R Y r g) : ∀ a c, a < 5 → c < 5 → R 6 ≤ a → wF R a c = 0 := fun a c ha hc h => (hV.ro.2.2.2.2.2.2.2.2.1 a c ha hc).2.2 (Or.inl h)
theorem Vw.w0' (hV : Vw n p b R Y r g) : ∀ a c, a < 5 → c < 5 → R 6 ≤ c → wF R a c = 0 := fun a c ha hc h => by
  have := hV.w0 c a hc ha h
  rw [← this]; exact (hV.ro.2.2.2.2.2.2.2.2.1 a c ha hc).2.1
theorem M_layDays {K : Rr → Gi → Gl → Prop} {c : Nat} (hV : Vw n p b R Y r g) (hc : c < R 6) (h : ∀ g', Ag g g' → g' 263 11 = g 263 11 → g' 0 7 = g 0 7 → (∀ t, t < 5 → g' 276 t = nI (fwF R 5 t c)) → K r g' j) : Cm d 226 [.ref 263, .int (nI c)] r g j (rkV K) := by
  have h6 := hV.b6
  have h266 : ∀ gg, Ag g gg → ∀ k, k < 348 → gg 266 k = nI (R k) := fun gg ha k hk => (hV.ag ha).mr hk
  have w9 := hV.w9
  have inner : ∀ m a, m < 5 → a < R 6 → (∀ gg D, Ag g gg → gg 263 11 = g 263 11 → gg 0 7 = g 0 7 → (∀ t, t < 5 → gg 276 t = nI (D t)) → bfJ R c m (a + 1) 0 D → G d 226 38 [(0, .ref 263), (2, .int (nI m)), (3, .int (nI a + nI 1))] [] r gg j (rkV K)) →
      ∀ q e gg D, e + q = R 6 → Ag g gg → gg 263 11 = g 263 11 → gg 0 7 = g 0 7 → (∀ t, t < 5 → gg 276 t = nI (D t)) → bfJ R c m a e D → G d 226 52 [(0, .ref 263), (2, .int (nI m)), (3, .int (nI a)), (4, .int (nI e))] [] r gg j (rkV K) := by
    intro m a hm ha hnext q
    induction q with
    | zero =>
      intro e gg D he hag h11 h7 hD hJ
      have : e = R 6 := by omega
      subst this
      refine vX10_layDays_52 (IX_l (by decide) ⟨fun _ => hnext gg D hag h11 h7 hD (bfJ_row hV.w0' h6 (by omega) (by omega) hJ), fun z => absurd ?_ z⟩)
      rw [h266 gg hag 6 (by decide)]; exact Int32.le_refl _
    | succ q ih =>
      intro e gg D he hag h11 h7 hD hJ
      have hidx : nI 101 + nI 5 * nI a + nI e = nI (101 + 5 * a + e) := by rw [pk_mul, nI_add, nI_add]
      have hw := w9 a e (by omega) (by omega)
      have ew : gg 266 (101 + 5 * a + e) = nI (wF R a e) := h266 gg hag _ (by omega)
      have hDe := (hJ.1.1 e (by omega)).2
      have hDa := (hJ.1.1 a (by omega)).2
      have hst := bfJ_step hJ (by omega) (show e < 5 by omega)
      have hadd : gg 276 e + gg 266 (101 + 5 * a + e) = nI (D e + wF R a e) := by rw [hD e (by omega), ew, nI_add]
      have keep : ¬ (0 < wF R a e ∧ D e + wF R a e < D a) → G d 226 140 [(0, .ref 263), (2, .int (nI m)), (3, .int (nI a)), (4, .int (nI e))] [] r gg j (rkV K) := fun hn => by
        refine vX10_layDays_140 ?_
        rw [nI_add]
        refine ih (e + 1) gg (rlx R D a e) (by omega) hag h11 h7 (fun t ht => ?_) hst
        unfold rlx; rw [if_neg hn]; exact hD t ht
      refine vX10_layDays_52 (IX_l (by decide) ⟨fun z => ?_, fun _ => IX_e hidx (by omega) ⟨fun z => keep ?_, fun z => IX_l (by omega) (IX_e hidx (by omega) (IX_l (by omega) ⟨fun z2 => keep ?_, fun z2 => IX_l (by omega) (IX_e hidx (by omega) (IX_l (by omega) (vX10_layDays_140 ?_)))⟩))⟩⟩)
      · rw [h266 gg hag 6 (by decide)] at z; exact absurd z (nI_ge (by omega) (by omega))
      · rw [ew, ← nI_0] at z
        have := le_n (by omega) (by decide) z; omega
      · rw [hadd, hD a (by omega)] at z2
        have := le_n (by omega) (by omega) z2; omega
      · rw [hadd, nI_add]
        have hpos : 0 < wF R a e := by
          rcases Nat.eq_zero_or_pos (wF R a e) with hz | hz
          · rw [ew, hz, n00] at z; exact absurd (Int32.le_refl 0) z
          · exact hz
        have hlt : D e + wF R a e < D a := by
          rw [hadd, hD a (by omega)] at z2
          rcases Nat.lt_or_ge (D e + wF R a e) (D a) with h | h
          · exact h
          · exact absurd (nI_le h (by omega)) z2
        refine ih (e + 1) _ (rlx R D a e) (by omega) (hag.u rfl) (by rw [uI_o (by decide)]; exact h11) (by rw [uI_o (by decide)]; exact h7) (fun t ht => ?_) hst
        unfold rlx; rw [if_pos ⟨hpos, hlt⟩]
        by_cases e2 : t = a
        · subst e2; rw [uI_s, upN_s]
        · rw [uI_n e2, upN_o e2]; exact hD t ht
  have mid : ∀ m, m < 5 → (∀ gg D, Ag g gg → gg 263 11 = g 263 11 → gg 0 7 = g 0 7 → (∀ t, t < 5 → gg 276 t = nI (D t)) → bfJ R c (m + 1) 0 0 D → G d 226 31 [(0, .ref 263), (2, .int (nI m + nI 1))] [] r gg j (rkV K)) →
      ∀ q a gg D, a + q = R 6 → Ag g gg → gg 263 11 = g 263 11 → gg 0 7 = g 0 7 → (∀ t, t < 5 → gg 276 t = nI (D t)) → bfJ R c m a 0 D → G d 226 38 [(0, .ref 263), (2, .int (nI m)), (3, .int (nI a))] [] r gg j (rkV K) := by
    intro m hm hnext q
    induction q with
    | zero =>
      intro a gg D ha hag h11 h7 hD hJ
      have : a = R 6 := by omega
      subst this
      refine vX10_layDays_38 (IX_l (by decide) ⟨fun _ => hnext gg D hag h11 h7 hD (bfJ_round hV.w0 hc h6 hJ), fun z => absurd ?_ z⟩)
      rw [h266 gg hag 6 (by decide)]; exact Int32.le_refl _
    | succ q ih =>
      intro a gg D ha hag h11 h7 hD hJ
      refine vX10_layDays_38 (IX_l (by decide) ⟨fun z => ?_, fun _ => inner m a hm (by omega) (fun gg D hag h11 h7 hD hJ => ?_) (R 6) 0 gg D (by omega) hag h11 h7 hD hJ⟩)
      · rw [h266 gg hag 6 (by decide)] at z; exact absurd z (nI_ge (by omega) (by omega))
      · rw [nI_add]; exact ih (a + 1) gg D (by omega) hag h11 h7 hD hJ
  have outer : ∀ q m gg D, m + q = 5 → Ag g gg → gg 263 11 = g 263 11 → gg 0 7 = g 0 7 → (∀ t, t < 5 → gg 276 t = nI (D t)) → bfJ R c m 0 0 D → G d 226 31 [(0, .ref 263), (2, .int (nI m))] [] r gg j (rkV K) := by
    intro q
    induction q with
    | zero =>
      intro m gg D hm hag h11 h7 hD hJ
      have : m = 5 := by omega
      subst this
      exact vX10_layDays_31 ⟨fun _ => h gg hag h11 h7 (fun t ht => by rw [hD t ht, bf_fin hJ.1 ht]), fun z => absurd (Int32.le_refl _) z⟩
    | succ q ih =>
      intro m gg D hm hag h11 h7 hD hJ
      refine vX10_layDays_31 ⟨fun z => absurd z (nI_ge (by omega) (by omega)), fun _ => mid m (by omega) (fun gg D hag h11 h7 hD hJ => ?_) (R 6) 0 gg D (by omega) hag h11 h7 hD hJ⟩
      rw [nI_add]; exact ih (m + 1) gg D (by omega) hag h11 h7 hD hJ
  have init : ∀ q i gg, i + q = 5 → Ag g gg → gg 263 11 = g 263 11 → gg 0 7 = g 0 7 → (∀ t, t < i → gg 276 t = nI 1000000) → G d 226 2 [(0, .ref 263), (1, .int (nI c)), (2, .int (nI i))] [] r gg j (rkV K) := by
    intro q
    induction q with
    | zero =>
      intro i gg hi hag h11 h7 hD
      have : i = 5 := by omega
      subst this
      refine vX10_layDays_2 ⟨fun _ => IX_l (by omega) (outer 5 0 _ (fun a => if a = c then 0 else 1000000) (by decide) (hag.u rfl) (by rw [uI_o (by decide)]; exact h11) (by rw [uI_o (by decide)]; exact h7) (fun t ht => ?_) ⟨bf_0 w9 (by omega), fun a ha => by omega, fun e he => by omega⟩), fun z => absurd (Int32.le_refl _) z⟩
      show _ = nI (if t = c then 0 else 1000000)
      by_cases e : t = c
      · subst e; rw [uI_s, if_pos rfl]
      · rw [uI_n e, if_neg e]; exact hD t ht
    | succ q ih =>
      intro i gg hi hag h11 h7 hD
      refine vX10_layDays_2 ⟨fun z => absurd z (nI_ge (by omega) (by omega)), fun _ => IX_l (by omega) ?_⟩
      rw [nI_add]
      refine ih (i + 1) _ (by omega) (hag.u rfl) (by rw [uI_o (by decide)]; exact h11) (by rw [uI_o (by decide)]; exact h7) (fun t ht => ?_)
      by_cases e : t = i
      · subst e; rw [uI_s]
      · rw [uI_n e]; exact hD t (by omega)
  exact vX10_layDays_0 (init 5 0 g (by decide) Ag.rf rfl rfl (fun t ht => by omega))
end
