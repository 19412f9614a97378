/-! queries: rests, rest -/
theorem rsN_t {R : Nat → Nat} {q : Nat} (h : isR R (q / 10) (q % 10)) : rsN R (q + 1) = rsN R q ++ [q] := by
  show rsN R q ++ @ite _ _ (Classical.propDecidable _) _ _ = _
  rw [if_pos h]
theorem rsN_f {R : Nat → Nat} {q : Nat} (h : ¬ isR R (q / 10) (q % 10)) : rsN R (q + 1) = rsN R q := by
  show rsN R q ++ @ite _ _ (Classical.propDecidable _) _ _ = _
  rw [if_neg h, List.append_nil]
theorem rsN_at {R : Nat → Nat} {q : Nat} (h : isR R (q / 10) (q % 10)) : ∀ m, (rsN R (q + 1 + m))[(rsN R q).length]? = some q := by
  intro m
  induction m with
  | zero => rw [Nat.add_zero, rsN_t h]; simp
  | succ m ih =>
    rw [show q + 1 + (m + 1) = (q + 1 + m) + 1 by omega]
    by_cases hr : isR R ((q + 1 + m) / 10) ((q + 1 + m) % 10)
    · rw [rsN_t hr, List.getElem?_append_left]
      · exact ih
      · rcases Nat.lt_or_ge (rsN R q).length (rsN R (q + 1 + m)).length with h | h
        · exact h
        · rw [List.getElem?_eq_none h] at ih; exact absurd ih (by simp)
    · rw [rsN_f hr]; exact ih
theorem rsN_len (R : Nat → Nat) : ∀ q, (rsN R q).length ≤ q := by
  intro q
  induction q with
  | zero => exact Nat.le_refl _
  | succ q ih =>
    by_cases h : isR R (q / 10) (q % 10)
    · rw [rsN_t h, List.length_append]; simp; omega
    · rw [rsN_f h]; omega
theorem rsN_mem (R : Nat → Nat) : ∀ (q i v : Nat), (rsN R q)[i]? = some v → v < q := by
  intro q
  induction q with
  | zero => intro i v h; simp [rsN] at h
  | succ q ih =>
    intro i v h
    by_cases hr : isR R (q / 10) (q % 10)
    · rw [rsN_t hr] at h
      rcases Nat.lt_or_ge i (rsN R q).length with hl | hl
      · rw [List.getElem?_append_left hl] at h
        have := ih i v h; omega
      · rw [List.getElem?_append_right hl] at h
        cases hk : i - (rsN R q).length with
        | zero => rw [hk] at h; simp at h; omega
        | succ k => rw [hk] at h; simp at h
    · rw [rsN_f hr] at h
      have := ih i v h; omega
section
variable {n p b d : Nat} {R Y : Nat → Nat} {r : Rr} {g : Gi} {j : Gl} {K : Int32 → Rr → Gi → Gl → Prop} {x x1 x2 : Int32}
theorem nlt_le {a c : Int32} : ¬ c < a ↔ a ≤ c := by rw [Int32.lt_iff_toInt_lt, Int32.le_iff_toInt_le]; omega
theorem M_isRest (hV : Vw n p b R Y r g) {a c : Nat} (ha : a ≤ 9) (hc : c ≤ 9) (h1 : isR R a c → K (nI 1) r g j) (h0 : ¬ isR R a c → K (nI 0) r g j) : Cm (d + 1) 236 [.ref 263, .int (nI a), .int (nI c)] r g j (rkI K) := by
  have loop0 : ∀ q k, k + q = 10 → (¬ isR R a c) → G (d + 1) 236 5 [(0, .ref 263), (1, .int (nI a)), (2, .int (nI c)), (3, .int (nI 0)), (4, .int (nI k))] [] r g j (rkI K) := by
    intro q
    induction q with
    | zero =>
      intro k hk hn
      have : k = 10 := by omega
      subst this
      exact vX10_isRest_5 ⟨fun _ => ⟨bo0, h0 hn⟩, fun a => absurd (by decide +kernel) a⟩
    | succ q ih =>
      intro k hk hn
      refine vX10_isRest_5 ⟨fun a => ?_, fun _ => ⟨fun _ => vX10_isRest_56 (vX10_isRest_57 ?_), fun a => absurd n00 a⟩⟩
      · have := lt_n (by decide) (by omega) a; omega
      · rw [nI_add]; exact ih (k + 1) (by omega) hn
  have loop : ∀ q k, k + q = 10 → (∀ k', k' < k → gaV R k' c ≤ gaV R a c ∧ coV R a k' ≤ coV R a c) → G (d + 1) 236 5 [(0, .ref 263), (1, .int (nI a)), (2, .int (nI c)), (3, .int (nI 1)), (4, .int (nI k))] [] r g j (rkI K) := by
    intro q
    induction q with
    | zero =>
      intro k hk hall
      have : k = 10 := by omega
      subst this
      exact vX10_isRest_5 ⟨fun _ => ⟨bo1, h1 (fun k' hk' => hall k' (by omega))⟩, fun a => absurd (by decide +kernel) a⟩
    | succ q ih =>
      intro k hk hall
      have no : ¬ (gaV R k c ≤ gaV R a c ∧ coV R a k ≤ coV R a c) → G (d + 1) 236 56 [(0, .ref 263), (1, .int (nI a)), (2, .int (nI c)), (4, .int (nI k))] [] r g j (rkI K) := fun hn => by
        refine vX10_isRest_56 (vX10_isRest_57 ?_)
        rw [nI_add]; exact loop0 q (k + 1) (by omega) (fun h => hn (h k (by omega)))
      refine vX10_isRest_5 ⟨fun a => ?_, fun _ => ⟨fun a => absurd a n10, fun _ => M_strikeOf hV (by omega) hc (M_strikeOf hV ha hc ⟨fun e => ?_, fun e => M_strikeOf hV ha (by omega) (M_strikeOf hV ha hc ⟨fun e2 => ?_, fun e2 => ?_⟩)⟩)⟩⟩
      · have := lt_n (by decide) (by omega) a; omega
      · rw [if_pos n00, if_pos n00] at e
        exact no (fun h => nlt_le.mpr h.1 e)
      · rw [if_neg n10, if_neg n10] at e2
        exact no (fun h => nlt_le.mpr h.2 e2)
      · rw [if_pos n00, if_pos n00] at e
        rw [if_neg n10, if_neg n10] at e2
        refine vX10_isRest_57 ?_
        rw [nI_add]
        refine ih (k + 1) (by omega) (fun k' hk' => ?_)
        by_cases e3 : k' = k
        · subst e3; exact ⟨nlt_le.mp e, nlt_le.mp e2⟩
        · exact hall k' (by omega)
  exact vX10_isRest_0 (loop 10 0 (by decide) (fun k' hk' => by omega))
theorem M_seekRest (hV : Vw n p b R Y r g) (h1 : ∀ i v, (rsL R)[i]? = some v → x1 = nI i → ∀ g', Ag g g' → g' 263 11 = g 263 11 → g' 0 7 = g 0 7 → K (nI v) r g' j) (h2 : (∀ i, i < (rsL R).length → x1 ≠ nI i) → ∀ g', Ag g g' → g' 263 11 = g 263 11 → g' 0 7 = g 0 7 → g' 263 32 = nI (rsL R).length → K (-1) r g' j) : Cm (d + 2) 237 [.ref 263, .int x1] r g j (rkI K) := by
  have inner : ∀ a, a ≤ 9 → (∀ gg, Ag g gg → gg 263 11 = g 263 11 → gg 0 7 = g 0 7 → gg 263 32 = nI (rsN R (10 * a + 10)).length → (∀ i, i < (rsN R (10 * a + 10)).length → x1 ≠ nI i) → G (d + 2) 237 7 [(0, .ref 263), (1, .int x1), (2, .int (nI a + nI 1))] [] r gg j (rkI K)) →
      ∀ q c gg, c + q = 10 → Ag g gg → gg 263 11 = g 263 11 → gg 0 7 = g 0 7 → gg 263 32 = nI (rsN R (10 * a + c)).length → (∀ i, i < (rsN R (10 * a + c)).length → x1 ≠ nI i) → G (d + 2) 237 15 [(0, .ref 263), (1, .int x1), (2, .int (nI a)), (3, .int (nI c))] [] r gg j (rkI K) := by
    intro a ha hnext q
    induction q with
    | zero =>
      intro c gg hc hag h11 h7 h32 hx
      have : c = 10 := by omega
      subst this
      exact vX10_seekRest_15 ⟨fun _ => hnext gg hag h11 h7 h32 hx, fun a => absurd (by decide +kernel) a⟩
    | succ q ih =>
      intro c gg hc hag h11 h7 h32 hx
      have hl := rsN_len R (10 * a + c)
      have hd : (10 * a + c) / 10 = a := by omega
      have hm : (10 * a + c) % 10 = c := by omega
      refine vX10_seekRest_15 ⟨fun e => ?_, fun _ => M_isRest (hV.ag hag) ha (by omega) (fun hr => ⟨fun e => absurd e n10, fun _ => ⟨fun e => ?_, fun e => vX10_seekRest_58 ?_⟩⟩) (fun hr => ⟨fun _ => vX10_seekRest_58 ?_, fun e => absurd n00 e⟩)⟩
      · have := lt_n (by decide) (by omega) e; omega
      · have hat := rsN_at (q := 10 * a + c) (by rw [hd, hm]; exact hr) (100 - (10 * a + c + 1))
        rw [show 10 * a + c + 1 + (100 - (10 * a + c + 1)) = 100 by omega] at hat
        have := h1 _ _ hat (by rw [← e]; exact h32) gg hag h11 h7
        rw [pk_mul, nI_add]; exact this
      · rw [nI_add, h32, nI_add]
        have er : rsN R (10 * a + (c + 1)) = rsN R (10 * a + c) ++ [10 * a + c] := rsN_t (q := 10 * a + c) (by rw [hd, hm]; exact hr)
        have el : (rsN R (10 * a + (c + 1))).length = (rsN R (10 * a + c)).length + 1 := by rw [er, List.length_append]; rfl
        refine ih (c + 1) _ (by omega) (hag.u rfl) (by rw [uI_n (by decide)]; exact h11) (by rw [uI_o (by decide)]; exact h7) (by rw [uI_s, el]) (fun i hi => ?_)
        rw [el] at hi
        by_cases e2 : i = (rsN R (10 * a + c)).length
        · subst e2; rw [← h32]; exact fun z => e z.symm
        · exact hx i (by omega)
      · rw [nI_add]
        have er : rsN R (10 * a + (c + 1)) = rsN R (10 * a + c) := rsN_f (q := 10 * a + c) (by rw [hd, hm]; exact hr)
        exact ih (c + 1) gg (by omega) hag h11 h7 (by rw [er]; exact h32) (by rw [er]; exact hx)
  have outer : ∀ q a gg, a + q = 10 → Ag g gg → gg 263 11 = g 263 11 → gg 0 7 = g 0 7 → gg 263 32 = nI (rsN R (10 * a)).length → (∀ i, i < (rsN R (10 * a)).length → x1 ≠ nI i) → G (d + 2) 237 7 [(0, .ref 263), (1, .int x1), (2, .int (nI a))] [] r gg j (rkI K) := by
    intro q
    induction q with
    | zero =>
      intro a gg ha hag h11 h7 h32 hx
      have : a = 10 := by omega
      subst this
      exact vX10_seekRest_7 ⟨fun _ => h2 hx gg hag h11 h7 h32, fun a => absurd (by decide +kernel) a⟩
    | succ q ih =>
      intro a gg ha hag h11 h7 h32 hx
      refine vX10_seekRest_7 ⟨fun e => ?_, fun _ => inner a (by omega) (fun gg hag h11 h7 h32 hx => ?_) 10 0 gg (by decide) hag h11 h7 h32 hx⟩
      · have := lt_n (by decide) (by omega) e; omega
      · rw [nI_add]
        exact ih (a + 1) gg (by omega) hag h11 h7 (by rw [show 10 * (a + 1) = 10 * a + 10 by omega]; exact h32) (by rw [show 10 * (a + 1) = 10 * a + 10 by omega]; exact hx)
  exact vX10_seekRest_0 (outer 10 0 _ (by decide) (Ag.rf.u rfl) (uI_n (by decide)) rfl uI_s (fun i hi => absurd hi (Nat.not_lt_zero _)))
theorem q_rests : PD n p b R Y r (d + 4) 108 238 [] := by
  by_cases hb : b = 0
  · refine ⟨-1, nI 1, e1, fun g j hV _ => ?_, fun g j hV => ?_⟩
    · exact vX9_rests_0 ⟨fun _ => X_ref Ag.rf, fun a => absurd (hV.tx0 hb) a⟩
    · exact vX10_rests_0 (M_good fun g2 ha ht h7 => ⟨fun _ => M_no ha h7, fun a => absurd ((hV.ag ha).tm0 hb) a⟩)
  · refine ⟨nI (rsL R).length, nI 0, e0, fun g j hV hD => ?_, fun g j hV => ?_⟩
    · have hb1 : b = 1 := by rcases hV.b01 with h | h
                             · exact absurd h hb
                             · exact h
      refine vX9_rests_0 ⟨fun a => absurd (by rw [hV.tx, hb1] at a; exact a) n10, fun _ => ?_⟩
      rw [(hD hb1).2.1]; exact X_ans Ag.rf
    · have hb1 : b = 1 := by rcases hV.b01 with h | h
                             · exact absurd h hb
                             · exact h
      refine vX10_rests_0 (M_good fun g2 ha ht h7 => ⟨fun a => absurd (by rw [(hV.ag ha).tm, hb1] at a; exact a) n10, fun _ => M_seekRest (hV.ag ha) (fun i v hv e => ?_) (fun _ g' hag h11 h7' h32 => ⟨h32, rfl, ha.tr hag, by rw [h11]; exact ht, by rw [h7']; exact h7⟩)⟩)
      exfalso
      have hi : i < (rsL R).length := by
        rcases Nat.lt_or_ge i (rsL R).length with h | h
        · exact h
        · rw [List.getElem?_eq_none h] at hv; exact absurd hv (by simp)
      have := rsN_len R 100
      exact nI_m1 (show i < 2 ^ 31 by have : (rsL R).length ≤ 100 := this; omega) e.symm
theorem q_rest (x1 : Int32) : PD n p b R Y r (d + 4) 109 239 [.int x1] := by
  have hl : (rsL R).length ≤ 100 := rsN_len R 100
  by_cases hv : b = 1 ∧ ∃ i v, (rsL R)[i]? = some v ∧ x1 = nI i
  · obtain ⟨hb1, i, v, hv, rfl⟩ := hv
    have hi : i < (rsL R).length := by
      rcases Nat.lt_or_ge i (rsL R).length with h | h
      · exact h
      · rw [List.getElem?_eq_none h] at hv; exact absurd hv (by simp)
    have hvl : v < 100 := rsN_mem R 100 i v hv
    refine ⟨nI v, nI 0, e0, fun g j hV hD => ?_, fun g j hV => ?_⟩
    · refine vX9_rest_0 ⟨fun a => absurd (by rw [hV.tx, hb1] at a; exact a) n10, fun _ => ⟨fun a => absurd a (nlt_0 (by omega)), fun _ => ⟨fun _ => IX_l (by omega) ?_, fun a => absurd ?_ a⟩⟩⟩
      · rw [(hD hb1).2.2 i v hv]; exact X_ans Ag.rf
      · rw [(hD hb1).2.1]; exact nI_lt hi (by omega)
    · refine vX10_rest_0 (M_good fun g2 ha ht h7 => ⟨fun a => absurd (by rw [(hV.ag ha).tm, hb1] at a; exact a) n10, fun _ => ⟨fun _ => M_seekRest (hV.ag ha) (fun i' v' hv' e g' hag h11 h7' => ?_) (fun h => absurd rfl (h i hi)), fun a => absurd (ge0 (by omega)) a⟩⟩)
      have : i' = i := by
        have hi' : i' < (rsL R).length := by
          rcases Nat.lt_or_ge i' (rsL R).length with h | h
          · exact h
          · rw [List.getElem?_eq_none h] at hv'; exact absurd hv' (by simp)
        exact ((nI_eq (by omega) (by omega)).mp e).symm
      subst this
      have : v' = v := by rw [hv] at hv'; exact (Option.some.inj hv').symm
      subst this
      exact vX10_rest_30 ⟨fun _ => ⟨rfl, rfl, ha.tr hag, by rw [h11]; exact ht, by rw [h7']; exact h7⟩, fun a => absurd (ge0 (by omega)) a⟩
  · refine ⟨-1, nI 1, e1, fun g j hV hD => ?_, fun g j hV => ?_⟩
    · rcases hV.b01 with hb | hb
      · exact vX9_rest_0 ⟨fun _ => vX9_rest_22 (X_ref Ag.rf), fun a => absurd (hV.tx0 hb) a⟩
      · refine vX9_rest_0 ⟨fun a => absurd (by rw [hV.tx, hb] at a; exact a) n10, fun _ => ⟨fun _ => vX9_rest_22 (X_ref Ag.rf), fun a0 => ⟨fun a => ?_, fun _ => vX9_rest_22 (X_ref Ag.rf)⟩⟩⟩
        rw [(hD hb).2.1] at a
        rcases in_or x1 (n := (rsL R).length) (by omega) with ⟨i, hi, e⟩ | o
        · exact absurd ⟨hb, i, _, List.getElem?_eq_getElem hi, e⟩ hv
        · exact absurd a (out_nlt (by omega) o a0)
    · rcases hV.b01 with hb | hb
      · exact vX10_rest_0 (M_good fun g2 ha ht h7 => ⟨fun _ => M_no ha h7, fun a => absurd ((hV.ag ha).tm0 hb) a⟩)
      · refine vX10_rest_0 (M_good fun g2 ha ht h7 => ⟨fun a => absurd (by rw [(hV.ag ha).tm, hb] at a; exact a) n10, fun _ => ⟨fun _ => M_seekRest (hV.ag ha) (fun i v hv' e => absurd ⟨hb, i, v, hv', e⟩ hv) (fun _ g' hag h11 h7' h32 => vX10_rest_30 ⟨fun a => absurd a nge0, fun _ => M_no (ha.tr hag) (by rw [h7']; exact h7)⟩), fun _ => vX10_rest_30 ⟨fun a => absurd a nge0, fun _ => M_no ha h7⟩⟩⟩)
theorem o_rests (hn : n + 1 ≤ 512) (hJ : J n r g) : OPi (d + 4) 108 238 [] n r g j := OPi.od hn hJ fun p b R Y hV hz => q_rests
theorem o_rest (hn : n + 1 ≤ 512) (hJ : J n r g) (x1 : Int32) : OPi (d + 4) 109 239 [.int x1] n r g j := OPi.od hn hJ fun p b R Y hV hz => q_rest x1
end
