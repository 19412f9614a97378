/-! CRANES, the reference: labels; heightIn, topIn, lifted, costOf -/
noncomputable def labK (R Y : Nat → Nat) (sh k : Nat) : Nat := min (@Classical.epsilon Nat ⟨0⟩ (fun m => ∃ t i, t < 3 ∧ i < Y (120 + (3 * sh + t)) ∧ m = ccF Y sh t + i ∧ rkC R Y sh (lyC Y (3 * sh + t) i) = k)) 4
theorem labK4 {R Y : Nat → Nat} {sh : Nat} (k : Nat) : labK R Y sh k ≤ 4 := Nat.min_le_right _ _
def MnI (Y : Nat → Nat) (sh : Nat) (g : Gi) : Prop := ∀ t i, t < 3 → i < Y (120 + (3 * sh + t)) → g 274 (ccF Y sh t + i) = nI (lyC Y (3 * sh + t) i)
theorem lgz {a b : Int64} : lg_cmp a b = 0 ↔ a = b := by
  unfold lg_cmp
  by_cases e : a = b
  · subst e
    rw [if_neg (by rw [gt_iff_lt, Int64.lt_iff_toInt_lt]; omega), if_pos rfl]
    exact ⟨fun _ => rfl, fun _ => rfl⟩
  · constructor
    · intro z
      by_cases c : a > b
      · rw [if_pos c] at z; exact absurd z (by decide +kernel)
      · rw [if_neg c, if_neg e] at z; exact absurd z (by decide +kernel)
    · intro z; exact absurd z e
theorem dgL {W t i : Nat} (hW : W < 2 ^ 45) (ht : t < 3) (hi : i < 5) : (lN W >>> ((nI 15 * nI t + nI 3 * nI i).toInt64 &&& 63)) &&& lN 7 = lN (W / 8 ^ (5 * t + i) % 8) := by
  rw [pk_mul, pk_mul, nI_add, wb_shr (by omega) (by omega), show (7 : Nat) = 2 ^ 3 - 1 from rfl, fb_maskL, show 15 * t + 3 * i = 3 * (5 * t + i) by omega, p28]
section
variable {n p b d sh cnt : Nat} {R Y : Nat → Nat} {r : Rr} {g g0 g' : Gi} {j : Gl} {s s' : St} {lb : Nat → Nat}
theorem cc_mono {t t' : Nat} (h : t ≤ t') : ccF Y sh t ≤ ccF Y sh t' := by
  induction t' with
  | zero => have : t = 0 := by omega
            subst this; exact Nat.le_refl _
  | succ t' ih =>
    by_cases e : t = t' + 1
    · subst e; exact Nat.le_refl _
    · have := ih (by omega)
      show _ ≤ ccF Y sh t' + _
      omega
theorem cc3 (hY : YO n R Y) (hs : sh < 3) : ccF Y sh 3 = ctC R Y sh := by
  rw [← crL_len hY hs]
  unfold crL
  rw [List.length_append, List.length_append, stk_len, stk_len, stk_len]
  show 0 + Y (120 + (3 * sh + 0)) + Y (120 + (3 * sh + 1)) + Y (120 + (3 * sh + 2)) = _
  omega
theorem cc_lt (hY : YO n R Y) (hs : sh < 3) {t i : Nat} (ht : t < 3) (hi : i < Y (120 + (3 * sh + t))) : ccF Y sh t + i < ctC R Y sh := by
  rw [← cc3 hY hs]
  have a : ccF Y sh (t + 1) ≤ ccF Y sh 3 := cc_mono (by omega)
  have b : ccF Y sh (t + 1) = ccF Y sh t + Y (120 + (3 * sh + t)) := rfl
  omega
theorem lab_at (hR : RO b R) (hY : YO n R Y) (hs : sh < 3) {t i : Nat} (ht : t < 3) (hi : i < Y (120 + (3 * sh + t))) : labK R Y sh (rkC R Y sh (lyC Y (3 * sh + t) i)) = ccF Y sh t + i := by
  obtain ⟨t', i', h1, h2, h3, h4⟩ := @Classical.epsilon_spec Nat (fun m => ∃ t' i', t' < 3 ∧ i' < Y (120 + (3 * sh + t')) ∧ m = ccF Y sh t' + i' ∧ rkC R Y sh (lyC Y (3 * sh + t') i') = rkC R Y sh (lyC Y (3 * sh + t) i)) ⟨_, t, i, ht, hi, rfl, rfl⟩
  have o := ly_on hY hs ht hi
  have o' := ly_on hY hs h1 h2
  have e := rk_inj hR o'.1 o'.2.1 o.1 o.2.1 h4
  have et : t' = t := by have a := o'.2.2.1; have c := o.2.2.1; rw [e] at a; omega
  subst et
  have ei := ly_inj hY hs h1 h2 hi e
  subst ei
  unfold labK
  rw [h3]
  have a := cc_lt hY hs ht hi
  have c := ct5 (Y := Y) (sh := sh) hR
  omega
theorem crK_at (hR : RO b R) (hY : YO n R Y) (hs : sh < 3) {k : Nat} (hk : k < ctC R Y sh) : ∃ t i, t < 3 ∧ i < Y (120 + (3 * sh + t)) ∧ k = rkC R Y sh (lyC Y (3 * sh + t) i) ∧ crK R Y sh k = lyC Y (3 * sh + t) i ∧ labK R Y sh k = ccF Y sh t + i := by
  obtain ⟨t, ht, hm⟩ := V_in (V0 hR hY hs) (x := k) (Nat.zero_le _) hk
  rw [cr0_g ht] at hm
  obtain ⟨i, hi, e⟩ := (stk_mem _ _).mp hm
  have o := ly_on hY hs ht hi
  have e : k = rkC R Y sh (lyC Y (3 * sh + t) i) := e
  exact ⟨t, i, ht, hi, e, by rw [e]; exact crK_rk hR o.1 o.2.1, by rw [e]; exact lab_at hR hY hs ht hi⟩
theorem crK_on (hR : RO b R) (hY : YO n R Y) (hs : sh < 3) {k : Nat} (hk : k < ctC R Y sh) : crK R Y sh k < R 5 ∧ onS R Y sh (crK R Y sh k) ∧ rkC R Y sh (crK R Y sh k) = k := by
  obtain ⟨t, i, h1, h2, h3, h4, h5⟩ := crK_at hR hY hs hk
  have o := ly_on hY hs h1 h2
  rw [h4]
  exact ⟨o.1, o.2.1, h3.symm⟩
theorem lab_inj (hR : RO b R) (hY : YO n R Y) (hs : sh < 3) {k k' : Nat} (hk : k < ctC R Y sh) (hk' : k' < ctC R Y sh) (h : labK R Y sh k = labK R Y sh k') : k = k' := by
  obtain ⟨t, i, h1, h2, h3, h4, h5⟩ := crK_at hR hY hs hk
  obtain ⟨t', i', g1, g2, g3, g4, g5⟩ := crK_at hR hY hs hk'
  rw [h5, g5] at h
  have et : t = t' := by
    rcases Nat.lt_trichotomy t t' with z | z | z
    · have a : ccF Y sh (t + 1) ≤ ccF Y sh t' := cc_mono (by omega)
      have c : ccF Y sh (t + 1) = ccF Y sh t + Y (120 + (3 * sh + t)) := rfl
      omega
    · exact z
    · have a : ccF Y sh (t' + 1) ≤ ccF Y sh t := cc_mono (by omega)
      have c : ccF Y sh (t' + 1) = ccF Y sh t' + Y (120 + (3 * sh + t')) := rfl
      omega
  subst et
  have ei : i = i' := by omega
  subst ei
  rw [h3, g3]
theorem mine_at (hR : RO b R) (hY : YO n R Y) (hs : sh < 3) (hM : MnI Y sh g) {k : Nat} (hk : k < ctC R Y sh) : g 274 (labK R Y sh k) = nI (crK R Y sh k) := by
  obtain ⟨t, i, h1, h2, h3, h4, h5⟩ := crK_at hR hY hs hk
  rw [h4, h5]
  exact hM t i h1 h2
theorem M_heightIn {K : Int32 → Rr → Gi → Gl → Prop} (hb : ∀ k, lb k ≤ 4) (h5 : ∀ t, t < 3 → (cr_g s t).length ≤ 5) {t : Nat} (ht : t < 3) (h : K (nI (cr_g s t).length) r g j) : Cm d 202 [.long (lN (wyE lb s)), .int (nI t)] r g j (rkI K) := by
  have hl := h5 t ht
  have hW := wyE_lt hb h5
  have loop : ∀ q i, i + q = (cr_g s t).length → G d 202 2 [(0, .long (lN (wyE lb s))), (2, .int (nI t)), (3, .int (nI i))] [] r g j (rkI K) := by
    intro q
    induction q with
    | zero =>
      intro i hi
      have : i = (cr_g s t).length := by omega
      subst this
      refine vX10_heightIn_2 ⟨fun _ => h, fun a => ⟨fun _ => h, fun z => absurd ?_ z⟩⟩
      have : (cr_g s t).length < 5 := by
        rw [← Nat.not_le]; exact fun z => a (nI_le z (by omega))
      rw [dgL hW ht this, wyE_0 hb h5 ht this (Nat.le_refl _)]
      exact lgz.mpr rfl
    | succ q ih =>
      intro i hi
      have hi5 : i < 5 := by omega
      refine vX10_heightIn_2 ⟨fun a => absurd a (nI_ge hi5 (by decide)), fun _ => ⟨fun z => ?_, fun _ => ?_⟩⟩
      · exfalso
        have hlt : (cr_g s t).length - (i + 1) < (cr_g s t).length := by omega
        obtain ⟨l1, k, l2, e1, e2⟩ : ∃ l1 k l2, cr_g s t = l1 ++ k :: l2 ∧ l2.length = i := by
          refine ⟨(cr_g s t).take ((cr_g s t).length - (i + 1)), (cr_g s t)[(cr_g s t).length - (i + 1)], (cr_g s t).drop ((cr_g s t).length - (i + 1) + 1), ?_, ?_⟩
          · rw [← List.drop_eq_getElem_cons hlt, List.take_append_drop]
          · rw [List.length_drop]; omega
        have e3 := wyE_top hb h5 ht e1
        rw [e2] at e3
        rw [dgL hW ht hi5, e3, lgz, pk_lEQ (by have := hb k; omega) (by decide)] at z
        omega
      · rw [nI_add]
        exact ih (i + 1) (by omega)
  exact vX10_heightIn_0 (loop (cr_g s t).length 0 (by omega))
theorem M_topIn {K : Int32 → Rr → Gi → Gl → Prop} (hb : ∀ k, lb k ≤ 4) (h5 : ∀ t, t < 3 → (cr_g s t).length ≤ 5) {t k : Nat} {l : List Nat} (ht : t < 3) (hg : cr_g s t = k :: l) (h : K (nI (lb k)) r g j) : Cm (d + 1) 203 [.long (lN (wyE lb s)), .int (nI t)] r g j (rkI K) := by
  have hl := h5 t ht
  have hW := wyE_lt hb h5
  have hk := hb k
  have e3 := wyE_top hb h5 ht (l1 := []) hg
  rw [hg, List.length_cons] at hl
  refine vX10_topIn_0 (M_heightIn hb h5 ht ?_)
  rw [hg, List.length_cons, pk_sub (by omega), show l.length + 1 - 1 = l.length by omega, dgL hW ht (by omega), e3, lN_i, pk_sub (by omega)]
  exact h
theorem M_costOf {K : Int32 → Rr → Gi → Gl → Prop} (hV : Vw n p b R Y r g) (hs : sh < 3) (hM : MnI Y sh g) (hC : cr_V (ctC R Y sh) s) {t k : Nat} {l : List Nat} (ht : t < 3) (hg : cr_g s t = k :: l) (h : K (nI (crE R Y sh k)) r g j) : Cm (d + 2) 206 [.ref 263, .long (lN (wyE (labK R Y sh) s)), .int (nI t)] r g j (rkI K) := by
  have hc5 := ct5 (Y := Y) (sh := sh) hV.ro
  have h5 : ∀ t, t < 3 → (cr_g s t).length ≤ 5 := fun t ht => by have := V_len hC ht; omega
  have hk := (V_mem hC ht (show k ∈ cr_g s t by rw [hg]; exact List.mem_cons_self)).2
  have ho := crK_on hV.ro hV.yo hs hk
  have r5 := hV.b5
  have rc := hV.ro.2.2.2.2.1 _ ho.1
  refine vX10_costOf_0 (M_topIn labK4 h5 ht hg (IX_l (by have := labK4 (R := R) (Y := Y) (sh := sh) k; omega) ?_))
  rw [mine_at hV.ro hV.yo hs hM hk]
  refine M_ofCrate hV (by omega) (by decide) ?_
  rw [Nat.add_zero, nI_eq (by omega) (by decide)]
  unfold crE at h
  refine ⟨fun a => ?_, fun a => ?_⟩
  · rw [if_pos (by exact a)] at h; exact h
  · rw [if_neg (by exact a)] at h; exact h
theorem clrL (hb : ∀ k, lb k ≤ 4) (h5 : ∀ t, t < 3 → (cr_g s t).length ≤ 5) {f k : Nat} {l : List Nat} (hf : f < 3) (hg : cr_g s f = k :: l) : lN (wyE lb s) &&& (((lN 7) <<< ((nI 15 * nI f + nI 3 * (nI (l.length + 1) - nI 1)).toInt64 &&& 63)) ^^^ -(lN 1)) = lN (wyE lb (cr_p s f l)) := by
  have hl := h5 f hf
  rw [hg, List.length_cons] at hl
  have hk := hb k
  have h5' : ∀ t, t < 3 → (cr_g (cr_p s f l) t).length ≤ 5 := by
    intro t ht
    by_cases c : t = f
    · subst c; rw [cr_gs ht]; omega
    · rw [cr_go hf ht c]; exact h5 t ht
  have hW := wyE_lt hb h5'
  have hz := wyE_0 hb h5' hf (show l.length < 5 by omega) (by rw [cr_gs hf]; exact Nat.le_refl _)
  rw [pk_sub (by omega), show l.length + 1 - 1 = l.length by omega, pk_mul, pk_mul, nI_add, wb_shl _ (by omega), m1N, fb_xorL, fb_andL, wyE_pop hf hg]
  rw [← p28, show 3 * (5 * f + l.length) = 15 * f + 3 * l.length by omega] at hz
  rw [← p28, show 3 * (5 * f + l.length) = 15 * f + 3 * l.length by omega, dig_clr (by omega) hz (by omega) (by omega)]
theorem orL (hb : ∀ k, lb k ≤ 4) (h5 : ∀ t, t < 3 → (cr_g s t).length ≤ 5) {t : Nat} (k : Nat) (ht : t < 3) (hl : (cr_g s t).length < 5) : lN (wyE lb s) ||| ((nI (lb k) + nI 1).toInt64 <<< ((nI 15 * nI t + nI 3 * nI (cr_g s t).length).toInt64 &&& 63)) = lN (wyE lb (cr_p s t (k :: cr_g s t))) := by
  have hk := hb k
  have hz := wyE_0 hb h5 ht hl (Nat.le_refl _)
  have e : cr_p (cr_p s t (k :: cr_g s t)) t (cr_g s t) = s := by
    refine cr_ext (by simp only [cr_p1]) fun i hi => ?_
    by_cases c : i = t
    · subst c; rw [cr_gs hi]
    · rw [cr_go ht hi c, cr_go ht hi c]
  have e2 := wyE_pop (lb := lb) (s := cr_p s t (k :: cr_g s t)) ht (cr_gs ht)
  rw [e] at e2
  rw [← p28, show 3 * (5 * t + (cr_g s t).length) = 15 * t + 3 * (cr_g s t).length by omega] at hz e2
  rw [nI_add, nI_l (by omega), pk_mul, pk_mul, nI_add, wb_shl _ (by omega), fb_orL, dig_or (by omega) hz, e2]
theorem M_lifted {K : Int64 → Rr → Gi → Gl → Prop} (hV : Vw n p b R Y r g) (hs : sh < 3) (hM : MnI Y sh g) (hC : cr_V (ctC R Y sh) s) {f t : Nat} (hf : f < 3) (ht : t ≤ 3) (h1 : ∀ k s', cr_n (crF R Y sh) s f t = some (k, s') → K (lN (wyE (labK R Y sh) s')) r g j) (h0 : cr_n (crF R Y sh) s f t = none → K (-(lN 1)) r g j) : Cm (d + 2) 205 [.ref 263, .long (lN (wyE (labK R Y sh) s)), .int (nI f), .int (nI t)] r g j (rkJ K) := by
  have hc5 := ct5 (Y := Y) (sh := sh) hV.ro
  have h5 : ∀ t, t < 3 → (cr_g s t).length ≤ 5 := fun t ht => by have := V_len hC ht; omega
  have hlf := h5 f hf
  have r5 := hV.b5
  have hW := wyE_lt (lb := labK R Y sh) labK4 h5
  refine vX10_lifted_0 (M_heightIn labK4 h5 hf ⟨fun a => ?_, fun a => ⟨fun a2 => ?_, fun a2 => ?_⟩⟩)
  · rw [nI_z (by omega)] at a
    refine h0 ?_
    unfold cr_n
    rw [List.eq_nil_of_length_eq_zero a]
  · rw [nI_eq (by omega) (by omega)] at a2
    refine h0 ?_
    unfold cr_n
    split
    · rfl
    · rw [if_pos a2]
  · rw [nI_eq (by omega) (by omega)] at a2
    cases hg : cr_g s f with
    | nil => rw [hg] at a; exact absurd n00 a
    | cons k l =>
      have hk := V_mem hC hf (show k ∈ cr_g s f by rw [hg]; exact List.mem_cons_self)
      have ho := crK_on hV.ro hV.yo hs hk.2
      have rc := hV.ro.2.2.2.2.1 _ ho.1
      have yo8 := hV.yo.2.2.2.2.2.2.2.1 _ ho.1
      have hn := hV.nn
      have hlb := labK4 (R := R) (Y := Y) (sh := sh) k
      have hc14 : crK R Y sh k < 15 := by omega
      -- the walk behind the frail one's test
      have go : (t = 3 → crF R Y sh k ≠ 2) → (t ≠ 3 → crF R Y sh k = 0) → G (d + 2) 205 72 [(0, .ref 263), (1, .long (lN (wyE (labK R Y sh) s))), (3, .int (nI f)), (4, .int (nI t)), (5, .int (nI (l.length + 1))), (6, .int (nI (labK R Y sh k))), (7, .int (nI (crK R Y sh k)))] [] r g j (rkJ K) := by
        intro hq hn3
        refine vX10_lifted_72 ?_
        rw [clrL labK4 h5 hf hg]
        refine ⟨fun a3 => ?_, fun a3 => ?_⟩
        · rw [nI_eq (by omega) (by decide)] at a3
          subst a3
          have loop : ∀ q i, i + q = 3 → (∀ i' x, i' < i → x ∈ cr_g s i' → ¬ x < k) → G (d + 2) 205 128 [(0, .ref 263), (1, .long (lN (wyE (labK R Y sh) s))), (7, .int (nI (crK R Y sh k))), (8, .long (lN (wyE (labK R Y sh) (cr_p s f l)))), (10, .int (nI i))] [] r g j (rkJ K) := by
            intro q
            induction q with
            | zero =>
              intro i hi hno
              have : i = 3 := by omega
              subst this
              refine vX10_lifted_128 ⟨fun _ => ?_, fun a => absurd (Int32.le_refl _) a⟩
              have ek : k = s.1 := by
                apply Classical.byContradiction
                intro z
                obtain ⟨i', hi', hx⟩ := V_in hC (x := s.1) (Nat.le_refl _) (by omega)
                exact hno i' s.1 hi' hx (by omega)
              have hm : cr_n (crF R Y sh) s f 3 = some (k, cr_u (cr_p s f l)) := (cr_nq hf).mpr ⟨l, hg, ek, hq rfl, rfl⟩
              have := h1 k _ hm
              rw [wyE_u] at this
              exact this
            | succ q ih =>
              intro i hi hno
              have hi3 : i < 3 := by omega
              have hli := h5 i hi3
              refine vX10_lifted_128 ⟨fun a => absurd a (nI_ge hi3 (by decide)), fun _ => ?_⟩
              have inner : ∀ q2 l1 l2, l1.length = q2 → cr_g s i = l1 ++ l2 → (∀ x, x ∈ l2 → ¬ x < k) → G (d + 2) 205 137 [(0, .ref 263), (1, .long (lN (wyE (labK R Y sh) s))), (7, .int (nI (crK R Y sh k))), (8, .long (lN (wyE (labK R Y sh) (cr_p s f l)))), (10, .int (nI i)), (11, .int (nI l2.length))] [] r g j (rkJ K) := by
                intro q2
                induction q2 with
                | zero =>
                  intro l1 l2 hq2 hgi hno2
                  have : l1 = [] := List.eq_nil_of_length_eq_zero hq2
                  subst this
                  simp only [List.nil_append] at hgi
                  refine vX10_lifted_137 (M_heightIn labK4 h5 hi3 ⟨fun _ => ?_, fun a => absurd ?_ a⟩)
                  · rw [nI_add]
                    refine ih (i + 1) (by omega) (fun i' x z1 z2 => ?_)
                    by_cases c : i' = i
                    · subst c; rw [hgi] at z2; exact hno2 x z2
                    · exact hno i' x (by omega) z2
                  · rw [hgi]; exact Int32.le_refl _
                | succ q2 ih2 =>
                  intro l1 l2 hq2 hgi hno2
                  rcases List.eq_nil_or_concat l1 with z0 | ⟨l1', x, hl⟩
                  · rw [z0] at hq2; simp at hq2
                  · subst hl
                    rw [List.concat_eq_append] at hgi hq2
                    simp only [List.length_append, List.length_cons, List.length_nil] at hq2
                    have hg2 : cr_g s i = l1' ++ x :: l2 := by rw [hgi]; simp
                    have hll : (cr_g s i).length = l1'.length + (l2.length + 1) := by rw [hg2]; simp
                    have hx := V_mem hC hi3 (show x ∈ cr_g s i by rw [hg2]; simp)
                    have hox := crK_on hV.ro hV.yo hs hx.2
                    have rx := hV.ro.2.2.2.2.1 _ hox.1
                    have hlx := labK4 (R := R) (Y := Y) (sh := sh) x
                    have e3 := wyE_top (lb := labK R Y sh) labK4 h5 hi3 hg2
                    refine vX10_lifted_137 (M_heightIn labK4 h5 hi3 ⟨fun a => absurd a (nI_ge (by omega) (by omega)), fun _ => IX_e (q := labK R Y sh x) (by rw [dgL hW hi3 (by omega), e3, lN_i, pk_sub (by omega)]; rfl) (by omega) ?_⟩)
                    rw [mine_at hV.ro hV.yo hs hM hx.2]
                    refine M_ofCrate hV (by omega) (by decide) (M_ofCrate hV (by omega) (by decide) ?_)
                    rw [show 21 + 5 * crK R Y sh x + 2 = 23 + 5 * crK R Y sh x by omega, show 21 + 5 * crK R Y sh k + 2 = 23 + 5 * crK R Y sh k by omega]
                    have hlt := rk_lt hV.ro hox.1 hox.2.1 ho.1 ho.2.1
                    rw [hox.2.2, ho.2.2] at hlt
                    refine ⟨fun a => ?_, fun a => ?_⟩
                    · have a := le_n (by omega) (by omega) a
                      rw [nI_add]
                      refine ih2 l1' (x :: l2) (by omega) hg2 (fun y hy => ?_)
                      rcases List.mem_cons.mp hy with rfl | hy
                      · exact fun z => by have := hlt.mp z; omega
                      · exact hno2 y hy
                    · have a : R (23 + 5 * crK R Y sh x) < R (23 + 5 * crK R Y sh k) := by
                        rw [← Nat.not_le]; exact fun z => a (nI_le z (by omega))
                      have hxk := hlt.mpr a
                      refine h0 ?_
                      unfold cr_n
                      rw [hg]
                      simp only [if_neg (show ¬ f = 3 by omega), if_true]
                      rw [if_neg (by omega)]
              exact inner (cr_g s i).length (cr_g s i) [] rfl (by simp) (fun x hx => by cases hx)
          exact loop 3 0 (by decide) (fun i' x z => by omega)
        · rw [nI_eq (by omega) (by decide)] at a3
          have ht3 : t < 3 := by omega
          have h2 := V_two hC hf ht3 a2
          rw [hg, List.length_cons] at h2
          have hm : cr_n (crF R Y sh) s f t = some (k, cr_p (cr_p s f l) t (k :: cr_g s t)) := (cr_nt ht3).mpr ⟨l, hg, a2, hn3 a3, rfl⟩
          have := h1 k _ hm
          have h5' : ∀ t, t < 3 → (cr_g (cr_p s f l) t).length ≤ 5 := by
            intro t ht
            by_cases c : t = f
            · subst c; rw [cr_gs ht]; rw [hg, List.length_cons] at hlf; omega
            · rw [cr_go hf ht c]; exact h5 t ht
          have eo := orL (lb := labK R Y sh) labK4 h5' k ht3 (by rw [cr_go hf ht3 (Ne.symm a2)]; omega)
          rw [cr_go hf ht3 (Ne.symm a2)] at eo
          refine M_heightIn labK4 h5 ht3 ?_
          rw [eo]
          exact this
      rw [hg] at a
      refine M_topIn labK4 h5 hf hg (IX_l (by omega) ?_)
      rw [mine_at hV.ro hV.yo hs hM hk.2]
      refine M_ofCrate hV hc14 (by decide) ?_
      rw [Nat.add_zero, nI_eq (by omega) (by decide)]
      refine ⟨fun a3 => ?_, fun a3 => go (fun _ => ?_) (fun _ => ?_)⟩
      · have ef : crF R Y sh k = if Y (15 + crK R Y sh k) = 0 then 1 else 2 := by unfold crF; rw [if_pos a3]
        refine ⟨fun a4 => IX_e (q := 15 + crK R Y sh k) (nI_add 15 _) (by omega) ?_, fun a4 => h0 ?_⟩
        · rw [nI_eq (by omega) (by decide)] at a4
          rw [hV.ms (by omega), ← nI_0]
          refine ⟨fun a5 => go (fun _ => ?_) (fun z => absurd a4 z), fun a5 => h0 ?_⟩
          · have := le_n (by omega) (by decide) a5
            rw [ef, if_pos (by omega)]; decide
          · have : ¬ Y (15 + crK R Y sh k) = 0 := fun z => a5 (by rw [z]; exact Int32.le_refl _)
            rw [if_neg this] at ef
            unfold cr_n
            rw [hg]
            simp only [if_neg a2, if_pos a4]
            rw [if_neg (fun z => z.2 ef)]
        · rw [nI_eq (by omega) (by decide)] at a4
          have : crF R Y sh k ≠ 0 := by rw [ef]; split <;> omega
          unfold cr_n
          rw [hg]
          simp only [if_neg a2, if_neg a4]
          rw [if_neg this]
      · have ef : crF R Y sh k = 0 := by unfold crF; rw [if_neg a3]
        rw [ef]; decide
      · unfold crF; rw [if_neg a3]
end
