/-! CRANES: fewest, liftAt on both sides -/
section
variable {n p b d sh : Nat} {R Y : Nat → Nat} {r : Rr} {g g0 g' : Gi} {j : Gl} {s s' : St} {tb : Nat → Option St} {fl : List Nat} {fa : Nat → Nat}
theorem cr_30 (hR : RO b R) (hY : YO n R Y) (hs : sh < 3) {N : Nat} (hD : cr_D (crF R Y sh) (crE R Y sh) (cr0 R Y sh) N) : N ≤ 30 := by
  have hV0 := V0 hR hY hs
  have hc5 := ct5 (Y := Y) (sh := sh) hR
  obtain ⟨l, hl⟩ := hD.1
  have hx : ¬ cr_x (crF R Y sh) (cr0 R Y sh) := fun z => X_no l N _ hV0 z hl
  obtain ⟨l2, c2, hq3, hc2⟩ := X_can (e := crE R Y sh) (fun k => (crE_b k).2) (ctC R Y sh) (cr0 R Y sh) hV0 hx (by show 0 + _ = _; omega)
  have := hD.2 l2 c2 hq3
  have h2 : ctC R Y sh * (ctC R Y sh + 1) ≤ 5 * (5 + 1) := Nat.mul_le_mul hc5 (by omega)
  omega
theorem M_firstLift {K : Int32 → Rr → Gi → Gl → Prop} (hV : Vw n p b R Y r g) (hs : sh < 3) (S : SOL R Y sh tb fl fa g j) {k m f t : Nat} (hk : k < 8192) (es : tb k = some s) (hD : cr_D (crF R Y sh) (crE R Y sh) s m) (hm : m ≤ 30) (hF : cr_F (crF R Y sh) (crE R Y sh) s m f t) (h : K (nI (10 * f + t)) r g j) : Cm (d + 3) 210 [.ref 263, .long (lN (wyE (labK R Y sh) s))] r g j (rkI K) := by
  have hc5 := ct5 (Y := Y) (sh := sh) hV.ro
  have hji : ∀ k k', k < ctC R Y sh → k' < ctC R Y sh → labK R Y sh k = labK R Y sh k' → k = k' := fun k k' h1 h2 h3 => lab_inj hV.ro hV.yo hs h1 h2 h3
  have H := S.1
  obtain ⟨e271, hC⟩ := H.2.1 k s hk es
  obtain ⟨e272, hfa⟩ := H.2.2.2.2.2 k hk (by rw [es]; exact fun z => by cases z)
  have efa := S.eq hk es (by omega) hD
  obtain ⟨hf3, ht3, ho, hno⟩ := hF
  -- a lift of the fewest, by the table
  have key : ∀ f' t' k' s' q', f' < 3 → t' ≤ 3 → cr_n (crF R Y sh) s f' t' = some (k', s') → q' < 8192 → tb q' = some s' → (fa q' + crE R Y sh k' = fa k ↔ cr_o (crF R Y sh) (crE R Y sh) s m f' t') := by
    intro f' t' k' s' q' z1 z2 z3 z4 z5
    constructor
    · intro z
      exact ⟨k', s', fa q', z3, S.D z4 z5 (by omega), by omega⟩
    · rintro ⟨k2, s2, n2, y1, y2, y3⟩
      rw [z3] at y1
      simp only [Option.some.injEq, Prod.mk.injEq] at y1
      obtain ⟨rfl, rfl⟩ := y1
      have := S.eq z4 z5 (by omega) y2
      omega
  have loop : ∀ q f', f' + q = f → G (d + 3) 210 2 [(0, .ref 263), (1, .long (lN (wyE (labK R Y sh) s))), (3, .int (nI f'))] [] r g j (rkI K) := by
    intro q
    induction q with
    | zero =>
      intro f' hf'
      have : f' = f := by omega
      subst this
      refine vX10_firstLift_2 ⟨fun a => absurd a (nI_ge hf3 (by decide)), fun _ => ?_⟩
      have inner : ∀ q2 t', t' + q2 = t → G (d + 3) 210 10 [(0, .ref 263), (1, .long (lN (wyE (labK R Y sh) s))), (3, .int (nI f')), (4, .int (nI t'))] [] r g j (rkI K) := by
        intro q2
        induction q2 with
        | zero =>
          intro t' ht'
          have : t' = t := by omega
          subst this
          obtain ⟨k0, s0, n0, y1, y2, y3⟩ := ho
          refine vX10_firstLift_10 ⟨fun a => absurd a (nI_nlt ht3 (by decide)), fun _ => M_lifted hV hs S.2.1 hC hf3 ht3 (fun k' s' hm' => ⟨fun a => ?_, fun _ => ?_⟩) (fun hm' => by rw [hm'] at y1; cases y1)⟩
          · exfalso
            have l5' : ∀ t, t < 3 → (cr_g s' t).length ≤ 5 := fun t ht => by have := V_len (V_step hC hf3 ht3 hm') ht; omega
            have hW' := wyE_lt (lb := labK R Y sh) labK4 l5'
            rw [lgz] at a
            have h1 : -(lN 1) < lN 0 := by decide +kernel
            rw [← a, pk_lLT (by omega) (by decide)] at h1
            omega
          · obtain ⟨q', hq', eq'⟩ := (S.2.2.1 k s hk es).1 f' t' k' s' hf3 ht3 hm'
            obtain ⟨e272', hfa'⟩ := H.2.2.2.2.2 q' hq' (by rw [eq']; exact fun z => by cases z)
            obtain ⟨l, hg⟩ : ∃ l, cr_g s f' = k' :: l := by
              rcases Nat.lt_or_ge t' 3 with z | z
              · obtain ⟨l, hg, _⟩ := (cr_nt z).mp hm'; exact ⟨l, hg⟩
              · obtain rfl : t' = 3 := by omega
                obtain ⟨l, hg, _⟩ := (cr_nq hf3).mp hm'; exact ⟨l, hg⟩
            refine M_placeIn labK4 hji hc5 H hq' eq' (IX_l hq' (M_costOf hV hs S.2.1 hC hf3 hg (M_placeIn labK4 hji hc5 H hk es (IX_l hk ?_))))
            rw [e272', e272, nI_add]
            refine ⟨fun _ => ?_, fun a => absurd ?_ a⟩
            · rw [pk_mul, nI_add]; exact h
            · rw [(key f' t' k' s' q' hf3 ht3 hm' hq' eq').mpr ⟨k0, s0, n0, y1, y2, y3⟩]
        | succ q2 ih2 =>
          intro t' ht'
          have ht4 : t' ≤ 3 := by omega
          have nx : G (d + 3) 210 74 [(0, .ref 263), (1, .long (lN (wyE (labK R Y sh) s))), (3, .int (nI f')), (4, .int (nI t'))] [] r g j (rkI K) := by
            refine vX10_firstLift_74 ?_
            rw [nI_add]; exact ih2 (t' + 1) (by omega)
          refine vX10_firstLift_10 ⟨fun a => absurd a (nI_nlt ht4 (by decide)), fun _ => M_lifted hV hs S.2.1 hC hf3 ht4 (fun k' s' hm' => ⟨fun _ => nx, fun _ => ?_⟩) (fun hm' => ⟨fun _ => nx, fun a => absurd (lgz.mpr rfl) a⟩)⟩
          obtain ⟨q', hq', eq'⟩ := (S.2.2.1 k s hk es).1 f' t' k' s' hf3 ht4 hm'
          obtain ⟨e272', hfa'⟩ := H.2.2.2.2.2 q' hq' (by rw [eq']; exact fun z => by cases z)
          have hek := crE_b (R := R) (Y := Y) (sh := sh) k'
          obtain ⟨l, hg⟩ : ∃ l, cr_g s f' = k' :: l := by
            rcases Nat.lt_or_ge t' 3 with z | z
            · obtain ⟨l, hg, _⟩ := (cr_nt z).mp hm'; exact ⟨l, hg⟩
            · obtain rfl : t' = 3 := by omega
              obtain ⟨l, hg, _⟩ := (cr_nq hf3).mp hm'; exact ⟨l, hg⟩
          refine M_placeIn labK4 hji hc5 H hq' eq' (IX_l hq' (M_costOf hV hs S.2.1 hC hf3 hg (M_placeIn labK4 hji hc5 H hk es (IX_l hk ?_))))
          rw [e272', e272, nI_add]
          refine ⟨fun a => ?_, fun _ => nx⟩
          rw [nI_eq (by omega) (by omega)] at a
          exact absurd ((key f' t' k' s' q' hf3 ht4 hm' hq' eq').mp a) (hno f' t' hf3 ht4 (Or.inr ⟨rfl, by omega⟩))
      exact inner t 0 (by omega)
    | succ q ih =>
      intro f' hf'
      have hf4 : f' < 3 := by omega
      refine vX10_firstLift_2 ⟨fun a => absurd a (nI_ge hf4 (by decide)), fun _ => ?_⟩
      have inner : ∀ q2 t', t' + q2 = 4 → G (d + 3) 210 10 [(0, .ref 263), (1, .long (lN (wyE (labK R Y sh) s))), (3, .int (nI f')), (4, .int (nI t'))] [] r g j (rkI K) := by
        intro q2
        induction q2 with
        | zero =>
          intro t' ht'
          have : t' = 4 := by omega
          subst this
          refine vX10_firstLift_10 ⟨fun _ => ?_, fun a => absurd (nI_lt (by decide) (by decide)) a⟩
          rw [nI_add]; exact ih (f' + 1) (by omega)
        | succ q2 ih2 =>
          intro t' ht'
          have ht4 : t' ≤ 3 := by omega
          have nx : G (d + 3) 210 74 [(0, .ref 263), (1, .long (lN (wyE (labK R Y sh) s))), (3, .int (nI f')), (4, .int (nI t'))] [] r g j (rkI K) := by
            refine vX10_firstLift_74 ?_
            rw [nI_add]; exact ih2 (t' + 1) (by omega)
          refine vX10_firstLift_10 ⟨fun a => absurd a (nI_nlt ht4 (by decide)), fun _ => M_lifted hV hs S.2.1 hC hf4 ht4 (fun k' s' hm' => ⟨fun _ => nx, fun _ => ?_⟩) (fun hm' => ⟨fun _ => nx, fun a => absurd (lgz.mpr rfl) a⟩)⟩
          obtain ⟨q', hq', eq'⟩ := (S.2.2.1 k s hk es).1 f' t' k' s' hf4 ht4 hm'
          obtain ⟨e272', hfa'⟩ := H.2.2.2.2.2 q' hq' (by rw [eq']; exact fun z => by cases z)
          have hek := crE_b (R := R) (Y := Y) (sh := sh) k'
          obtain ⟨l, hg⟩ : ∃ l, cr_g s f' = k' :: l := by
            rcases Nat.lt_or_ge t' 3 with z | z
            · obtain ⟨l, hg, _⟩ := (cr_nt z).mp hm'; exact ⟨l, hg⟩
            · obtain rfl : t' = 3 := by omega
              obtain ⟨l, hg, _⟩ := (cr_nq hf4).mp hm'; exact ⟨l, hg⟩
          refine M_placeIn labK4 hji hc5 H hq' eq' (IX_l hq' (M_costOf hV hs S.2.1 hC hf4 hg (M_placeIn labK4 hji hc5 H hk es (IX_l hk ?_))))
          rw [e272', e272, nI_add]
          refine ⟨fun a => ?_, fun _ => nx⟩
          rw [nI_eq (by omega) (by omega)] at a
          exact absurd ((key f' t' k' s' q' hf4 ht4 hm' hq' eq').mp a) (hno f' t' hf4 ht4 (Or.inl (by omega)))
      exact inner 4 0 (by decide)
  exact vX10_firstLift_0 (loop f 0 (by omega))
theorem M_liftLoop {K : Int32 → Rr → Gi → Gl → Prop} {x2 : Int32} (hV : Vw n p b R Y r g) (hs : sh < 3) (S : SOL R Y sh tb fl fa g j) : ∀ (ps : List Nat) (s : St) (k m i : Nat), k < 8192 → tb k = some s → cr_D (crF R Y sh) (crE R Y sh) s m → m ≤ 30 → i + ps.length < 1000 → cr_L (crF R Y sh) (crE R Y sh) ps s → (∀ i', i' < i → x2 ≠ nI i') → (∀ i' c, ps[i']? = some c → x2 = nI (i + i') → K (nI c) r g j) → (out x2 (i + ps.length) → G (d + 4) 211 91 [(0, .ref 263)] [] r g j (rkI K)) → G (d + 4) 211 41 [(0, .ref 263), (2, .int x2), (3, .long (lN (wyE (labK R Y sh) s))), (5, .int (nI i))] [] r g j (rkI K) := by
  intro ps
  induction ps with
  | nil =>
    intro s k m i hk es hD hm hi hL hx h1 h2
    have hC := (S.1.2.1 k s hk es).2
    have l5 : ∀ t, t < 3 → (cr_g s t).length ≤ 5 := fun t ht => by have := V_len hC ht; have := ct5 (Y := Y) (sh := sh) hV.ro; omega
    have hz : wyE (labK R Y sh) s = 0 := wyE_z.mpr hL
    rw [hz]
    exact vX10_liftAt_41 ⟨fun _ => h2 (fun i' z => hx i' (by simpa using z)), fun a => absurd (lgz.mpr rfl) a⟩
  | cons c ps ih =>
    intro s k m i hk es hD hm hi hL hx h1 h2
    have hC := (S.1.2.1 k s hk es).2
    have l5 : ∀ t, t < 3 → (cr_g s t).length ≤ 5 := fun t ht => by have := V_len hC ht; have := ct5 (Y := Y) (sh := sh) hV.ro; omega
    have hW := wyE_lt (lb := labK R Y sh) labK4 l5
    rw [List.length_cons] at hi h2
    obtain ⟨m', f, t, k', s', y1, y2, y3, y4, y5, y6⟩ := hL
    have := D_u hD y2
    subst this
    obtain ⟨k2, s2, n2, w1, w2, w3⟩ := y3.2.2.1
    rw [y5] at w1
    simp only [Option.some.injEq, Prod.mk.injEq] at w1
    obtain ⟨rfl, rfl⟩ := w1
    have hf3 := y3.1
    have ht3 := y3.2.1
    refine vX10_liftAt_41 ⟨fun a => ?_, fun _ => ⟨fun a => ?_, fun a => ?_⟩⟩
    · rw [lgz, pk_lEQ (by omega) (by decide)] at a
      exact absurd (wyE_z.mp a) y1
    · refine h2 (fun i' z1 z2 => ?_)
      rw [z2] at a
      have := lt_n (by omega) (by omega) a
      exact hx i' this z2
    · refine M_firstLift hV hs S hk es hD hm y3 ⟨fun a2 => ?_, fun a2 => ⟨by decide +kernel, by decide +kernel, ?_⟩⟩
      · rw [← y4]
        exact h1 0 c rfl (by rw [Nat.add_zero]; exact a2.symm)
      · rw [pk_rem (show 10 * f + t < 2 ^ 31 by omega) (by decide) (by decide), pk_div (by omega) (by decide) (by decide), show (10 * f + t) / 10 = f by omega, show (10 * f + t) % 10 = t by omega]
        refine M_lifted hV hs S.2.1 hC hf3 ht3 (fun k3 s3 hm3 => ?_) (fun hm3 => by rw [hm3] at y5; cases y5)
        rw [y5] at hm3
        simp only [Option.some.injEq, Prod.mk.injEq] at hm3
        obtain ⟨rfl, rfl⟩ := hm3
        obtain ⟨q', hq', eq'⟩ := (S.2.2.1 k s hk es).1 f t k' s' hf3 ht3 y5
        rw [nI_add]
        refine ih s' q' n2 (i + 1) hq' eq' w2 (by have := (crE_b (R := R) (Y := Y) (sh := sh) k').1; omega) (by omega) y6 (fun i' z => ?_) (fun i' c' z1 z2 => h1 (i' + 1) c' (by rw [List.getElem?_cons_succ]; exact z1) (by rw [z2]; congr 1; omega)) (fun o => h2 (fun i' z => o i' (by omega)))
        by_cases c2 : i' = i
        · subst c2; exact fun z2 => a2 z2.symm
        · exact hx i' (by omega)
end
