/-! CRANES, the reference: nearer; what is known when nothing comes nearer -/
def LF (g g' : Gi) : Prop := ∀ a q, ¬ (a = 272 ∨ a = 273 ∨ a = 274 ∨ (a = 263 ∧ (q = 26 ∨ q = 27))) → g' a q = g a q
theorem LF.rf {g : Gi} : LF g g := fun _ _ _ => rfl
theorem LF.tr {g g' g'' : Gi} (h : LF g g') (h' : LF g' g'') : LF g g'' := fun a q z => (h' a q z).trans (h a q z)
theorem LF.ag {g g' : Gi} (h : LF g g') : Ag g g' := fun a k e => h a k (fun z => by
  rcases z with rfl | rfl | rfl | ⟨rfl, rfl | rfl⟩ <;> cases e)
/-- all lifts from what is found are found -/
def clS (R Y : Nat → Nat) (sh : Nat) (tb : Nat → Option St) (s : St) : Prop := ∀ f t k s', f < 3 → t ≤ 3 → cr_n (crF R Y sh) s f t = some (k, s') → ∃ q, q < 8192 ∧ tb q = some s'
def RXs (R Y : Nat → Nat) (sh : Nat) (tb : Nat → Option St) (fa : Nat → Nat) : Prop := ∀ k s, k < 8192 → tb k = some s → (fa k < 1000000 → ∃ l, cr_q (crF R Y sh) (crE R Y sh) l (fa k) s) ∧ (cr_e s → fa k = 0)
/-- from here nothing is nearer -/
def loS (R Y : Nat → Nat) (sh : Nat) (tb : Nat → Option St) (fa : Nat → Nat) (s : St) (v : Nat) : Prop := ∀ f t k s' q, f < 3 → t ≤ 3 → cr_n (crF R Y sh) s f t = some (k, s') → q < 8192 → tb q = some s' → v ≤ fa q + crE R Y sh k
section
variable {n p b d sh : Nat} {R Y : Nat → Nat} {r : Rr} {g g0 g' : Gi} {j : Gl} {s s' : St} {tb : Nat → Option St} {fl : List Nat} {fa : Nat → Nat}
theorem HT.set (H : HT (labK R Y sh) (ctC R Y sh) tb fl fa g j) {k v : Nat} (hk : k < 8192) (hv : v ≤ 1000000) : HT (labK R Y sh) (ctC R Y sh) tb fl (upN fa k v) (uI g 272 k (nI v)) j := by
  obtain ⟨h1, h2, h3, h4, ⟨f1, f2, f3, f4⟩, h6⟩ := H
  refine ⟨h1, h2, h3, h4, ⟨by rw [uI_o (by decide)]; exact f1, fun i k hi => by rw [uI_o (by decide)]; exact f2 i k hi, f3, f4⟩, fun k' hk' hn => ?_⟩
  by_cases c : k' = k
  · subst c; rw [uI_s, upN_s]; exact ⟨rfl, hv⟩
  · rw [uI_n c, upN_o c]; exact h6 k' hk' hn
theorem M_nearer {K : Int32 → Rr → Gi → Gl → Prop} (hV : Vw n p b R Y r g) (hs : sh < 3) (hM : MnI Y sh g) (H : HT (labK R Y sh) (ctC R Y sh) tb fl fa g j) (hX : RXs R Y sh tb fa) {k : Nat} (hk : k < 8192) (es : tb k = some s) (hc : clS R Y sh tb s)
    (p0 : loS R Y sh tb fa s (fa k) → K (nI 0) r g j) (p1 : ∀ v, v < fa k → RXs R Y sh tb (upN fa k v) → HT (labK R Y sh) (ctC R Y sh) tb fl (upN fa k v) (uI g 272 k (nI v)) j → K (nI 1) r (uI g 272 k (nI v)) j) : Cm (d + 3) 208 [.ref 263, .int (nI k)] r g j (rkI K) := by
  have hc5 := ct5 (Y := Y) (sh := sh) hV.ro
  have hji : ∀ k k', k < ctC R Y sh → k' < ctC R Y sh → labK R Y sh k = labK R Y sh k' → k = k' := fun k k' h1 h2 h3 => lab_inj hV.ro hV.yo hs h1 h2 h3
  obtain ⟨e271, hC⟩ := H.2.1 k s hk es
  obtain ⟨e272, hfa⟩ := H.2.2.2.2.2 k hk (by rw [es]; exact fun z => by cases z)
  have loop : ∀ q f v, f + q = 3 → v ≤ fa k → (v = fa k ∨ (v < 1000000 ∧ ∃ l, cr_q (crF R Y sh) (crE R Y sh) l v s)) → (∀ f' t' k' s' q', f' < f → f' < 3 → t' ≤ 3 → cr_n (crF R Y sh) s f' t' = some (k', s') → q' < 8192 → tb q' = some s' → v ≤ fa q' + crE R Y sh k') → G (d + 3) 208 9 [(0, .ref 263), (1, .int (nI k)), (2, .int (nI v)), (3, .int (nI f))] [] r g j (rkI K) := by
    intro q
    induction q with
    | zero =>
      intro f v hf hv hv2 hlo
      have : f = 3 := by omega
      subst this
      refine vX10_nearer_9 ⟨fun _ => IX_l hk ?_, fun a => absurd (Int32.le_refl _) a⟩
      rw [e272, nI_eq (by omega) (by omega)]
      refine ⟨fun a => ⟨bo0, p0 (fun f t k' s' q' z1 z2 z3 z4 z5 => ?_)⟩, fun a => IX_l hk ⟨bo1, p1 v (by omega) ?_ (H.set hk (by omega))⟩⟩
      · have := hlo f t k' s' q' z1 z1 z2 z3 z4 z5
        omega
      · intro k' s' hk' es'
        by_cases c : k' = k
        · subst c
          rw [es] at es'
          simp only [Option.some.injEq] at es'
          subst es'
          rw [upN_s]
          rcases hv2 with hv2 | ⟨_, hv2⟩
          · exact absurd hv2 a
          · refine ⟨fun _ => hv2, fun z => ?_⟩
            have := (hX k' s hk es).2 z
            omega
        · rw [upN_o c]; exact hX k' s' hk' es'
    | succ q ih =>
      intro f v hf hv hv2 hlo
      have hf3 : f < 3 := by omega
      refine vX10_nearer_9 ⟨fun a => absurd a (nI_ge hf3 (by decide)), fun _ => ?_⟩
      have inner : ∀ q2 t v, t + q2 = 4 → v ≤ fa k → (v = fa k ∨ (v < 1000000 ∧ ∃ l, cr_q (crF R Y sh) (crE R Y sh) l v s)) → (∀ f' t' k' s' q', (f' < f ∨ (f' = f ∧ t' < t)) → f' < 3 → t' ≤ 3 → cr_n (crF R Y sh) s f' t' = some (k', s') → q' < 8192 → tb q' = some s' → v ≤ fa q' + crE R Y sh k') → G (d + 3) 208 17 [(0, .ref 263), (1, .int (nI k)), (2, .int (nI v)), (3, .int (nI f)), (4, .int (nI t))] [] r g j (rkI K) := by
        intro q2
        induction q2 with
        | zero =>
          intro t v ht hv hv2 hlo
          have : t = 4 := by omega
          subst this
          refine vX10_nearer_17 ⟨fun _ => ?_, fun a => absurd (nI_lt (by decide) (by decide)) a⟩
          rw [nI_add]
          exact ih (f + 1) v (by omega) hv hv2 (fun f' t' k' s' q' z1 z2 z3 z4 z5 z6 => hlo f' t' k' s' q' (by omega) z2 z3 z4 z5 z6)
        | succ q2 ih2 =>
          intro t v ht hv hv2 hlo
          have ht3 : t ≤ 3 := by omega
          have next : ∀ v', v' ≤ v → (v' = fa k ∨ (v' < 1000000 ∧ ∃ l, cr_q (crF R Y sh) (crE R Y sh) l v' s)) → (∀ k' s' q', cr_n (crF R Y sh) s f t = some (k', s') → q' < 8192 → tb q' = some s' → v' ≤ fa q' + crE R Y sh k') → G (d + 3) 208 88 [(0, .ref 263), (1, .int (nI k)), (2, .int (nI v')), (3, .int (nI f)), (4, .int (nI t))] [] r g j (rkI K) := by
            intro v' hv' hv3 h0
            refine vX10_nearer_88 ?_
            rw [nI_add]
            refine ih2 (t + 1) v' (by omega) (by omega) hv3 (fun f' t' k' s' q' z1 z2 z3 z4 z5 z6 => ?_)
            by_cases c : f' = f ∧ t' = t
            · obtain ⟨rfl, rfl⟩ := c
              exact h0 k' s' q' z4 z5 z6
            · have := hlo f' t' k' s' q' (by omega) z2 z3 z4 z5 z6
              omega
          refine vX10_nearer_17 ⟨fun a => absurd a (nI_nlt ht3 (by decide)), fun _ => IX_l hk ?_⟩
          rw [e271]
          refine M_lifted hV hs hM hC hf3 ht3 (fun k' s' hm => ⟨fun a => ?_, fun _ => ?_⟩) (fun hm => ⟨fun _ => next v (Nat.le_refl _) hv2 (fun k' s' q' z => by rw [hm] at z; cases z), fun a => absurd (lgz.mpr rfl) a⟩)
          · exfalso
            have l5' : ∀ t, t < 3 → (cr_g s' t).length ≤ 5 := fun t ht => by have := V_len (V_step hC hf3 ht3 hm) ht; omega
            have hW' := wyE_lt (lb := labK R Y sh) labK4 l5'
            rw [lgz] at a
            have h1 : -(lN 1) < lN 0 := by decide +kernel
            rw [← a, pk_lLT (by omega) (by decide)] at h1
            omega
          · obtain ⟨q', hq', eq'⟩ := hc f t k' s' hf3 ht3 hm
            obtain ⟨e272', hfa'⟩ := H.2.2.2.2.2 q' hq' (by rw [eq']; exact fun z => by cases z)
            have hek := crE_b (R := R) (Y := Y) (sh := sh) k'
            obtain ⟨l, hg⟩ : ∃ l, cr_g s f = k' :: l := by
              rcases Nat.lt_or_ge t 3 with z | z
              · obtain ⟨l, hg, _⟩ := (cr_nt z).mp hm; exact ⟨l, hg⟩
              · obtain rfl : t = 3 := by omega
                obtain ⟨l, hg, _⟩ := (cr_nq hf3).mp hm; exact ⟨l, hg⟩
            refine M_placeIn labK4 hji hc5 H hq' eq' (IX_l hq' (IX_l hk ?_))
            rw [e271]
            refine M_costOf hV hs hM hC hf3 hg ?_
            rw [e272', nI_add]
            have uniq : ∀ k2 s2 q2, cr_n (crF R Y sh) s f t = some (k2, s2) → q2 < 8192 → tb q2 = some s2 → k2 = k' ∧ q2 = q' := by
              intro k2 s2 q2 z1 z2 z3
              rw [hm] at z1
              simp only [Option.some.injEq, Prod.mk.injEq] at z1
              obtain ⟨rfl, rfl⟩ := z1
              exact ⟨rfl, H.2.2.1 q2 q' s' z2 hq' z3 eq'⟩
            refine ⟨fun a => vX10_nearer_87 (next v (Nat.le_refl _) hv2 (fun k2 s2 q2 z1 z2 z3 => ?_)), fun a => vX10_nearer_87 (next (fa q' + crE R Y sh k') ?_ ?_ (fun k2 s2 q2 z1 z2 z3 => ?_))⟩
            · obtain ⟨rfl, rfl⟩ := uniq k2 s2 q2 z1 z2 z3
              exact le_n (by omega) (by omega) a
            · have : ¬ v ≤ fa q' + crE R Y sh k' := fun z => a (nI_le z (by omega))
              omega
            · have : ¬ v ≤ fa q' + crE R Y sh k' := fun z => a (nI_le z (by omega))
              right
              refine ⟨by omega, ?_⟩
              obtain ⟨l2, hl2⟩ := (hX q' s' hq' eq').1 (by omega)
              exact ⟨l2 + 1, f, t, k', s', hf3, ht3, hm, by omega, by rw [show fa q' + crE R Y sh k' - crE R Y sh k' = fa q' by omega]; exact hl2⟩
            · obtain ⟨rfl, rfl⟩ := uniq k2 s2 q2 z1 z2 z3
              exact Nat.le_refl _
      exact inner 4 0 v (by decide) hv hv2 (fun f' t' k' s' q' z1 z2 z3 z4 z5 z6 => hlo f' t' k' s' q' (by omega) z2 z3 z4 z5 z6)
  refine vX10_nearer_0 (IX_l hk ?_)
  rw [e272]
  exact loop 3 0 (fa k) (by decide) (Nat.le_refl _) (Or.inl rfl) (fun f' t' k' s' q' z => by omega)
/-- all is found, and as near as can be -/
def SOL (R Y : Nat → Nat) (sh : Nat) (tb : Nat → Option St) (fl : List Nat) (fa : Nat → Nat) (g : Gi) (j : Gl) : Prop :=
  HT (labK R Y sh) (ctC R Y sh) tb fl fa g j ∧ MnI Y sh g ∧ (∀ k s, k < 8192 → tb k = some s → clS R Y sh tb s ∧ loS R Y sh tb fa s (fa k)) ∧ RXs R Y sh tb fa ∧ j 263 28 = lN (wyE (labK R Y sh) (cr0 R Y sh)) ∧ ∃ q, q < 8192 ∧ tb q = some (cr0 R Y sh)
theorem SOL.le (S : SOL R Y sh tb fl fa g j) : ∀ l c s k, k < 8192 → tb k = some s → cr_q (crF R Y sh) (crE R Y sh) l c s → fa k ≤ c := by
  obtain ⟨H, _, h1, h2, _⟩ := S
  intro l
  induction l with
  | zero =>
    intro c s k hk es h
    rw [(h2 k s hk es).2 h.2]; exact Nat.zero_le _
  | succ l ih =>
    intro c s k hk es h
    obtain ⟨f, t, k', s', hf, ht, hm, hk', hq⟩ := h
    obtain ⟨q, hq1, hq2⟩ := (h1 k s hk es).1 f t k' s' hf ht hm
    have a := ih _ s' q hq1 hq2 hq
    have b := (h1 k s hk es).2 f t k' s' q hf ht hm hq1 hq2
    omega
theorem SOL.D (S : SOL R Y sh tb fl fa g j) {k : Nat} (hk : k < 8192) (es : tb k = some s) (h : fa k < 1000000) : cr_D (crF R Y sh) (crE R Y sh) s (fa k) := ⟨(S.2.2.2.1 k s hk es).1 h, fun l c hc => S.le l c s k hk es hc⟩
theorem SOL.eq (S : SOL R Y sh tb fl fa g j) {k m : Nat} (hk : k < 8192) (es : tb k = some s) (h : m < 1000000) (hD : cr_D (crF R Y sh) (crE R Y sh) s m) : fa k = m := by
  obtain ⟨l, hl⟩ := hD.1
  have a := S.le l m s k hk es hl
  exact D_u (S.D hk es (by omega)) hD
end
