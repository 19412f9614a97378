/-! CRANES, the class: seek and seekFrom -/
/-- what a search may change -/
def SkF (dp : Nat) (g g' : Gi) : Prop := ∀ a q, ¬ (a = 75 ∨ a = 76 ∨ (a = 73 ∧ q = 1) ∨ (a = 74 ∧ dp ≤ q)) → g' a q = g a q
/-- a way was found: the fewest, the first by these -/
def SkY (fr e : Nat → Nat) (B : Nat) (s : St) (sp dp : Nat) (g' : Gi) : Prop := ∃ n ps, cr_D fr e s n ∧ sp + n = B ∧ cr_L fr e ps s ∧ g' 73 1 = nI (dp + ps.length) ∧ ∀ i c, ps[i]? = some c → g' 74 (dp + i) = nI c
def SkR (fr e : Nat → Nat) (B : Nat) (s : St) (sp dp : Nat) (r : Rr) (g : Gi) (j : Gl) : Int32 → Rr → Gi → Gl → Prop := fun v r' g' j' => r' = r ∧ j' = j ∧ OT s g' ∧ SkF dp g g' ∧ ((v = nI 1 ∧ SkY fr e B s sp dp g') ∨ (v = nI 0 ∧ ∀ n, cr_D fr e s n → sp + n ≠ B))
def SfR (fr e : Nat → Nat) (B : Nat) (s : St) (sp dp f : Nat) (r : Rr) (g : Gi) (j : Gl) : Int32 → Rr → Gi → Gl → Prop := fun v r' g' j' => r' = r ∧ j' = j ∧ OT s g' ∧ SkF dp g g' ∧ ((v = nI 1 ∧ SkY fr e B s sp dp g') ∨ (v = nI 0 ∧ ∀ n t, cr_D fr e s n → sp + n = B → t ≤ 3 → ¬ cr_o fr e s n f t))
def SkC (fr e : Nat → Nat) (cnt B d : Nat) (r : Rr) (N : Nat) : Prop := ∀ s sp dp x4 g j, cr_V cnt s → OT s g → OD cnt B fr e g → dp ≤ sp → sp + cr_s (cr_h e) s ≤ B → B ≤ sp + N → (∀ n, cr_D fr e s n → B ≤ sp + n) →
  (∀ f n t, x4 = nI f → f < 3 → t ≤ 3 → cr_D fr e s n → sp + n = B → ¬ cr_o fr e s n f t) → Cm d 20 [.ref 73, .int (nI s.1), .int (nI sp), .int (nI dp), .int x4] r g j (rkI (SkR fr e B s sp dp r g j))
section
variable {fr e : Nat → Nat} {s s' : St} {f t k n n' cnt B d N sp dp : Nat} {r : Rr} {g g' g'' : Gi} {j : Gl}
theorem SkF.rf : SkF dp g g := fun _ _ _ => rfl
theorem SkF.tr (h : SkF dp g g') (h' : SkF dp g' g'') : SkF dp g g'' := fun a q z => (h' a q z).trans (h a q z)
theorem SkF.up (h : SkF (dp + 1) g g') : SkF dp g g' := fun a q z => h a q (by omega)
theorem SkF.od (h : SkF dp g g') (hD : OD cnt B fr e g) : OD cnt B fr e g' := hD.eq fun a q z => h a q (by omega)
/-- behind a lift and a search: what is known of this lift -/
theorem X_tried (hf : f < 3) (ht : t ≤ 3) (hm : cr_n fr s f t = some (k, s')) (h0 : ∀ n', cr_D fr e s' n' → sp + e k + n' ≠ B) (hn : cr_D fr e s n) (hB : sp + n = B) : ¬ cr_o fr e s n f t := by
  rintro ⟨k2, s2, n2, hm2, hn2, h2⟩
  rw [hm] at hm2
  simp only [Option.some.injEq, Prod.mk.injEq] at hm2
  obtain ⟨rfl, rfl⟩ := hm2
  exact h0 n2 hn2 (by omega)
theorem X_found (hs : ¬ cr_e s) (hf : f < 3) (ht : t ≤ 3) (hm : cr_n fr s f t = some (k, s')) (hB : ∀ n, cr_D fr e s n → B ≤ sp + n) (hF : ∀ n f' t', cr_D fr e s n → sp + n = B → f' < f → t' ≤ 3 → ¬ cr_o fr e s n f' t') (hT : ∀ n t', cr_D fr e s n → sp + n = B → t' < t → ¬ cr_o fr e s n f t') (hY : SkY fr e B s' (sp + e k) (dp + 1) g) (h74 : g 74 dp = nI (10 * f + t)) : SkY fr e B s sp dp g := by
  obtain ⟨n', ps, h1, h2, h3, h4, h5⟩ := hY
  obtain ⟨n, hn⟩ := D_back hf ht hm h1
  have a := D_step hf ht hm hn h1
  have b := hB n hn
  have en : n = e k + n' := by omega
  refine ⟨n, (10 * f + t) :: ps, hn, by omega, ⟨n, f, t, k, s', hs, hn, ⟨hf, ht, ⟨k, s', n', hm, h1, en⟩, fun f' t' z1 z2 z3 => ?_⟩, rfl, hm, h3⟩, ?_, fun i c hi => ?_⟩
  · rcases z3 with z3 | ⟨rfl, z3⟩
    · exact hF n f' t' hn (by omega) z3 z2
    · exact hT n t' hn (by omega) z3
  · rw [h4, List.length_cons]; congr 1; omega
  · cases i with
    | zero =>
      simp only [List.getElem?_cons_zero, Option.some.injEq] at hi
      subst hi
      exact h74
    | succ i =>
      simp only [List.getElem?_cons_succ] at hi
      rw [show dp + (i + 1) = dp + 1 + i by omega]
      exact h5 i c hi
theorem X_seekFrom (he : ∀ k, 1 ≤ e k ∧ e k ≤ 2) (h2 : ∀ k, k < cnt → fr k ≠ 2) (hS : SkC fr e cnt B (d + 1) r N) {l : List Nat} (hV : cr_V cnt s) (hO : OT s g) (hD : OD cnt B fr e g) (hf : f < 3) (hg : cr_g s f = k :: l) (hdp : dp ≤ sp) (hsp : sp < B) (hN : B ≤ sp + (N + 1)) (hB : ∀ n, cr_D fr e s n → B ≤ sp + n) (hF : ∀ n f' t', cr_D fr e s n → sp + n = B → f' < f → t' ≤ 3 → ¬ cr_o fr e s n f' t') : Cm (d + 2) 21 [.ref 73, .int (nI f), .int (nI s.1), .int (nI sp), .int (nI dp)] r g j (rkI (SfR fr e B s sp dp f r g j)) := by
  have h5 := hD.1
  have h30 := hD.2.1
  have hlen := V_len hV hf
  have hFf := hO f hf
  have hk := V_mem hV hf (show k ∈ cr_g s f by rw [hg]; exact List.mem_cons_self)
  have hs : ¬ cr_e s := fun z => by have := z f hf; rw [hg] at this; cases this
  rw [hg] at hlen hFf
  simp only [List.length_cons] at hlen hFf
  have e75 : g 75 (5 * f + l.length) = nI k := hFf.2 [] k l rfl
  have hek := he k
  -- the lifts onto stacks, then the one to the quay
  have loop : ∀ q t gg, t + q = 3 → OT s gg → SkF dp g gg → (∀ n t', cr_D fr e s n → sp + n = B → t' < t → ¬ cr_o fr e s n f t') → G (d + 2) 21 33 [(0, .ref 73), (1, .int (nI f)), (2, .int (nI s.1)), (4, .int (nI dp)), (5, .int (nI k)), (6, .int (nI (sp + e k))), (7, .int (nI t))] [] r gg j (rkI (SfR fr e B s sp dp f r g j)) := by
    intro q
    induction q with
    | zero =>
      intro t gg ht hO2 hfr hT
      have : t = 3 := by omega
      subst this
      have hD2 := hfr.od hD
      have hF2 := hO2 f hf
      rw [hg] at hF2
      simp only [List.length_cons] at hF2
      refine vX3_seekFrom_33 ⟨fun _ => ⟨fun a => ?_, fun a => ?_⟩, fun a => absurd (Int32.le_refl _) a⟩
      · rw [nI_eq (by omega) (by omega)] at a
        have hm : cr_n fr s f 3 = some (k, cr_u (cr_p s f l)) := (cr_nq hf).mpr ⟨l, hg, a, h2 k hk.2, rfl⟩
        refine IX_l (by omega) (IX_l hf (IX_l hf ?_))
        have e1 : gg 76 f - nI 1 = nI l.length := by rw [hF2.1, pk_sub (by omega)]; rfl
        rw [e1, pk_mul, nI_add]
        have hO3 : OT (cr_u (cr_p s f l)) (uI (uI gg 74 dp (nI (10 * f + 3))) 76 f (nI l.length)) := by
          intro i hi
          rw [cr_gu]
          by_cases c : i = f
          · subst c
            rw [cr_gs hi]
            refine ⟨uI_s, fun l1 k' l2 hl => ?_⟩
            rw [uI_o (by decide), uI_o (by decide)]
            exact hF2.2 (k :: l1) k' l2 (by rw [hl]; rfl)
          · rw [cr_go hf hi c]
            exact ⟨by rw [uI_n c, uI_o (by decide)]; exact (hO2 i hi).1, fun l1 k' l2 hl => by rw [uI_o (by decide), uI_o (by decide)]; exact (hO2 i hi).2 l1 k' l2 hl⟩
        have hV3 := V_step hV hf (by decide) hm
        have h31 : (cr_u (cr_p s f l)).1 = s.1 + 1 := by show (cr_p s f l).1 + 1 = _; rw [cr_p1]
        have hD3 : OD cnt B fr e (uI (uI gg 74 dp (nI (10 * f + 3))) 76 f (nI l.length)) := hD2.eq fun a q z => by rw [uI_o (by omega), uI_o (by omega)]
        -- the crate is laid back
        have fin : ∀ v g4, OT (cr_u (cr_p s f l)) g4 → SkF dp g g4 → ((v = nI 1 ∧ SkY fr e B s sp dp g4) ∨ (v = nI 0 ∧ ∀ n', cr_D fr e (cr_u (cr_p s f l)) n' → sp + e k + n' ≠ B)) → G (d + 2) 21 215 [(0, .ref 73), (1, .int (nI f)), (5, .int (nI k))] [.int v] r g4 j (rkI (SfR fr e B s sp dp f r g j)) := by
          intro v g4 hO4 hfr4 hv
          have h76 : g4 76 f = nI l.length := by
            have := (hO4 f hf).1
            rw [cr_gu, cr_gs hf] at this; exact this
          refine vX3_seekFrom_215 (IX_l hf (IX_e (q := 5 * f + l.length) (by rw [h76, pk_mul, nI_add, Nat.mul_comm]) (by omega) (IX_l hf (IX_l hf ⟨?_, ?_⟩))))
          · rcases hv with ⟨rfl, _⟩ | ⟨rfl, _⟩
            · exact bo1
            · exact bo0
          rw [h76, nI_add]
          refine ⟨rfl, rfl, fun i hi => ?_, fun a q z => ?_, ?_⟩
          · have h4 := hO4 i hi
            rw [cr_gu] at h4
            by_cases c : i = f
            · subst c
              rw [cr_gs hi] at h4
              rw [hg]
              refine ⟨by rw [uI_s]; rfl, fun l1 k' l2 hl => ?_⟩
              rw [uI_o (by decide)]
              cases l1 with
              | nil =>
                simp only [List.nil_append, List.cons.injEq] at hl
                obtain ⟨rfl, rfl⟩ := hl
                rw [uI_s]
              | cons a l1 =>
                simp only [List.cons_append, List.cons.injEq] at hl
                have hl3 : l.length = l1.length + (l2.length + 1) := by rw [hl.2]; simp
                rw [uI_n (by omega)]
                exact h4.2 l1 k' l2 hl.2
            · rw [cr_go hf hi c] at h4
              have h3 := V_len hV hi
              refine ⟨by rw [uI_n c, uI_o (by decide)]; exact h4.1, fun l1 k' l2 hl => ?_⟩
              have hl3 : (cr_g s i).length = l1.length + (l2.length + 1) := by rw [hl]; simp
              rw [uI_o (by decide), uI_n (by omega)]
              exact h4.2 l1 k' l2 hl
          · rw [uI_o (by omega), uI_o (by omega)]; exact hfr4 a q z
          · rcases hv with ⟨rfl, n, ps, y1, y2, y3, y4, y5⟩ | ⟨rfl, h0⟩
            · exact Or.inl ⟨rfl, n, ps, y1, y2, y3, by rw [uI_o (by decide), uI_o (by decide)]; exact y4, fun i c hi => by rw [uI_o (by decide), uI_o (by decide)]; exact y5 i c hi⟩
            · refine Or.inr ⟨rfl, fun n t' z1 z2 z3 => ?_⟩
              rcases Nat.lt_or_ge t' 3 with c | c
              · exact hT n t' z1 z2 c
              · obtain rfl : t' = 3 := by omega
                exact X_tried hf (by decide) hm h0 z1 z2
        have hfr3 : SkF dp g (uI (uI gg 74 dp (nI (10 * f + 3))) 76 f (nI l.length)) := fun a q z => by rw [uI_o (by omega), uI_d (by omega)]; exact hfr a q z
        rw [nI_add, ← h31]
        refine X_still hV3 hO3 hD3 ⟨fun a2 => vX3_seekFrom_214 (fin _ _ hO3 hfr3 (Or.inr ⟨rfl, fun n' z => ?_⟩)), fun a2 => ?_⟩
        · rw [hD3.2.2.2.1, nI_add, nI_ltI (by omega) (by have := H_D hV3 z; have := eS_le (fun k => (he k).2) (cr_u (cr_p s f l)).1 (cnt - (cr_u (cr_p s f l)).1); rw [H_sum hV3]; have b0 := b_le (fun k => (he k).2) (cr_g (cr_u (cr_p s f l)) 0); have b1 := b_le (fun k => (he k).2) (cr_g (cr_u (cr_p s f l)) 1); have b2 := b_le (fun k => (he k).2) (cr_g (cr_u (cr_p s f l)) 2); have := hV3.2; omega)] at a2
          have := H_D hV3 z
          omega
        · have hh : sp + e k + cr_s (cr_h e) (cr_u (cr_p s f l)) ≤ B := by
            rw [hD3.2.2.2.1, nI_add] at a2
            rw [← Nat.not_lt]
            intro z
            apply a2
            refine nI_lt z ?_
            have := eS_le (fun k => (he k).2) (cr_u (cr_p s f l)).1 (cnt - (cr_u (cr_p s f l)).1)
            rw [H_sum hV3]
            have b0 := b_le (fun k => (he k).2) (cr_g (cr_u (cr_p s f l)) 0)
            have b1 := b_le (fun k => (he k).2) (cr_g (cr_u (cr_p s f l)) 1)
            have b2 := b_le (fun k => (he k).2) (cr_g (cr_u (cr_p s f l)) 2)
            have := hV3.2
            omega
          rw [nI_add]
          refine Cm_mI (hS (cr_u (cr_p s f l)) (sp + e k) (dp + 1) (-1) _ j hV3 hO3 hD3 (by omega) hh (by omega) (fun n' z => ?_) (fun f' n t z => ?_)) ?_
          · obtain ⟨n, hn⟩ := D_back hf (by decide) hm z
            have := D_step hf (by decide) hm hn z
            have := hB n hn
            omega
          · intro z2
            exfalso
            have h1 : (-1 : Int32) < 0 := by decide +kernel
            rw [z] at h1
            exact nI_pos (by omega) h1
          · rintro v r4 g4 j4 ⟨rfl, rfl, hO4, hfr4, hv⟩
            have hfr5 : SkF dp g g4 := hfr3.tr hfr4.up
            rcases hv with ⟨rfl, hy⟩ | ⟨rfl, h0⟩
            · refine ⟨fun z => absurd z n10, fun _ => fin _ _ hO4 hfr5 (Or.inl ⟨rfl, X_found hs hf (by decide) hm hB hF hT hy ?_⟩)⟩
              rw [hfr4 74 dp (by omega), uI_o (by decide), uI_s]
            · exact ⟨fun _ => vX3_seekFrom_214 (fin _ _ hO4 hfr5 (Or.inr ⟨rfl, h0⟩)), fun z => absurd n00 z⟩
      · rw [nI_eq (by omega) (by omega)] at a
        refine ⟨bo0, rfl, rfl, hO2, hfr, Or.inr ⟨rfl, fun n t' z1 z2 z3 => ?_⟩⟩
        rcases Nat.lt_or_ge t' 3 with c | c
        · exact hT n t' z1 z2 c
        · obtain rfl : t' = 3 := by omega
          rintro ⟨k2, s2, n2, hm2, _⟩
          obtain ⟨l2, hg2, hk2, _⟩ := (cr_nq hf).mp hm2
          rw [hg] at hg2
          simp only [List.cons.injEq] at hg2
          exact a (by rw [hg2.1]; exact hk2)
    | succ q ih =>
      intro t gg ht hO2 hfr hT
      have ht3 : t < 3 := by omega
      have hD2 := hfr.od hD
      have next : (∀ n, cr_D fr e s n → sp + n = B → ¬ cr_o fr e s n f t) → ∀ g5, OT s g5 → SkF dp g g5 → G (d + 2) 21 139 [(0, .ref 73), (1, .int (nI f)), (2, .int (nI s.1)), (4, .int (nI dp)), (5, .int (nI k)), (6, .int (nI (sp + e k))), (7, .int (nI t))] [] r g5 j (rkI (SfR fr e B s sp dp f r g j)) := by
        intro h0 g5 hO5 hfr5
        refine vX3_seekFrom_139 ?_
        rw [nI_add]
        refine ih (t + 1) g5 (by omega) hO5 hfr5 (fun n t' z1 z2 z3 => ?_)
        by_cases c : t' = t
        · subst c; exact h0 n z1 z2
        · exact hT n t' z1 z2 (by omega)
      refine vX3_seekFrom_33 ⟨fun a => absurd a (nI_ge ht3 (by decide)), fun _ => ⟨fun a => ?_, fun a => IX_l (by omega) ⟨fun a2 => IX_l ht3 ⟨fun a3 => ?_, fun _ => IX_l (by omega) ?_⟩, fun a2 => ?_⟩⟩⟩
      · rw [nI_eq (by omega) (by omega)] at a
        refine next (fun n _ _ => ?_) gg hO2 hfr
        rintro ⟨k2, s2, n2, hm2, _⟩
        obtain ⟨l2, _, hft, _⟩ := (cr_nt ht3).mp hm2
        exact hft a.symm
      · have h3 := V_len hV ht3
        rw [nI_eq (by omega) (by omega)] at a
        have h4 := V_two hV hf ht3 (Ne.symm a)
        rw [hg, List.length_cons] at h4
        rw [(hO2 t ht3).1] at a3
        have := le_n (by decide) (by omega) a3
        omega
      · rw [nI_eq (by omega) (by omega)] at a
        have hfk : fr k = 0 := by
          rw [(hD2.2.2.2.2 k hk.2).2] at a2
          by_cases c : fr k = 0
          · exact c
          · rw [if_neg c] at a2; exact absurd a2 n10
        have hft : f ≠ t := Ne.symm a
        have hm : cr_n fr s f t = some (k, cr_p (cr_p s f l) t (k :: cr_g s t)) := (cr_nt ht3).mpr ⟨l, hg, hft, hfk, rfl⟩
        have hV3 := V_step hV hf (by omega) hm
        have h31 : (cr_p (cr_p s f l) t (k :: cr_g s t)).1 = s.1 := by rw [cr_p1, cr_p1]
        rw [pk_mul, nI_add]
        refine X_move hV h5 (hO2.eq fun a q z => uI_d (by omega)) hf ht3 hft hg fun g3 hO3 ho3 => ?_
        have hfr3 : SkF dp g g3 := fun a q z => by rw [ho3 a q (by omega) (by omega), uI_d (by omega)]; exact hfr a q z
        have h74 : g3 74 dp = nI (10 * f + t) := by rw [ho3 74 dp (by decide) (by decide), uI_s]
        have hD3 := hfr3.od hD
        have h3g : cr_g (cr_p (cr_p s f l) t (k :: cr_g s t)) t = k :: cr_g s t := cr_gs ht3
        have eback : cr_p (cr_p (cr_p (cr_p s f l) t (k :: cr_g s t)) t (cr_g s t)) f (k :: cr_g (cr_p (cr_p s f l) t (k :: cr_g s t)) f) = s := by
          refine cr_ext (by simp only [cr_p1]) fun i hi => ?_
          by_cases c1 : i = f
          · subst c1
            rw [cr_gs hi, cr_go ht3 hi hft, cr_gs hi, hg]
          · rw [cr_go hf hi c1]
            by_cases c2 : i = t
            · subst c2; rw [cr_gs hi]
            · rw [cr_go ht3 hi c2, cr_go ht3 hi c2, cr_go hf hi c1]
        have fin : ∀ v g4, OT (cr_p (cr_p s f l) t (k :: cr_g s t)) g4 → SkF dp g g4 → ((v = nI 1 ∧ SkY fr e B s sp dp g4) ∨ (v = nI 0 ∧ ∀ n', cr_D fr e (cr_p (cr_p s f l) t (k :: cr_g s t)) n' → sp + e k + n' ≠ B)) → G (d + 2) 21 123 [(0, .ref 73), (1, .int (nI f)), (2, .int (nI s.1)), (4, .int (nI dp)), (5, .int (nI k)), (6, .int (nI (sp + e k))), (7, .int (nI t))] [.int v] r g4 j (rkI (SfR fr e B s sp dp f r g j)) := by
          intro v g4 hO4 hfr4 hv
          refine vX3_seekFrom_123 (X_move hV3 h5 hO4 ht3 hf (Ne.symm hft) h3g fun g5 hO5 ho5 => ?_)
          rw [eback] at hO5
          have hfr5 : SkF dp g g5 := fun a q z => by rw [ho5 a q (by omega) (by omega)]; exact hfr4 a q z
          rcases hv with ⟨rfl, n, ps, y1, y2, y3, y4, y5⟩ | ⟨rfl, h0⟩
          · exact ⟨fun z => absurd z n10, fun _ => ⟨bo1, rfl, rfl, hO5, hfr5, Or.inl ⟨rfl, n, ps, y1, y2, y3, by rw [ho5 73 1 (by decide) (by decide)]; exact y4, fun i c hi => by rw [ho5 74 _ (by decide) (by decide)]; exact y5 i c hi⟩⟩⟩
          · exact ⟨fun _ => next (fun n z1 z2 => X_tried hf (by omega) hm h0 z1 z2) g5 hO5 hfr5, fun z => absurd n00 z⟩
        rw [← h31]
        have hbnd : sp + e k + cr_s (cr_h e) (cr_p (cr_p s f l) t (k :: cr_g s t)) < 2 ^ 31 := by
          rw [H_sum hV3]
          have := eS_le (fun k => (he k).2) (cr_p (cr_p s f l) t (k :: cr_g s t)).1 (cnt - (cr_p (cr_p s f l) t (k :: cr_g s t)).1)
          have b0 := b_le (fun k => (he k).2) (cr_g (cr_p (cr_p s f l) t (k :: cr_g s t)) 0)
          have b1 := b_le (fun k => (he k).2) (cr_g (cr_p (cr_p s f l) t (k :: cr_g s t)) 1)
          have b2 := b_le (fun k => (he k).2) (cr_g (cr_p (cr_p s f l) t (k :: cr_g s t)) 2)
          have := hV3.2
          omega
        refine X_still hV3 hO3 hD3 ⟨fun a4 => ?_, fun a4 => ?_⟩
        · rw [h31]
          refine vX3_seekFrom_122 (fin _ _ hO3 hfr3 (Or.inr ⟨rfl, fun n' z => ?_⟩))
          rw [hD3.2.2.2.1, nI_add, nI_ltI (by omega) hbnd] at a4
          have := H_D hV3 z
          omega
        · have hh : sp + e k + cr_s (cr_h e) (cr_p (cr_p s f l) t (k :: cr_g s t)) ≤ B := by
            rw [hD3.2.2.2.1, nI_add] at a4
            rw [← Nat.not_lt]
            exact fun z => a4 (nI_lt z hbnd)
          rw [nI_add]
          refine Cm_mI (hS (cr_p (cr_p s f l) t (k :: cr_g s t)) (sp + e k) (dp + 1) (nI t) _ j hV3 hO3 hD3 (by omega) hh (by omega) (fun n' z => ?_) (fun f' n' t' z z2 z3 z4 z5 => ?_)) ?_
          · obtain ⟨n, hn⟩ := D_back hf (by omega) hm z
            have := D_step hf (by omega) hm hn z
            have := hB n hn
            omega
          · rw [nI_eq (by omega) (by omega)] at z
            subst z
            obtain ⟨n, hn⟩ := D_back hf (by omega) hm z4
            have := D_step hf (by omega) hm hn z4
            have := hB n hn
            exact X_twice (fun k => (he k).1) hf ht3 hm hn z4 (by omega) z3
          · rintro v r4 g4 j4 ⟨rfl, rfl, hO4, hfr4, hv⟩
            rw [h31]
            have hfr5 : SkF dp g g4 := hfr3.tr hfr4.up
            rcases hv with ⟨rfl, hy⟩ | ⟨rfl, h0⟩
            · refine ⟨fun z => absurd z n10, fun _ => fin _ _ hO4 hfr5 (Or.inl ⟨rfl, X_found hs hf (by omega) hm hB hF hT hy ?_⟩)⟩
              rw [hfr4 74 dp (by omega)]; exact h74
            · exact ⟨fun _ => vX3_seekFrom_122 (fin _ _ hO4 hfr5 (Or.inr ⟨rfl, h0⟩)), fun z => absurd n00 z⟩
      · rw [(hD2.2.2.2.2 k hk.2).2] at a2
        refine next (fun n _ _ => ?_) gg hO2 hfr
        rintro ⟨k2, s2, n2, hm2, _⟩
        obtain ⟨l2, hg2, _, hk2, _⟩ := (cr_nt ht3).mp hm2
        rw [hg] at hg2
        simp only [List.cons.injEq] at hg2
        rw [← hg2.1] at hk2
        rw [if_pos hk2] at a2
        exact a2 n00
  refine vX3_seekFrom_0 (IX_l hf (IX_e (q := 5 * f + l.length) (by rw [hFf.1, pk_mul, nI_add, pk_sub (by omega)]; congr 1; omega) (by omega) ?_))
  rw [e75]
  refine IX_l (by omega) ?_
  rw [(hD.2.2.2.2 k hk.2).1, nI_add]
  exact loop 3 0 g (by decide) hO SkF.rf (fun n t' _ _ z => by omega)
theorem X_seek (he : ∀ k, 1 ≤ e k ∧ e k ≤ 2) (h2 : ∀ k, k < cnt → fr k ≠ 2) : ∀ N, SkC fr e cnt B (d + 2 * N + 2) r N := by
  intro N
  induction N with
  | zero =>
    intro s sp dp x4 g j hV hO hD hdp hh hN hB hl
    have hc : cnt ≤ s.1 := by
      rw [← Nat.not_lt]
      intro z
      have := H_pos (fun k => (he k).1) hV z
      omega
    have hs := (V_e hV).mpr hc
    have h5 := hD.1
    have hs1 : s.1 ≤ cnt := by have := hV.2; omega
    have hB0 := hB 0 (D_0 hs)
    refine vX3_seek_0 ⟨fun a => ?_, fun _ => ⟨bo1, rfl, rfl, hO.eq fun a q z => uI_d (by omega), fun a q z => uI_d (by omega), Or.inl ⟨rfl, 0, [], D_0 hs, by omega, hs, uI_s, fun i c hi => by simp at hi⟩⟩⟩
    rw [hD.2.2.1] at a
    exact absurd a (nI_nlt hc (by omega))
  | succ N ih =>
    intro s sp dp x4 g j hV hO hD hdp hh hN hB hl
    have h5 := hD.1
    have h30 := hD.2.1
    have hs1 : s.1 ≤ cnt := by have := hV.2; omega
    refine vX3_seek_0 ⟨fun a => ⟨fun _ => ?_, fun a2 => ?_⟩, fun a => ?_⟩
    · rw [hD.2.2.1, nI_ltI (by omega) (by omega)] at a
      have hp := H_pos (fun k => (he k).1) hV a
      have hs : ¬ cr_e s := fun z => by have := (V_e hV).mp z; omega
      have loop : ∀ q f gg, f + q = 3 → OT s gg → SkF dp g gg → (∀ n f' t', cr_D fr e s n → sp + n = B → f' < f → t' ≤ 3 → ¬ cr_o fr e s n f' t') → G (d + 2 * (N + 1) + 2) 20 26 [(0, .ref 73), (1, .int (nI s.1)), (2, .int (nI sp)), (3, .int (nI dp)), (4, .int x4), (5, .int (nI f))] [] r gg j (rkI (SkR fr e B s sp dp r g j)) := by
        intro q
        induction q with
        | zero =>
          intro f gg hf hO2 hfr hF
          have : f = 3 := by omega
          subst this
          refine vX3_seek_26 ⟨fun _ => ⟨bo0, rfl, rfl, hO2, hfr, Or.inr ⟨rfl, fun n z1 z2 => ?_⟩⟩, fun a => absurd (Int32.le_refl _) a⟩
          obtain ⟨f, t, z3, z4, z5⟩ := D_opt z1 hs
          exact hF n f t z1 z2 z3 z4 z5
        | succ q ihq =>
          intro f gg hf hO2 hfr hF
          have hf3 : f < 3 := by omega
          have next : (∀ n t, cr_D fr e s n → sp + n = B → t ≤ 3 → ¬ cr_o fr e s n f t) → ∀ g5, OT s g5 → SkF dp g g5 → G (d + 2 * (N + 1) + 2) 20 63 [(0, .ref 73), (1, .int (nI s.1)), (2, .int (nI sp)), (3, .int (nI dp)), (4, .int x4), (5, .int (nI f))] [] r g5 j (rkI (SkR fr e B s sp dp r g j)) := by
            intro h0 g5 hO5 hfr5
            refine vX3_seek_63 ?_
            rw [nI_add]
            refine ihq (f + 1) g5 (by omega) hO5 hfr5 (fun n f' t' z1 z2 z3 z4 => ?_)
            by_cases c : f' = f
            · subst c; exact h0 n t' z1 z2 z4
            · exact hF n f' t' z1 z2 (by omega) z4
          have h3 := V_len hV hf3
          refine vX3_seek_26 ⟨fun a => absurd a (nI_ge hf3 (by decide)), fun _ => IX_l hf3 ⟨fun a2 => ?_, fun a2 => ⟨fun a3 => ?_, fun a3 => ?_⟩⟩⟩
          · rw [(hO2 f hf3).1, ← nI_0] at a2
            have a2 := le_n (by omega) (by decide) a2
            refine next (fun n t _ _ _ => ?_) gg hO2 hfr
            rintro ⟨k2, s2, n2, hm2, _⟩
            unfold cr_n at hm2
            rw [List.eq_nil_of_length_eq_zero (show (cr_g s f).length = 0 by omega)] at hm2
            cases hm2
          · exact next (fun n t z1 z2 z3 => hl f n t a3.symm hf3 z3 z1 z2) gg hO2 hfr
          · cases hg : cr_g s f with
            | nil =>
              exfalso
              apply a2
              rw [(hO2 f hf3).1, hg]; exact Int32.le_refl _
            | cons k l =>
              refine Cm_mI (X_seekFrom (N := N) (d := d + 2 * N + 1) he h2 ih hV hO2 (hfr.od hD) hf3 hg hdp (by omega) (by omega) hB hF) ?_
              rintro v r4 g4 j4 ⟨rfl, rfl, hO4, hfr4, hv⟩
              rcases hv with ⟨rfl, hy⟩ | ⟨rfl, h0⟩
              · exact ⟨fun z => absurd z n10, fun _ => ⟨bo1, rfl, rfl, hO4, hfr.tr hfr4, Or.inl ⟨rfl, hy⟩⟩⟩
              · exact ⟨fun _ => next h0 g4 hO4 (hfr.tr hfr4), fun z => absurd n00 z⟩
      exact loop 3 0 g (by decide) hO SkF.rf (fun n f' t' _ _ z => by omega)
    · rw [hD.2.2.1, nI_ltI (by omega) (by omega)] at a
      have hp := H_pos (fun k => (he k).1) hV a
      exact absurd (nI_lt (show dp < 30 by omega) (by decide)) a2
    · have hc : cnt ≤ s.1 := by
        rw [hD.2.2.1] at a
        rw [← Nat.not_lt]
        exact fun z => a (nI_lt z (by omega))
      have hs := (V_e hV).mpr hc
      have hB0 := hB 0 (D_0 hs)
      exact ⟨bo1, rfl, rfl, hO.eq fun a q z => uI_d (by omega), fun a q z => uI_d (by omega), Or.inl ⟨rfl, 0, [], D_0 hs, by omega, hs, uI_s, fun i c hi => by simp at hi⟩⟩
end
