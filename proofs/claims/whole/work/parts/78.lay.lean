/-! CRANES, the reference: layWays -/
def BFI (R Y : Nat → Nat) (sh : Nat) (g0 : Gi) (tb : Nat → Option St) (fl : List Nat) (fa : Nat → Nat) (g : Gi) (j : Gl) : Prop :=
  HT (labK R Y sh) (ctC R Y sh) tb fl fa g j ∧ MnI Y sh g ∧ LF g0 g ∧ j 263 28 = lN (wyE (labK R Y sh) (cr0 R Y sh)) ∧ (∃ q, q < 8192 ∧ tb q = some (cr0 R Y sh)) ∧ ∀ k s, k < 8192 → tb k = some s → fa k = if wyE (labK R Y sh) s = 0 then 0 else 1000000
theorem sum_up {fa : Nat → Nat} {k v : Nat} (hv : v < fa k) : ∀ fl : List Nat, (fl.map (upN fa k v)).sum ≤ (fl.map fa).sum ∧ (k ∈ fl → (fl.map (upN fa k v)).sum < (fl.map fa).sum) := by
  intro fl
  induction fl with
  | nil => exact ⟨Nat.le_refl _, fun h => by cases h⟩
  | cons a fl ih =>
    rw [List.map_cons, List.map_cons, List.sum_cons, List.sum_cons]
    by_cases c : a = k
    · subst c
      rw [upN_s]
      exact ⟨by omega, fun _ => by omega⟩
    · rw [upN_o c]
      refine ⟨by omega, fun h => ?_⟩
      rcases List.mem_cons.mp h with h | h
      · exact absurd h.symm c
      · have := ih.2 h; omega
section
variable {n p b d sh : Nat} {R Y : Nat → Nat} {r : Rr} {g g0 g' : Gi} {j : Gl} {s s' : St} {tb : Nat → Option St} {fl : List Nat} {fa : Nat → Nat}
theorem MnI.lf (h : MnI Y sh g) (e : ∀ q, g' 274 q = g 274 q) : MnI Y sh g' := fun t i ht hi => by rw [e]; exact h t i ht hi
/-- one round behind the other, until nothing comes nearer -/
theorem M_relax {K : Int32 → Rr → Gi → Gl → Prop} (hV : Vw n p b R Y r g0) (hs : sh < 3) (hcl : ∀ k s, k < 8192 → tb k = some s → clS R Y sh tb s) (hst : ∃ q, q < 8192 ∧ tb q = some (cr0 R Y sh))
    (h1 : ∀ fa g j, SOL R Y sh tb fl fa g j → LF g0 g → (∃ q, q < 8192 ∧ tb q = some (cr0 R Y sh) ∧ fa q < 1000000) → K (nI 1) r g j) (h0 : ∀ g j, LF g0 g → (∀ l c, ¬ cr_q (crF R Y sh) (crE R Y sh) l c (cr0 R Y sh)) → K (nI 0) r g j) :
    ∀ N fa g j, (fl.map fa).sum ≤ N → HT (labK R Y sh) (ctC R Y sh) tb fl fa g j → MnI Y sh g → LF g0 g → j 263 28 = lN (wyE (labK R Y sh) (cr0 R Y sh)) → RXs R Y sh tb fa → G (d + 4) 207 257 [(0, .ref 263), (3, .int (nI 1))] [] r g j (rkI K) := by
  have hc5 := ct5 (Y := Y) (sh := sh) hV.ro
  have hji : ∀ k k', k < ctC R Y sh → k' < ctC R Y sh → labK R Y sh k = labK R Y sh k' → k = k' := fun k k' h1 h2 h3 => lab_inj hV.ro hV.yo hs h1 h2 h3
  intro N
  induction N with
  | zero => 
    intro fa g j hN H hM hL hj hX
    -- all are at 0: the same round as below, nothing can come nearer
    refine vX10_layWays_257 ⟨fun a => absurd a n10, fun _ => ?_⟩
    have hlen := H.len hc5
    obtain ⟨f1, f2, f3, f4⟩ := H.2.2.2.2.1
    have sweep : ∀ i, i ≤ fl.length → (∀ i' k s, i ≤ i' → fl[i']? = some k → tb k = some s → loS R Y sh tb fa s (fa k)) → G (d + 4) 207 271 [(0, .ref 263), (3, .int (nI 0)), (4, .int (nI i - nI 1))] [] r g j (rkI K) := by
      intro i
      induction i with
      | zero =>
        intro hi hlo
        refine vX10_layWays_271 ⟨fun _ => vX10_layWays_257 ⟨fun _ => ?_, fun a => absurd n00 a⟩, fun a => absurd (by decide +kernel) a⟩
        obtain ⟨q, hq, eq⟩ := hst
        rw [hj]
        refine M_placeIn labK4 hji hc5 H hq eq (IX_l hq ?_)
        obtain ⟨e272, hfa⟩ := H.2.2.2.2.2 q hq (by rw [eq]; exact fun z => by cases z)
        have S : SOL R Y sh tb fl fa g j := ⟨H, hM, fun k s hk es => ⟨hcl k s hk es, by
          obtain ⟨i, hi⟩ := List.getElem?_of_mem ((f4 k).mpr ⟨hk, by rw [es]; exact fun z => by cases z⟩)
          exact hlo i k s (Nat.zero_le _) hi es⟩, hX, hj, q, hq, eq⟩
        rw [e272]
        refine ⟨fun a => ⟨bo0, h0 _ _ hL ?_⟩, fun a => ⟨bo1, h1 fa g j S hL ⟨q, hq, eq, ?_⟩⟩⟩
        · intro l c hq2
          have a := le_n (by decide) (by omega) a
          have hV0 := V0 hV.ro hV.yo hs
          have hx : ¬ cr_x (crF R Y sh) (cr0 R Y sh) := fun z => X_no l c _ hV0 z hq2
          obtain ⟨l2, c2, hq3, hc2⟩ := X_can (e := crE R Y sh) (fun k => (crE_b k).2) (ctC R Y sh) (cr0 R Y sh) hV0 hx (by show 0 + _ = _; omega)
          have := S.le l2 c2 _ q hq eq hq3
          have h2 : ctC R Y sh * (ctC R Y sh + 1) ≤ 5 * (5 + 1) := Nat.mul_le_mul hc5 (by omega)
          omega
        · rw [← Nat.not_le]; exact fun z => a (nI_le z (by omega))
      | succ i ihi =>
        intro hi hlo
        have hget : fl[i]? = some fl[i] := List.getElem?_eq_getElem (by omega)
        have hmem := (f4 fl[i]).mp (List.getElem_mem (by omega))
        rw [pk_sub (by omega), show i + 1 - 1 = i by omega]
        refine vX10_layWays_271 ⟨fun a => absurd a (nlt_0 (by omega)), fun _ => IX_l (by omega) ?_⟩
        rw [f2 i _ hget]
        cases es : tb fl[i] with
        | none => exact absurd es hmem.2
        | some s =>
          refine M_nearer (hV.ag hL.ag) hs hM H hX hmem.1 es (hcl _ s hmem.1 es) (fun hl => ⟨fun _ => ⟨fun _ => vX10_layWays_299 ?_, fun a => absurd n00 a⟩, fun a => absurd n00 a⟩) (fun v hv hX' H' => ?_)
          · have : nI i + -1 = nI i - nI 1 := by
              apply Int32.toBitVec_inj.mp
              show (nI i).toBitVec + (-1 : Int32).toBitVec = (nI i).toBitVec - (nI 1).toBitVec
              rw [BitVec.sub_eq_add_neg]; rfl
            rw [this]
            refine ihi (by omega) (fun i' k' s' z1 z2 z3 => ?_)
            by_cases c : i' = i
            · subst c
              rw [hget] at z2
              simp only [Option.some.injEq] at z2
              subst z2
              rw [es] at z3
              simp only [Option.some.injEq] at z3
              subst z3
              exact hl
            · exact hlo i' k' s' (by omega) z2 z3
          · have := (sum_up hv fl).2 (List.getElem_mem (by omega))
            omega
    rw [f1]
    exact sweep fl.length (Nat.le_refl _) (fun i' k s z1 z2 => by rw [List.getElem?_eq_none z1] at z2; cases z2)
  | succ N ihN =>
    intro fa0 g1 j1 hN H hM hL hj hX
    refine vX10_layWays_257 ⟨fun a => absurd a n10, fun _ => ?_⟩
    have hlen := H.len hc5
    have f1 := H.2.2.2.2.1.1
    have f4 := H.2.2.2.2.1.2.2.2
    have sweep : ∀ i fa g j x3, i ≤ fl.length → HT (labK R Y sh) (ctC R Y sh) tb fl fa g j → MnI Y sh g → LF g0 g → j 263 28 = lN (wyE (labK R Y sh) (cr0 R Y sh)) → RXs R Y sh tb fa → ((x3 = nI 0 ∧ ∀ i' k s, i ≤ i' → fl[i']? = some k → tb k = some s → loS R Y sh tb fa s (fa k)) ∨ (x3 = nI 1 ∧ (fl.map fa).sum ≤ N)) → (fl.map fa).sum ≤ N + 1 → G (d + 4) 207 271 [(0, .ref 263), (3, .int x3), (4, .int (nI i - nI 1))] [] r g j (rkI K) := by
      intro i
      induction i with
      | zero =>
        intro fa g j x3 hi H hM hL hj hX hx hsum
        refine vX10_layWays_271 ⟨fun _ => ?_, fun a => absurd (by decide +kernel) a⟩
        rcases hx with ⟨rfl, hlo⟩ | ⟨rfl, hsm⟩
        · refine vX10_layWays_257 ⟨fun _ => ?_, fun a => absurd n00 a⟩
          obtain ⟨q, hq, eq⟩ := hst
          rw [hj]
          refine M_placeIn labK4 hji hc5 H hq eq (IX_l hq ?_)
          obtain ⟨e272, hfa⟩ := H.2.2.2.2.2 q hq (by rw [eq]; exact fun z => by cases z)
          have S : SOL R Y sh tb fl fa g j := ⟨H, hM, fun k s hk es => ⟨hcl k s hk es, by
            obtain ⟨i, hi⟩ := List.getElem?_of_mem ((f4 k).mpr ⟨hk, by rw [es]; exact fun z => by cases z⟩)
            exact hlo i k s (Nat.zero_le _) hi es⟩, hX, hj, q, hq, eq⟩
          rw [e272]
          refine ⟨fun a => ⟨bo0, h0 _ _ hL ?_⟩, fun a => ⟨bo1, h1 fa g j S hL ⟨q, hq, eq, ?_⟩⟩⟩
          · intro l c hq2
            have a := le_n (by decide) (by omega) a
            have hV0 := V0 hV.ro hV.yo hs
            have hx : ¬ cr_x (crF R Y sh) (cr0 R Y sh) := fun z => X_no l c _ hV0 z hq2
            obtain ⟨l2, c2, hq3, hc2⟩ := X_can (e := crE R Y sh) (fun k => (crE_b k).2) (ctC R Y sh) (cr0 R Y sh) hV0 hx (by show 0 + _ = _; omega)
            have := S.le l2 c2 _ q hq eq hq3
            have h2 : ctC R Y sh * (ctC R Y sh + 1) ≤ 5 * (5 + 1) := Nat.mul_le_mul hc5 (by omega)
            omega
          · rw [← Nat.not_le]; exact fun z => a (nI_le z (by omega))
        · exact ihN fa g j hsm H hM hL hj hX
      | succ i ihi =>
        intro fa g j x3 hi H hM hL hj hX hx hsum
        have f2 := H.2.2.2.2.1.2.1
        have hget : fl[i]? = some fl[i] := List.getElem?_eq_getElem (by omega)
        have hmem := (f4 fl[i]).mp (List.getElem_mem (by omega))
        have em : nI i + -1 = nI i - nI 1 := by
          apply Int32.toBitVec_inj.mp
          show (nI i).toBitVec + (-1 : Int32).toBitVec = (nI i).toBitVec - (nI 1).toBitVec
          rw [BitVec.sub_eq_add_neg]; rfl
        rw [pk_sub (by omega), show i + 1 - 1 = i by omega]
        refine vX10_layWays_271 ⟨fun a => absurd a (nlt_0 (by omega)), fun _ => IX_l (by omega) ?_⟩
        rw [f2 i _ hget]
        cases es : tb fl[i] with
        | none => exact absurd es hmem.2
        | some s =>
          refine M_nearer (hV.ag hL.ag) hs hM H hX hmem.1 es (hcl _ s hmem.1 es) (fun hl => ⟨fun _ => ⟨fun a => vX10_layWays_299 ?_, fun a => vX10_layWays_294 (vX10_layWays_299 ?_)⟩, fun a => absurd n00 a⟩) (fun v hv hX' H' => ⟨fun a => absurd a n10, fun _ => vX10_layWays_294 (vX10_layWays_299 ?_)⟩)
          · rw [em]
            rcases hx with ⟨rfl, hlo⟩ | ⟨rfl, hsm⟩
            · refine ihi fa g j (nI 0) (by omega) H hM hL hj hX (Or.inl ⟨rfl, fun i' k' s' z1 z2 z3 => ?_⟩) hsum
              by_cases c : i' = i
              · subst c
                rw [hget] at z2
                simp only [Option.some.injEq] at z2
                subst z2
                rw [es] at z3
                simp only [Option.some.injEq] at z3
                subst z3
                exact hl
              · exact hlo i' k' s' (by omega) z2 z3
            · exact absurd a n10
          · rw [em]
            rcases hx with ⟨rfl, hlo⟩ | ⟨rfl, hsm⟩
            · exact absurd n00 a
            · exact ihi fa g j (nI 1) (by omega) H hM hL hj hX (Or.inr ⟨rfl, hsm⟩) hsum
          · rw [em]
            have := (sum_up hv fl).2 (List.getElem_mem (by omega))
            exact ihi (upN fa fl[i] v) _ j (nI 1) (by omega) H' (hM.lf fun q => by rw [uI_o (by decide)]) (hL.tr fun a q z => uI_d (by omega)) hj hX' (Or.inr ⟨rfl, by omega⟩) (by omega)
    rw [f1]
    exact sweep fl.length fa0 g1 j1 (nI 0) (Nat.le_refl _) H hM hL hj hX (Or.inl ⟨rfl, fun i' k s z1 z2 => by rw [List.getElem?_eq_none z1] at z2; cases z2⟩) hN
/-- all lifts from what is found are sought -/
theorem M_seekAll {K : Int32 → Rr → Gi → Gl → Prop} (hV : Vw n p b R Y r g0) (hs : sh < 3)
    (h : ∀ tb fl fa g j, BFI R Y sh g0 tb fl fa g j → (∀ k s, k < 8192 → tb k = some s → clS R Y sh tb s) → G (d + 3) 207 257 [(0, .ref 263), (3, .int (nI 1))] [] r g j (rkI K)) :
    ∀ q hd tb fl fa g j, hd + q = 3200 → hd ≤ fl.length → BFI R Y sh g0 tb fl fa g j → (∀ i k s, i < hd → fl[i]? = some k → tb k = some s → clS R Y sh tb s) → G (d + 3) 207 170 [(0, .ref 263), (3, .int (nI hd))] [] r g j (rkI K) := by
  have hc5 := ct5 (Y := Y) (sh := sh) hV.ro
  have hji : ∀ k k', k < ctC R Y sh → k' < ctC R Y sh → labK R Y sh k = labK R Y sh k' → k = k' := fun k k' h1 h2 h3 => lab_inj hV.ro hV.yo hs h1 h2 h3
  intro q
  induction q with
  | zero =>
    intro hd tb fl fa g j hq hl HB hcl
    have := HB.1.len hc5
    omega
  | succ q ih =>
    intro hd tb fl fa g j hq hl HB hcl
    have hlen := HB.1.len hc5
    by_cases hd1 : hd = fl.length
    · refine vX10_layWays_170 ⟨fun _ => h tb fl fa g j HB (fun k s hk es => ?_), fun a => absurd ?_ a⟩
      · obtain ⟨i, hi⟩ := List.getElem?_of_mem ((HB.1.2.2.2.2.1.2.2.2 k).mpr ⟨hk, by rw [es]; exact fun z => by cases z⟩)
        have hi2 : i < fl.length := by
          rw [← Nat.not_le]; intro z; rw [List.getElem?_eq_none z] at hi; cases hi
        exact hcl i k s (by omega) hi es
      · rw [HB.1.2.2.2.2.1.1, hd1]; exact Int32.le_refl _
    · have hdl : hd < fl.length := by omega
      have hget : fl[hd]? = some fl[hd] := List.getElem?_eq_getElem hdl
      generalize ek : fl[hd] = k at hget
      have hmem := (HB.1.2.2.2.2.1.2.2.2 k).mp (by rw [← ek]; exact List.getElem_mem hdl)
      cases es : tb k with
      | none => exact absurd es hmem.2
      | some s =>
        obtain ⟨e271, hC⟩ := HB.1.2.1 k s hmem.1 es
        refine vX10_layWays_170 ⟨fun a => ?_, fun _ => IX_l (by omega) ?_⟩
        · rw [HB.1.2.2.2.2.1.1] at a; exact absurd a (nI_ge hdl (by omega))
        rw [HB.1.2.2.2.2.1.2.1 hd k hget]
        refine IX_l hmem.1 ?_
        rw [e271]
        have loop : ∀ q2 f tb fl fa g j, f + q2 = 3 → hd < fl.length → fl[hd]? = some k → tb k = some s → BFI R Y sh g0 tb fl fa g j → (∀ i k s, i < hd → fl[i]? = some k → tb k = some s → clS R Y sh tb s) → (∀ f' t' k' s', f' < f → f' < 3 → t' ≤ 3 → cr_n (crF R Y sh) s f' t' = some (k', s') → ∃ q, q < 8192 ∧ tb q = some s') → G (d + 3) 207 194 [(0, .ref 263), (3, .int (nI hd)), (4, .long (lN (wyE (labK R Y sh) s))), (6, .int (nI f))] [] r g j (rkI K) := by
          intro q2
          induction q2 with
          | zero =>
            intro f tb fl fa g j hf hdl hget es HB hcl hd2
            have : f = 3 := by omega
            subst this
            refine vX10_layWays_194 ⟨fun _ => ?_, fun a => absurd (Int32.le_refl _) a⟩
            rw [nI_add]
            refine ih (hd + 1) tb fl fa g j (by omega) (by omega) HB (fun i k' s' z1 z2 z3 => ?_)
            by_cases c : i = hd
            · subst c
              rw [hget] at z2
              simp only [Option.some.injEq] at z2
              subst z2
              rw [es] at z3
              simp only [Option.some.injEq] at z3
              subst z3
              exact fun f t k' s' y1 y2 y3 => hd2 f t k' s' y1 y1 y2 y3
            · exact hcl i k' s' (by omega) z2 z3
          | succ q2 ih2 =>
            intro f tb fl fa g j hf hdl hget es HB hcl hd2
            have hf3 : f < 3 := by omega
            refine vX10_layWays_194 ⟨fun a => absurd a (nI_ge hf3 (by decide)), fun _ => ?_⟩
            have inner : ∀ q3 t tb fl fa g j, t + q3 = 4 → hd < fl.length → fl[hd]? = some k → tb k = some s → BFI R Y sh g0 tb fl fa g j → (∀ i k s, i < hd → fl[i]? = some k → tb k = some s → clS R Y sh tb s) → (∀ f' t' k' s', (f' < f ∨ (f' = f ∧ t' < t)) → f' < 3 → t' ≤ 3 → cr_n (crF R Y sh) s f' t' = some (k', s') → ∃ q, q < 8192 ∧ tb q = some s') → G (d + 3) 207 203 [(0, .ref 263), (3, .int (nI hd)), (4, .long (lN (wyE (labK R Y sh) s))), (6, .int (nI f)), (7, .int (nI t))] [] r g j (rkI K) := by
              intro q3
              induction q3 with
              | zero =>
                intro t tb fl fa g j ht hdl hget es HB hcl hd3
                have : t = 4 := by omega
                subst this
                refine vX10_layWays_203 ⟨fun _ => ?_, fun a => absurd (nI_lt (by decide) (by decide)) a⟩
                rw [nI_add]
                exact ih2 (f + 1) tb fl fa g j (by omega) hdl hget es HB hcl (fun f' t' k' s' z1 z2 z3 z4 => hd3 f' t' k' s' (by omega) z2 z3 z4)
              | succ q3 ih3 =>
                intro t tb fl fa g j ht hdl hget es HB hcl hd3
                have ht3 : t ≤ 3 := by omega
                obtain ⟨H, hM, hL, hj, ⟨q0, hq0, eq0⟩, hF⟩ := id HB
                refine vX10_layWays_203 ⟨fun a => absurd a (nI_nlt ht3 (by decide)), fun _ => M_lifted (hV.ag hL.ag) hs hM hC hf3 ht3 (fun k' s' hm => ⟨fun a => ?_, fun _ => ?_⟩) (fun hm => ⟨fun _ => vX10_layWays_237 ?_, fun a => absurd (lgz.mpr rfl) a⟩)⟩
                · exfalso
                  have l5' : ∀ t, t < 3 → (cr_g s' t).length ≤ 5 := fun t ht => by have := V_len (V_step hC hf3 ht3 hm) ht; omega
                  have hW' := wyE_lt (lb := labK R Y sh) labK4 l5'
                  rw [lgz] at a
                  have h1 : -(lN 1) < lN 0 := by decide +kernel
                  rw [← a, pk_lLT (by omega) (by decide)] at h1
                  omega
                · refine M_placeOf labK4 hji hc5 H (V_step hC hf3 ht3 hm) (fun k2 hk2 e2 => vX10_layWays_237 ?_) (fun k2 g2 j2 hk2 e2 hn2 H2 ho2 hj2 => vX10_layWays_237 ?_)
                  · rw [nI_add]
                    refine ih3 (t + 1) tb fl fa g j (by omega) hdl hget es HB hcl (fun f' t' k3 s3 z1 z2 z3 z4 => ?_)
                    by_cases c : f' = f ∧ t' = t
                    · obtain ⟨rfl, rfl⟩ := c
                      rw [hm] at z4
                      simp only [Option.some.injEq, Prod.mk.injEq] at z4
                      exact ⟨k2, hk2, by rw [← z4.2]; exact e2⟩
                    · exact hd3 f' t' k3 s3 (by omega) z2 z3 z4
                  · rw [nI_add]
                    have grow : ∀ q s, tb q = some s → upO tb k2 s' q = some s := fun q s z => by
                      rw [upO_o (fun c => by rw [c, e2] at z; cases z)]; exact z
                    have gl : ∀ i, i < fl.length → (fl ++ [k2])[i]? = fl[i]? := fun i hi => List.getElem?_append_left hi
                    refine ih3 (t + 1) (upO tb k2 s') (fl ++ [k2]) _ g2 j2 (by omega) (by rw [List.length_append]; omega) (by rw [gl hd hdl]; exact hget) (grow k s es) ⟨H2, hM.lf fun q => ho2 274 q (by omega), hL.tr fun a q z => ho2 a q (by omega), by rw [hj2 263 28 (by decide)]; exact hj, ⟨q0, hq0, grow q0 _ eq0⟩, fun k3 s3 hk3 e3 => ?_⟩ (fun i k3 s3 z1 z2 z3 => ?_) (fun f' t' k3 s3 z1 z2 z3 z4 => ?_)
                    · by_cases c : k3 = k2
                      · subst c
                        rw [upO_s] at e3
                        simp only [Option.some.injEq] at e3
                        subst e3
                        rw [upN_s]
                      · rw [upO_o c] at e3
                        rw [upN_o c]; exact hF k3 s3 hk3 e3
                    · rw [gl i (by omega)] at z2
                      have hm3 := (H.2.2.2.2.1.2.2.2 k3).mp (List.mem_of_getElem? z2)
                      have hne : k3 ≠ k2 := fun c => by rw [c] at hm3; exact hm3.2 e2
                      rw [upO_o hne] at z3
                      intro f t k4 s4 y1 y2 y3
                      obtain ⟨q, y4, y5⟩ := hcl i k3 s3 z1 z2 z3 f t k4 s4 y1 y2 y3
                      exact ⟨q, y4, grow q _ y5⟩
                    · by_cases c : f' = f ∧ t' = t
                      · obtain ⟨rfl, rfl⟩ := c
                        rw [hm] at z4
                        simp only [Option.some.injEq, Prod.mk.injEq] at z4
                        exact ⟨k2, hk2, by rw [← z4.2]; exact upO_s⟩
                      · obtain ⟨q, y4, y5⟩ := hd3 f' t' k3 s3 (by omega) z2 z3 z4
                        exact ⟨q, y4, grow q _ y5⟩
                · rw [nI_add]
                  refine ih3 (t + 1) tb fl fa g j (by omega) hdl hget es HB hcl (fun f' t' k3 s3 z1 z2 z3 z4 => ?_)
                  by_cases c : f' = f ∧ t' = t
                  · obtain ⟨rfl, rfl⟩ := c
                    rw [hm] at z4; cases z4
                  · exact hd3 f' t' k3 s3 (by omega) z2 z3 z4
            exact inner 4 0 tb fl fa g j (by decide) hdl hget es HB hcl (fun f' t' k' s' z1 z2 z3 z4 => hd2 f' t' k' s' (by omega) z2 z3 z4)
        exact loop 3 0 tb fl fa g j (by decide) hdl hget es HB hcl (fun f' t' k' s' z => by omega)
theorem M_layWays {K : Int32 → Rr → Gi → Gl → Prop} (hV : Vw n p b R Y r g) (hsh : sh < R 4)
    (h1 : ∀ tb fl fa g' j', SOL R Y sh tb fl fa g' j' → LF g g' → (∃ q, q < 8192 ∧ tb q = some (cr0 R Y sh) ∧ fa q < 1000000) → K (nI 1) r g' j') (h0 : ∀ g' j', LF g g' → (∀ l c, ¬ cr_q (crF R Y sh) (crE R Y sh) l c (cr0 R Y sh)) → K (nI 0) r g' j') : Cm (d + 4) 207 [.ref 263, .int (nI sh)] r g j (rkI K) := by
  have hb4 := hV.b4
  have r5 := hV.b5
  have hs : sh < 3 := by omega
  have hro := hV.ro
  have hyo := hV.yo
  have hc5 := ct5 (Y := Y) (sh := sh) hro
  have hV0 := V0 hro hyo hs
  have hji : ∀ k k', k < ctC R Y sh → k' < ctC R Y sh → labK R Y sh k = labK R Y sh k' → k = k' := fun k k' h1 h2 h3 => lab_inj hro hyo hs h1 h2 h3
  -- what lies where
  have stage : ∀ q t x2 S gg jj, t + q = 3 → LF g gg → gg 263 26 = nI 0 → gg 263 27 = nI (ccF Y sh t) → (∀ t' i', t' < t → t' < 3 → i' < Y (120 + (3 * sh + t')) → gg 274 (ccF Y sh t' + i') = nI (lyC Y (3 * sh + t') i')) → (∀ k, k < 8192 → jj 271 k = -(lN 1)) → jj 263 28 = lN (wyE (labK R Y sh) S) → S.1 = 0 → (∀ t', t' < 3 → cr_g S t' = stk (fun i => rkC R Y sh (lyC Y (3 * sh + t') i)) (if t' < t then Y (120 + (3 * sh + t')) else 0)) → (x2 = nI 0 ∨ (x2 = nI 1 ∧ cr_x (crF R Y sh) (cr0 R Y sh))) → G (d + 4) 207 43 [(0, .ref 263), (1, .int (nI sh)), (2, .int x2), (3, .int (nI t))] [] r gg jj (rkI K) := by
    intro q
    induction q with
    | zero =>
      intro t x2 S gg jj ht hL h26 h27 hm h271 h28 hS1 hS hx
      have : t = 3 := by omega
      subst this
      have eS : S = cr0 R Y sh := cr_ext hS1 fun i hi => by rw [hS i hi, if_pos hi, cr0_g hi]
      subst eS
      refine vX10_layWays_43 ⟨fun _ => ⟨fun a => ?_, fun a => ?_⟩, fun a => absurd (Int32.le_refl _) a⟩
      · have H0 : HT (labK R Y sh) (ctC R Y sh) (fun _ => none) [] (fun _ => 0) gg jj := ⟨fun k hk _ => h271 k hk, fun k s hk e => (by cases e), fun k k' s _ _ e => (by cases e), fun k s hk e => (by cases e), ⟨h26, fun i k e => by simp at e, List.nodup_nil, fun k => ⟨fun e => (by cases e), fun e => absurd rfl e.2⟩⟩, fun k hk e => absurd rfl e⟩
        have hM : MnI Y sh gg := fun t i z1 z2 => hm t i z1 z1 z2
        rw [h28]
        refine M_placeOf labK4 hji hc5 H0 hV0 (fun k hk e => by cases e) (fun k g2 j2 hk e hn H2 ho2 hj2 => ?_)
        have HB : BFI R Y sh g (upO (fun _ => none) k (cr0 R Y sh)) ([] ++ [k]) (upN (fun _ => 0) k (if wyE (labK R Y sh) (cr0 R Y sh) = 0 then 0 else 1000000)) g2 j2 := ⟨H2, hM.lf fun q => ho2 274 q (by omega), hL.tr fun a q z => ho2 a q (by omega), by rw [hj2 263 28 (by decide)]; exact h28, ⟨k, hk, upO_s⟩, fun k3 s3 hk3 e3 => by
          by_cases c : k3 = k
          · subst c
            rw [upO_s] at e3
            simp only [Option.some.injEq] at e3
            subst e3
            rw [upN_s]
          · rw [upO_o c] at e3; cases e3⟩
        refine M_seekAll (d := d + 1) (g0 := g) hV hs (fun tb fl fa g3 j3 HB3 hcl => ?_) 3200 0 _ _ _ g2 j2 (by decide) (Nat.zero_le _) HB (fun i k s z => by omega)
        obtain ⟨H3, hM3, hL3, hj3, hq3, hF3⟩ := HB3
        refine M_relax hV hs hcl hq3 (fun fa g j S hl hq => h1 tb fl fa g j S hl hq) h0 _ fa g3 j3 (Nat.le_refl _) H3 hM3 hL3 hj3 (fun k s hk es => ⟨fun z => ?_, fun z => ?_⟩)
        · rw [hF3 k s hk es] at z ⊢
          by_cases c : wyE (labK R Y sh) s = 0
          · rw [if_pos c]; exact ⟨0, rfl, wyE_z.mp c⟩
          · rw [if_neg c] at z; omega
        · rw [hF3 k s hk es, if_pos (wyE_z.mpr z)]
      · rcases hx with rfl | ⟨rfl, hx⟩
        · exact absurd n00 a
        · exact ⟨bo0, h0 gg jj hL (fun l c => X_no l c _ hV0 hx)⟩
    | succ q ih =>
      intro t x2 S gg jj ht hL h26 h27 hm h271 h28 hS1 hS hx
      have ht3 : t < 3 := by omega
      have hh := hyo.h5 (3 * sh + t) (by omega)
      refine vX10_layWays_43 ⟨fun a => absurd a (nI_ge ht3 (by decide)), fun _ => ?_⟩
      have inner : ∀ q2 i x2 S gg jj, i + q2 = Y (120 + (3 * sh + t)) → LF g gg → gg 263 26 = nI 0 → gg 263 27 = nI (ccF Y sh t + i) → (∀ t' i', (t' < t ∨ (t' = t ∧ i' < i)) → t' < 3 → i' < Y (120 + (3 * sh + t')) → gg 274 (ccF Y sh t' + i') = nI (lyC Y (3 * sh + t') i')) → (∀ k, k < 8192 → jj 271 k = -(lN 1)) → jj 263 28 = lN (wyE (labK R Y sh) S) → S.1 = 0 → (∀ t', t' < 3 → cr_g S t' = stk (fun i => rkC R Y sh (lyC Y (3 * sh + t') i)) (if t' < t then Y (120 + (3 * sh + t')) else if t' = t then i else 0)) → (x2 = nI 0 ∨ (x2 = nI 1 ∧ cr_x (crF R Y sh) (cr0 R Y sh))) → G (d + 4) 207 51 [(0, .ref 263), (1, .int (nI sh)), (2, .int x2), (3, .int (nI t)), (4, .int (nI i))] [] r gg jj (rkI K) := by
        intro q2
        induction q2 with
        | zero =>
          intro i x2 S gg jj hi hL h26 h27 hm h271 h28 hS1 hS hx
          have : i = Y (120 + (3 * sh + t)) := by omega
          subst this
          refine vX10_layWays_51 (M_highOf (hV.ag hL.ag) hs ht3 ⟨fun _ => ?_, fun a => absurd (Int32.le_refl _) a⟩)
          rw [nI_add]
          refine ih (t + 1) x2 S gg jj (by omega) hL h26 h27 (fun t' i' z1 z2 z3 => hm t' i' ?_ z2 z3) h271 h28 hS1 (fun t' z => ?_) hx
          · rcases Nat.lt_or_ge t' t with c | c
            · exact Or.inl c
            · have : t' = t := by omega
              subst this
              exact Or.inr ⟨rfl, z3⟩
          · rw [hS t' z]
            congr 1
            by_cases c : t' < t
            · rw [if_pos c, if_pos (by omega)]
            · rw [if_neg c]
              by_cases c2 : t' = t
              · subst c2; rw [if_pos rfl, if_pos (by omega)]
              · rw [if_neg c2, if_neg (by omega)]
        | succ q2 ih2 =>
          intro i x2 S gg jj hi hL h26 h27 hm h271 h28 hS1 hS hx
          have hiY : i < Y (120 + (3 * sh + t)) := by omega
          have ho := ly_on hyo hs ht3 hiY
          have yo8 := hyo.2.2.2.2.2.2.2.1 _ ho.1
          have hn := hV.nn
          have hcc := cc_lt hyo hs ht3 hiY
          have elb := lab_at hro hyo hs ht3 hiY
          have hVg := hV.ag hL.ag
          have eSt : cr_g S t = stk (fun i => rkC R Y sh (lyC Y (3 * sh + t) i)) i := by rw [hS t ht3, if_neg (by omega), if_pos rfl]
          have l5 : ∀ t', t' < 3 → (cr_g S t').length ≤ 5 := by
            intro t' z
            have := hyo.h5 (3 * sh + t') (by omega)
            rw [hS t' z, stk_len]
            by_cases c : t' < t
            · rw [if_pos c]; omega
            · rw [if_neg c]
              by_cases c2 : t' = t
              · rw [if_pos c2]; omega
              · rw [if_neg c2]; omega
          have eo := orL (lb := labK R Y sh) labK4 l5 (rkC R Y sh (lyC Y (3 * sh + t) i)) ht3 (by rw [eSt, stk_len]; omega)
          rw [elb, eSt, stk_len] at eo
          -- the next place
          have next : ∀ x2', (x2' = nI 0 ∨ (x2' = nI 1 ∧ cr_x (crF R Y sh) (cr0 R Y sh))) → G (d + 4) 207 140 [(0, .ref 263), (1, .int (nI sh)), (3, .int (nI t)), (4, .int (nI i))] [.int x2'] r (uI (uI gg 274 (ccF Y sh t + i) (nI (lyC Y (3 * sh + t) i))) 263 27 (nI (ccF Y sh t + i + 1))) (uJ jj 263 28 (lN (wyE (labK R Y sh) (cr_p S t (rkC R Y sh (lyC Y (3 * sh + t) i) :: stk (fun i => rkC R Y sh (lyC Y (3 * sh + t) i)) i))))) (rkI K) := by
            intro x2' hx'
            refine vX10_layWays_140 ?_
            rw [nI_add]
            refine ih2 (i + 1) x2' (cr_p S t (rkC R Y sh (lyC Y (3 * sh + t) i) :: stk (fun i => rkC R Y sh (lyC Y (3 * sh + t) i)) i)) _ _ (by omega) (hL.tr fun a q z => ?_) ?_ uI_s (fun t' i' z1 z2 z3 => ?_) (fun k hk => ?_) uJ_s (by rw [cr_p1]; exact hS1) (fun t' z => ?_) hx'
            · rw [uI_d (by omega), uI_o (by omega)]
            · rw [uI_n (by decide), uI_o (by decide)]; exact h26
            · rw [uI_o (by decide)]
              by_cases c : t' = t ∧ i' = i
              · obtain ⟨rfl, rfl⟩ := c
                rw [uI_s]
              · have hne : ccF Y sh t' + i' ≠ ccF Y sh t + i := by
                  rcases Nat.lt_or_ge t' t with c2 | c2
                  · have a : ccF Y sh (t' + 1) ≤ ccF Y sh t := cc_mono (by omega)
                    have c : ccF Y sh (t' + 1) = ccF Y sh t' + Y (120 + (3 * sh + t')) := rfl
                    omega
                  · have : t' = t := by omega
                    subst this
                    omega
                rw [uI_n hne]; exact hm t' i' (by omega) z2 z3
            · rw [uJ_o (by decide)]; exact h271 k hk
            · by_cases c : t' = t
              · subst c
                rw [cr_gs z, if_neg (by omega), if_pos rfl]; rfl
              · rw [cr_go ht3 z c, hS t' z]
                congr 1
                by_cases c2 : t' < t
                · rw [if_pos c2, if_pos c2]
                · rw [if_neg c2, if_neg c2, if_neg c, if_neg c]
          refine vX10_layWays_51 (M_highOf hVg hs ht3 ⟨fun a => absurd a (nI_ge hiY (by omega)), fun _ => M_lyingAt hVg hs ht3 hiY ?_⟩)
          rw [show Y (75 + 5 * (3 * sh + t) + i) - 1 = lyC Y (3 * sh + t) i from rfl]
          refine IX_e h27 (by omega) ?_
          rw [h27, h28, eo, nI_add (ccF Y sh t + i) 1]
          rcases hx with rfl | ⟨rfl, hx⟩
          · refine ⟨fun _ => IX_e (q := 30 + lyC Y (3 * sh + t) i) (nI_add 30 _) (by omega) ?_, fun a => absurd n00 a⟩
            rw [hVg.ms (by omega), yo8.2.2.1]
            refine ⟨fun a => vX10_layWays_135 (next (nI 1) (Or.inr ⟨rfl, (cr_x0 hro hyo hs).mpr ⟨t, i, ht3, hiY, ?_⟩⟩)), fun a => next (nI 0) (Or.inl rfl)⟩
            have : R (21 + 5 * lyC Y (3 * sh + t) i) = 2 ∧ 2 ≤ Y (15 + lyC Y (3 * sh + t) i) := by
              apply Classical.byContradiction
              intro z
              rw [if_neg z] at a
              exact absurd a (by decide +kernel)
            exact ⟨this.1, Or.inl (by omega)⟩
          · exact ⟨fun a => absurd a n10, fun _ => vX10_layWays_135 (next (nI 1) (Or.inr ⟨rfl, hx⟩))⟩
      refine inner (Y (120 + (3 * sh + t))) 0 x2 S gg jj (by omega) hL h26 h27 (fun t' i' z1 z2 z3 => hm t' i' (by omega) z2 z3) h271 h28 hS1 (fun t' z => ?_) hx
      rw [hS t' z]
      congr 1
      by_cases c : t' < t
      · rw [if_pos c, if_pos c]
      · rw [if_neg c, if_neg c]
        by_cases c2 : t' = t
        · rw [if_pos c2]
        · rw [if_neg c2]
  have clear : ∀ q m jj, m + q = 8192 → (∀ k, k < m → jj 271 k = -(lN 1)) → G (d + 4) 207 2 [(0, .ref 263), (1, .int (nI sh)), (2, .int (nI m))] [] r g jj (rkI K) := by
    intro q
    induction q with
    | zero =>
      intro m jj hm h271
      have : m = 8192 := by omega
      subst this
      refine vX10_layWays_2 ⟨fun _ => ?_, fun a => absurd (Int32.le_refl _) a⟩
      refine stage 3 0 (nI 0) (0, [], [], []) _ _ (by decide) (fun a q z => ?_) ?_ uI_s (fun t' i' z => by omega) (fun k hk => by rw [uJ_o (by decide)]; exact h271 k hk) uJ_s rfl (fun t' z => ?_) (Or.inl rfl)
      · rw [uI_d (by omega), uI_d (by omega)]
      · rw [uI_n (by decide), uI_s]
      · rw [if_neg (by omega)]
        rcases i3 z with rfl | rfl | rfl <;> rfl
    | succ q ih =>
      intro m jj hm h271
      refine vX10_layWays_2 ⟨fun a => absurd a (nI_ge (by omega) (by omega)), fun _ => IX_l (by omega) ?_⟩
      rw [nI_add]
      refine ih (m + 1) _ (by omega) (fun k hk => ?_)
      by_cases c : k = m
      · subst c; exact uJ_s
      · rw [uJ_n c]; exact h271 k (by omega)
  exact vX10_layWays_0 (clear 8192 0 j (by decide) (fun k z => by omega))
end
