/-! what holds at the law's entry; the law from its entry to its end -/
section
variable {s : State} {b : Nat}
theorem hw_at (hts : ∀ w ∈ lw_tbl, w.before #[Value.ref b] s = true) {i : Nat} {w : Cond} (h : wordAt i = some w) : w.before #[Value.ref b] s = true := hts w (wordAt_in h)
theorem fl_at {i : Nat} {w : Cond} (hg : (Jvm.Cond.and given_1 narrow_1).before #[Value.ref b] s = true) (h : flN[i]? = some w) : w.before #[Value.ref b] s = true := flat_of_before _ hg w (List.mem_of_getElem? h)
theorem lx_start (hts : ∀ w ∈ lw_tbl, w.before #[Value.ref b] s = true) : ∀ w ∈ lxW, w.before #[Value.ref b] s = true := by
  intro w hw
  obtain ⟨y, hy⟩ := zip_all lx_ok.1 lx_ok.2 w hw
  exact hw_at hts (of_decide_eq_true hy)
theorem ka_start (hts : ∀ w ∈ lw_tbl, w.before #[Value.ref b] s = true) : KA s := by
  obtain ⟨-, -, -, -, a5, a6, a7, a8⟩ := aw_ok
  refine ⟨⟨va_AO.of (hw_at hts a5), va_AO.of (hw_at hts a6), va_AO.of (hw_at hts a7), hw_at hts a8⟩, fun q hq => ?_⟩
  obtain ⟨y, hy⟩ := zip_all ns_ok.1 ns_ok.2 q hq
  exact va_Nw.of rfl (hw_at hts (of_decide_eq_true hy))
theorem arr_p (hts : ∀ w ∈ lw_tbl, w.before #[Value.ref b] s = true) {i : Nat} {ty : FieldType} (h : wordAt i = some (.arrayClass ty)) (hn : ∀ C, ty ≠ .object C) : ∃ cA, ArrOfT s cA ty ∧ va_RA s cA ty := by
  obtain ⟨cA, kA, comp, h1, h2, h3⟩ := Cond.arrayClass_spec (hw_at hts h)
  refine ⟨cA, fun N z => ⟨(fun k h => by cases h), kA, h2, comp, h3⟩, ?_⟩
  unfold va_RA
  split
  · next C => exact absurd rfl (hn C)
  · exact h1
theorem arr_o (hts : ∀ w ∈ lw_tbl, w.before #[Value.ref b] s = true) {i : Nat} {C : String} (h : wordAt i = some (.arrayOver (.object C))) : ∃ cA, ArrOfT s cA (.object C) ∧ va_RA s cA (.object C) := by
  obtain ⟨comp, cA, kA, h1, -, h2, h3, h4⟩ := Cond.arrayOver_spec (hw_at hts h)
  exact ⟨cA, fun N z => ⟨(fun k h => by cases h), kA, h2, comp, h3⟩, kA, comp, h2, h3, h1, h4⟩
theorem arr_start (hts : ∀ w ∈ lw_tbl, w.before #[Value.ref b] s = true) : ∀ t : Nat, ∃ cA : ClassId, t < 8 → ArrOfT s cA (aT t) ∧ va_RA s cA (aT t) := by
  obtain ⟨a1, a2, a3, a4, a5, a6, a7, a8⟩ := aw_ok
  intro t
  match t with
  | 0 => obtain ⟨cA, h⟩ := arr_p hts a1 (fun C h => by cases h); exact ⟨cA, fun _ => h⟩
  | 1 => obtain ⟨cA, h⟩ := arr_p hts a2 (fun C h => by cases h); exact ⟨cA, fun _ => h⟩
  | 2 => obtain ⟨cA, h⟩ := arr_p hts a3 (fun C h => by cases h); exact ⟨cA, fun _ => h⟩
  | 3 => obtain ⟨cA, h⟩ := arr_p hts a4 (fun C h => by cases h); exact ⟨cA, fun _ => h⟩
  | 4 => obtain ⟨cA, h⟩ := arr_o hts a5; exact ⟨cA, fun _ => h⟩
  | 5 => obtain ⟨cA, h⟩ := arr_o hts a6; exact ⟨cA, fun _ => h⟩
  | 6 => obtain ⟨cA, h⟩ := arr_o hts a7; exact ⟨cA, fun _ => h⟩
  | 7 =>
    obtain ⟨comp, cA, kA, h1, -, h2, h3, h4⟩ := arrayOverA_spec (hw_at hts a8)
    exact ⟨cA, fun _ => ⟨fun N z => ⟨(fun k h => by cases h), kA, h2, comp, h3⟩, h4⟩⟩
  | t + 8 => exact ⟨0, fun h => absurd h (by omega)⟩
theorem GT_in (hts : ∀ w ∈ lw_tbl, w.before #[Value.ref b] s = true) : ∀ w ∈ TS 0, w.before #[Value.ref b] s = true := by
  intro w h
  have h2 : w ∈ GT := by
    rcases List.mem_cons.mp h with rfl | h
    · exact mcw_in (by decide)
    · exact h
  exact hts w (List.mem_filter.mp h2).1
theorem kn_start (hts : ∀ w ∈ lw_tbl, w.before #[Value.ref b] s = true) : ∀ ci : Nat, ∃ q : ClassId × (Nat → Nat), ci < 11 → u_Kn s (Rn ci) (Tn ci) (nf ci) q.1 q.2 := by
  intro ci
  rcases Nat.lt_or_ge ci 11 with h | h
  · have hi := of_decide_eq_true (List.all_eq_true.mp ins_ok ci (List.mem_range.mpr h))
    obtain ⟨cC, iS, hk⟩ := u_known (GT_in hts) (ly_in (mi := 0) h) (hw_at hts hi)
    exact ⟨(cC, iS), fun _ => hk⟩
  · exact ⟨(0, fun _ => 0), fun z => absurd z (by omega)⟩
theorem str_start (hg : (Jvm.Cond.and given_1 narrow_1).before #[Value.ref b] s = true) : ∀ i : Nat, ∃ q : Nat × Nat, i < 25 → (tmS i).eval #[Value.ref b] s none [] s = some (.ref q.1) ∧
    va_O "java/lang/String" q.1 (AB s.heap.size) s s.heap ∧ va_OF "java/lang/String" "coder" "B" (.int 0) q.1 (AB s.heap.size) s s.heap ∧ va_OF "java/lang/String" "value" "[B" (.ref q.2) q.1 (AB s.heap.size) s s.heap ∧ va_T .byte q.2 (slen.getD i 0) (fun j => .int ((sbyt.getD i []).getD j 0)) (AB s.heap.size) s s.heap := by
  intro i
  have hA : ∀ a : Nat, a < s.heap.size → ¬ AB s.heap.size a := fun a h z => absurd h (Nat.not_lt.mpr z)
  have hl : ∀ i, i < 25 → slen.getD i 0 < 2 ^ 31 := by decide +kernel
  rcases Nat.lt_or_ge i 25 with h | h
  · have hf : ∀ w ∈ tzW i, w.before #[Value.ref b] s = true := fun w hw => flat_of_before _ hg w (st_in' h hw)
    have h1 := hf (.exactly (tmS i) "java/lang/String") (by unfold tzW; simp)
    have h2 := hf (.eq (.field (tmS i) "java/lang/String" "coder" "B") (.int 0)) (by unfold tzW; simp)
    have h3 := hf (.arrayOf (tmV i) .byte) (by unfold tzW; simp)
    have h4 := hf (.eq (.length (tmV i)) (.int (Int32.ofNat (slen.getD i 0)))) (by unfold tzW; simp)
    have h5 : ∀ j, j < slen.getD i 0 → (Cond.eq (.elem (tmV i) (.int (Int32.ofNat j))) (.int ((sbyt.getD i []).getD j 0))).before #[Value.ref b] s = true := fun j hj => hf _ (by
      unfold tzW
      exact List.mem_append_right _ (List.mem_map.mpr ⟨j, List.mem_range.mpr hj, rfl⟩))
    obtain ⟨a, cc, cA, kA, q1, q2, q3, q4, q5, q6, -⟩ := Cond.exactly_spec (args := #[Value.ref b]) (first := s) (o := none) (s := s) (idx := []) (t := tmS i) (cls := "java/lang/String") h1
    obtain ⟨t, ht, hT⟩ := va_Tof (f := fun j => .int ((sbyt.getD i []).getD j 0)) (A := AB s.heap.size) (hl i h) h3 (va_eqt h4) (fun j hj => va_eqt (h5 j hj)) hA
    exact ⟨(a, t), fun _ => ⟨q1, va_Oof h1 q1 hA, vk_OFof q1 (va_eqt h2) hA, vk_OFof q1 ht hA, hT⟩⟩
  · exact ⟨(0, 0), fun z => absurd z (by omega)⟩
theorem sz_start (hts : ∀ w ∈ lw_tbl, w.before #[Value.ref b] s = true) (hg : (Jvm.Cond.and given_1 narrow_1).before #[Value.ref b] s = true) (z1 : wordAt 3034 = some (.laysStatic "java/lang/String" "COMPACT_STRINGS" "Z")) (z2 : wordAt 3050 = some (.laysStatic "jdk/internal/util/Preconditions" "SIOOBE_FORMATTER" "Ljava/util/function/BiFunction;")) : SZ s.heap.size s s.heap := by
  have hA : ∀ a : Nat, a < s.heap.size → ¬ AB s.heap.size a := fun a h z => absurd h (Nat.not_lt.mpr z)
  obtain ⟨n1, n2, n3, n4, n5⟩ := nz_ok
  obtain ⟨w1, w2, w3, w4, w5, w6⟩ := zw_ok
  obtain ⟨a, cc, cA, kA, q1, -⟩ := Cond.exactly_spec (args := #[Value.ref b]) (first := s) (o := none) (s := s) (idx := []) (t := .string RX9 355) (cls := "java/lang/String") (fl_at hg n5)
  exact ⟨va_Zof (hw_at hts z1) (hw_at hts w4) (va_eqt (fl_at hg n1)) hA, va_Zqof (hw_at hts z2) (hw_at hts w5) (fl_at hg n2) hA, va_Zqof (hw_at hts w1) (hw_at hts w3) (fl_at hg n3) hA, va_Zqof (hw_at hts w2) (hw_at hts w3) (fl_at hg n4) hA, a, vk_R.of (hw_at hts w6) q1⟩
set_option maxRecDepth 1000000 in
theorem zz_ok : wordAt 3034 = some (.laysStatic "java/lang/String" "COMPACT_STRINGS" "Z") ∧ wordAt 3050 = some (.laysStatic "jdk/internal/util/Preconditions" "SIOOBE_FORMATTER" "Ljava/util/function/BiFunction;") := by and_intros <;> decide +kernel
theorem kw_start (hts : ∀ w ∈ lw_tbl, w.before #[Value.ref b] s = true) (hg : (Jvm.Cond.and given_1 narrow_1).before #[Value.ref b] s = true) : ∃ (D : va_G) (CA : Nat → ClassId) (sa sv : Nat → Nat), Kw D CA s.heap.size sa sv s s.heap := by
  obtain ⟨fd, hd⟩ := Classical.axiomOfChoice (kn_start hts)
  obtain ⟨fa, ha⟩ := Classical.axiomOfChoice (arr_start hts)
  obtain ⟨fs, hs⟩ := Classical.axiomOfChoice (str_start hg)
  refine ⟨(fun ci => (fd ci).1, fun ci => (fd ci).2), fa, fun i => (fs i).1, fun i => (fs i).2, hd, ha, ⟨fun i hi => (hs i hi).2, sz_start hts hg zz_ok.1 zz_ok.2⟩, fun oc q hq => ?_⟩
  rcases Nat.lt_or_ge oc 12 with h | h
  · have hc := List.all_eq_true.mp (List.all_eq_true.mp cs_ok oc (List.mem_range.mpr h)) q hq
    simp only [Bool.and_eq_true, Bool.or_eq_true, decide_eq_true_eq] at hc
    obtain ⟨h1, h2⟩ := hc
    have hq25 := csT_lt q hq
    have he := (hs q.2.1 hq25).1
    refine vk_R.of (hw_at hts h1) ?_
    rcases h2 with ⟨h2, h3⟩ | ⟨h2, h3⟩
    · rw [h2, h3]; exact he
    · rw [h2, h3]
      have e1 := fl_at hg (of_decide_eq_true (List.all_eq_true.mp eq_ok q.2.1 (List.mem_range.mpr hq25)))
      obtain ⟨w, e2, e3⟩ := Cond.eq_one (show (Cond.eq (tmS q.2.1) (.string RX10 (moL.getD q.2.1 0))).holds #[Value.ref b] s none s [] = true from e1)
      cases Option.some.inj (he.symm.trans e2)
      exact e3
  · have : csTL[oc]? = none := List.getElem?_eq_none (by show 12 ≤ oc; exact h)
    rw [this] at hq
    simp at hq
end
