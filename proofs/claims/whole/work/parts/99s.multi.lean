/-! new int[5][5], out of Jvm/Op/multianewarray.lean itself. Made in start 8: the loop is taken by an invariant (Gr: i rows stand) that bears the walk's own Stand; which state it ends in is read off the run, so no state is written out -/
section
variable {E : CtlPost} {e : Env} {dd : Bool} {acts : List Action}
/-- one row -/
theorem mk_row {S : State} {cI cz : ClassId} {kI : Class} (hk : S.vm.classes[cI]? = some kI) (hI : kI.kind = .array cz .int) (l1 : ¬ 5 > e.platform.arrayLengthLimit) (l2 : ¬ 5 * componentBytes .int > e.platform.maxHeapBytes) (l3 : S.heap.size < e.platform.maxCells) (l4 : S.slotsUsed + 5 ≤ e.platform.maxSlots)
    {Q1 : Addr → Pre} (hq : ∀ a1, Q1 S.heap.size dd a1 (S.pushCell (arrV cI 5 (fun _ => .int 0)))) : wp (Jvm.Op.multianewarray.make cI [5]) Q1 E e dd acts S := by
  have h5 : ¬ ((5 : Int32) < 0) := by decide
  have h6 : (5 : Int32).toNatClampNeg = 5 := by decide
  rw [Jvm.Op.multianewarray.make]
  simp only [h5, if_false, wp_bind', wp_pure', Jvm.W.theClass, hk, Option.some.injEq, exists_eq_left', hI, h6]
  refine Jvm.W.newArray_of (howMany := 5) (init := defaultValue .int) hk hI l1 l2 l3 l4 rfl (fun a1 => ?_)
  have h7 := hq a1
  rw [← arrV_new] at h7
  exact h7
end
section
variable {p : Program} {l : Launch} {e : Env} {R : Room} {s : State} {m : MethodId} {args : Array Value} {below : List Frame} {meth : Method} {c : Code}
/-- i rows stand, and lie in the outer array at the old heap's end -/
def Gr (p : Program) (l : Launch) (e : Env) (R : Room) (s : State) (m : MethodId) (args : Array Value) (below : List Frame) (meth : Method) (c : Code) (locs : List Loc) (cells slots : Nat) (H : Heap) (v1 : Vm) (cA cI : ClassId) (i : Nat) (S : State) : Prop :=
  ∃ (L : List Loc) (w : Nat → Value), Stand p l e R s m args below meth c S (locs ++ L) (cells + 1 + i) (slots + 5 + 5 * i) ∧ S.vm = v1 ∧ S.heap.size = H.size + 1 + i ∧ (∀ q : Nat, q < H.size → S.heap[q]? = H[q]?) ∧
    S.heap[H.size]? = some (arrV cA 5 w) ∧ (∀ j : Nat, j < i → w j = .ref (H.size + 1 + j)) ∧ (∀ j : Nat, j < i → S.heap[H.size + 1 + j]? = some (arrV cI 5 (fun _ => .int 0))) ∧ ∀ q ∈ L, q.base = H.size
variable {locs : List Loc} {cells slots : Nat} {H : Heap} {v1 : Vm} {cA cI cz : ClassId} {kA kI : Class} {E : CtlPost} {dd : Bool} {acts : List Action}
theorem gr_next (hkA : v1.classes[cA]? = some kA) (hA : kA.kind = .array cI (.array .int)) (hkI : v1.classes[cI]? = some kI) (hI : kI.kind = .array cz .int) (hc : cells + 6 ≤ R.cells) (hs : slots + 30 ≤ R.slots) {i : Nat} (hi : i < 5) {S : State} {fr : JFrame}
    (hG : Gr p l e R s m args below meth c locs cells slots H v1 cA cI i S) {Q1 : Unit → Pre} (hq : ∀ S1 d1 a1, Gr p l e R s m args below meth c locs cells slots H v1 cA cI (i + 1) S1 → Q1 () d1 a1 (S1.setTop fr)) :
    wp (Jvm.Op.multianewarray.make cI [5] >>= fun r => Jvm.writeLoc H.size i (.ref r)) Q1 E e dd acts (S.setTop fr) := by
  obtain ⟨L, w, X, hv, hz, ho, hh, hw, hr, hL⟩ := hG
  obtain ⟨r1, r2⟩ := X.roomAbove (a := 1) (b := 5) (by omega) (by omega)
  have l1 : ¬ 5 > e.platform.arrayLengthLimit := by rw [Launch.admits_arrayLengthLimit X.admits]; omega
  have l2 : ¬ 5 * componentBytes .int > e.platform.maxHeapBytes := by rw [Launch.admits_maxHeapBytes X.admits]; show ¬ 5 * 4 > 536870912; omega
  rw [wp_bind']
  refine mk_row (S := S.setTop fr) (kI := kI) (cz := cz) (by show S.vm.classes[cI]? = _; rw [hv]; exact hkI) hI l1 l2 r1 r2 (fun a1 => ?_)
  have hne : H.size ≠ S.heap.size := by omega
  have X1 := X.pushed (arrV cI 5 (fun _ => .int 0))
  have hh1 : (S.pushCell (arrV cI 5 (fun _ => .int 0))).heap[H.size]? = some (arrV cA 5 w) := by
    show (S.heap.push _)[H.size]? = _
    rw [Array.getElem?_push, if_neg hne]; exact hh
  have X2 := X1.stored hh1 i (.ref S.heap.size)
  have hlt : H.size < (S.pushCell (arrV cI 5 (fun _ => .int 0))).heap.size := (Array.getElem?_eq_some_iff.mp hh1).1
  rw [Jvm.W.writeLoc]
  refine ⟨arrV cA 5 w, hh1, (fun h => by cases h), by rw [arrV_size]; exact hi, ?_, ?_⟩
  · show S.fitsSlot cA .none i (.ref S.heap.size) = true
    simp [State.fitsSlot, State.slotType?, hv, hkA, hA]
    try rfl
  · show Q1 () _ _ (((S.pushCell (arrV cI 5 (fun _ => .int 0))).setCell H.size ((arrV cA 5 w).setSlot i (.ref S.heap.size))).setTop fr)
    refine hq _ _ _ ⟨L ++ [⟨H.size, i⟩], updV w i (.ref S.heap.size), ?_, hv, ?_, ?_, ?_, ?_, ?_, ?_⟩
    · rw [arrV_size] at X2
      have e1 : cells + 1 + i + 1 = cells + 1 + (i + 1) := by omega
      have e2 : slots + 5 + 5 * i + 5 = slots + 5 + 5 * (i + 1) := by omega
      rw [e1, e2, List.append_assoc] at X2
      exact X2
    · show ((S.heap.push _).setIfInBounds _ _).size = _
      rw [Array.size_setIfInBounds, Array.size_push, hz]; omega
    · intro q hqq
      rw [heapAt_setCell_ne _ (Nat.ne_of_gt hqq)]
      show (S.heap.push _)[q]? = _
      rw [Array.getElem?_push, if_neg (by omega)]
      exact ho q hqq
    · rw [heapAt_setCell_self _ hlt, arrV_store]
    · intro j hj
      by_cases hji : j = i
      · subst hji; rw [updV, if_pos rfl, hz]
      · rw [updV, if_neg hji]; exact hw j (by omega)
    · intro j hj
      have hn1 : H.size ≠ H.size + 1 + j := by omega
      rw [heapAt_setCell_ne _ hn1]
      show (S.heap.push _)[H.size + 1 + j]? = _
      by_cases hji : j = i
      · subst hji; rw [Array.getElem?_push, if_pos hz.symm]
      · rw [Array.getElem?_push, if_neg (by omega)]; exact hr j (by omega)
    · intro q hqq
      rcases List.mem_append.mp hqq with h | h
      · exact hL q h
      · rw [List.mem_singleton] at h; rw [h]
/-- all of them, from the state in which the pool's entry is resolved -/
theorem gr_all (hkA : v1.classes[cA]? = some kA) (hA : kA.kind = .array cI (.array .int)) (hkI : v1.classes[cI]? = some kI) (hI : kI.kind = .array cz .int) (hc : cells + 6 ≤ R.cells) (hs : slots + 30 ≤ R.slots) {T : State} {fr : JFrame}
    (X : Stand p l e R s m args below meth c T locs cells slots) (hv : T.vm = v1) {Q1 : Addr → Pre} (hq : ∀ S1 d1 a1, Gr p l e R s m args below meth c locs cells slots T.heap v1 cA cI 5 S1 → Q1 T.heap.size d1 a1 (S1.setTop fr)) :
    wp (Jvm.Op.multianewarray.make cA [5, 5]) Q1 E e dd acts (T.setTop fr) := by
  have h5 : ¬ ((5 : Int32) < 0) := by decide
  have h6 : (5 : Int32).toNatClampNeg = 5 := by decide
  have h7 : ((5 : Int32) == 0) = false := by decide
  obtain ⟨r1, r2⟩ := X.roomAbove (a := 1) (b := 5) (by omega) (by omega)
  have l1 : ¬ 5 > e.platform.arrayLengthLimit := by rw [Launch.admits_arrayLengthLimit X.admits]; omega
  have l2 : ¬ 5 * componentBytes (.array .int) > e.platform.maxHeapBytes := by rw [Launch.admits_maxHeapBytes X.admits]; show ¬ 5 * 4 > 536870912; omega
  have hk : (T.setTop fr).vm.classes[cA]? = some kA := by show T.vm.classes[cA]? = _; rw [hv]; exact hkA
  rw [Jvm.Op.multianewarray.make]
  simp only [h5, if_false, wp_bind', wp_pure', Jvm.W.theClass, hk, Option.some.injEq, exists_eq_left', hA, h6, h7, Bool.false_eq_true]
  refine Jvm.W.newArray_of (howMany := 5) (init := .null) hk hA l1 l2 r1 r2 rfl (fun a1 => ?_)
  rw [wp_bind', Std.Legacy.Range.forIn_eq_forIn_range']
  refine wp_forIn_inv (fun xs S => ∃ i S0, xs = List.range' i (5 - i) ∧ i ≤ 5 ∧ S = S0.setTop fr ∧ Gr p l e R s m args below meth c locs cells slots T.heap v1 cA cI i S0) _ _ ?_ ?_ ?_
  · refine ⟨0, T.pushCell (arrV cA 5 (fun _ => .null)), rfl, by omega, ?_, [], fun _ => .null, ?_, hv, ?_, ?_, ?_, ?_, ?_, ?_⟩
    · rw [← arrV_new]; rfl
    · have X1 := X.pushed (arrV cA 5 (fun _ => .null))
      rw [arrV_size] at X1
      simpa using X1
    · show (T.heap.push _).size = _
      rw [Array.size_push]
    · intro q hqq
      show (T.heap.push _)[q]? = _
      rw [Array.getElem?_push, if_neg (Nat.ne_of_lt hqq)]
    · show (T.heap.push _)[T.heap.size]? = _
      rw [Array.getElem?_push, if_pos rfl]
    · intro j hj; exact absurd hj (Nat.not_lt_zero j)
    · intro j hj; exact absurd hj (Nat.not_lt_zero j)
    · intro q hqq; cases hqq
  · rintro z zs S d2 a2 Q2 ⟨i, S0, hx, hi5, rfl, hG⟩ hnext
    have hi : i < 5 := by
      rcases Nat.lt_or_ge i 5 with h | h
      · exact h
      · rw [show 5 - i = 0 by omega] at hx; cases hx
    rw [show 5 - i = (5 - (i + 1)) + 1 by omega, List.range'_succ] at hx
    injection hx with hz1 hz2
    subst hz1
    have hstep := gr_next (E := E) (dd := d2) (acts := a2) (fr := fr) hkA hA hkI hI hc hs hi hG (Q1 := fun _ => Q2 (ForInStep.yield PUnit.unit)) (fun S1 d1 b1 h => hnext _ d1 b1 ⟨z + 1, S1, hz2, hi, rfl, h⟩)
    rw [wp_bind'] at hstep
    simp only [wp_bind', wp_pure']
    exact hstep
  · rintro S d2 a2 ⟨i, S0, hx, hi5, rfl, hG⟩
    have hi : i = 5 := by
      rcases Nat.lt_or_ge i 5 with h | h
      · rw [show 5 - i = (5 - (i + 1)) + 1 by omega, List.range'_succ] at hx; cases hx
      · omega
    subst hi
    exact hq S0 d2 a2 hG
end
section
variable {p : Program} {l : Launch} {e : Env} {R : Room} {s : State} {m : MethodId} {args : Array Value} {below : List Frame} {meth : Method} {c : Code} {locs : List Loc} {cells slots : Nat} {H : Heap} {Q : State → Prop} {ls : Array Slot} {pc : Nat} {rest : List Value}
theorem W_grid {cc : ByteArray} (hexec : p.tables.exec = Jvm.exec) (hb : c.code = cc) {own : String} {index : Nat} (hown : s.vm.findClass own = some m.cls) (hlk : (Cond.classLink own index "[[I").before args s = true) (hov : (Cond.arrayOver (.array .int)).before args s = true) (hac : (Cond.arrayClass .int).before args s = true)
    (hdg : decode cc pc = .ok (.multianewarray index 2, 4)) (hc : cells + 6 ≤ R.cells) (hs : slots + 30 ≤ R.slots)
    (kk : ∀ (H1 : Heap) (L : List Loc) (cA cI : ClassId) (w : Nat → Value), s.vm.findClass "[[I" = some cA → s.vm.findClass "[I" = some cI → H1.size = H.size + 6 → (∀ q : Nat, q < H.size → H1[q]? = H[q]?) → H1[H.size]? = some (arrV cA 5 w) → (∀ j : Nat, j < 5 → w j = .ref (H.size + 1 + j)) →
      (∀ j : Nat, j < 5 → H1[H.size + 1 + j]? = some (arrV cI 5 (fun _ => .int 0))) → (∀ q ∈ L, q.base = H.size) → W p l e R s m args below meth c H1 (locs ++ L) (cells + 6) (slots + 30) Q (F0 m (pc + 4) ls (.ref H.size :: rest))) :
    W p l e R s m args below meth c H locs cells slots Q (F0 m pc ls (.int 5 :: .int 5 :: rest)) := by
  intro T hT X
  subst hT; subst hb
  have n1 : (FieldType.array .int).toString = "[I" := by decide +kernel
  have n2 : "[" ++ "[I" = "[[I" := by decide +kernel
  have n3 : "[" ++ FieldType.int.toString = "[I" := by decide +kernel
  obtain ⟨cI, cA, kA, fI, -, hkA, hA, fA⟩ := arrayOverA_spec hov
  rw [n1] at fI
  rw [n1, n2] at fA
  obtain ⟨cI', kI, cz, fI', hkI, hI⟩ := Cond.arrayClass_spec hac
  rw [n3] at fI'
  cases fI.symm.trans fI'
  obtain ⟨cx, fx, hL⟩ := Cond.classLink_spec hown hlk e.platform (by rw [X.admits.platform])
  cases fA.symm.trans fx
  obtain ⟨hG, hW, -⟩ := State.classEntry (e := e) X.warmed hL
  have hz : (T.vm.noted m.cls index (.cls cA)).classes.size ≤ T.vm.classes.size := Nat.le_of_eq (Vm.size_noted ..)
  generalize T.vm.noted m.cls index (.cls cA) = v1 at hG hW hz
  obtain ⟨kA1, hkA1, eA⟩ := hW.alike.2.2 _ _ hkA
  obtain ⟨kI1, hkI1, eI⟩ := hW.alike.2.2 _ _ hkI
  have X1 := X.noted hW
  have htop := X.here.top
  have hrun : wpRun (Jvm.exec (.multianewarray index 2)) (fun _ S _ => ∃ S0, S = S0.setTop (F0 m pc ls (.ref T.heap.size :: rest)) ∧ Gr p l e R s m args below meth c locs cells slots T.heap v1 cA cI 5 S0) (fun _ _ _ => False) e (T.setTop (F0 m pc ls (.int 5 :: .int 5 :: rest))) := by
    show wp (Jvm.Op.multianewarray.sem index 2) _ _ e false [] _
    rw [Jvm.Op.multianewarray.sem, wp_bind', Jvm.W.resolveClassAt_links (State.method?_setTop _ htop) hG hz, wp_bind', State.setVm_setTop]
    refine (popN_top (s := T.setVm v1) (f := F0 m pc ls (.int 5 :: .int 5 :: rest)) htop (args := [.int 5, .int 5]) (rest := rest) rfl).mpr ?_
    simp only [List.mapM_cons, List.mapM_nil, wp_bind', wp_pure']
    refine gr_all (fr := F0 m pc ls rest) hkA1 (by rw [eA]; exact hA) hkI1 (by rw [eI]; exact hI) hc hs X1 rfl (fun S1 d1 a1 h => ?_)
    obtain ⟨L, w, Y, -⟩ := id h
    simp only [wp_bind', Jvm.W.mark, Jvm.W.pushRef]
    refine ⟨F0 m pc ls rest, State.topJava?_setTop' _ Y.here.top, S1, ?_, h⟩
    rw [State.setTop_setTop]
    rfl
  have hend := (wpRun_iff_run _ _ _ _ _).mp hrun
  cases hres : (Jvm.exec (.multianewarray index 2)).run e (T.setTop (F0 m pc ls (.int 5 :: .int 5 :: rest))) with
  | ctl x S1 a1 => rw [hres] at hend; cases x <;> exact hend.elim
  | ok x S1 a1 =>
    rw [hres] at hend
    obtain ⟨S0, rfl, L, w, Y, -, z1, z2, z3, z4, z5, z6⟩ := hend
    obtain ⟨t, t1, t2⟩ := kk S0.heap L cA cI w fA fI (by rw [z1]) z2 z3 z4 z5 z6 S0 rfl Y
    refine ⟨t, Steps.instr (c := c) X.here ?_, t2⟩
    rw [hdg]
    show wpRun (p.tables.exec (.multianewarray index 2)) _ _ e _
    rw [hexec]
    refine (wpRun_iff_run _ _ _ _ _).mpr ?_
    rw [hres]
    intro acts
    rw [afterInstr_ok]
    exact t1
end
