/-! a message thrown in a launch without traces, from the constructor's call to the method's end. Made in start 8 from the free rows PassC.ofS_atoms, Bundle.chainS, Steps.initColdS, Stand.ctorMessageOffV, Stand.athrowLeaves -/
/-- Throwable's own fields -/
def thF : List (String × String) := [("cause", "Ljava/lang/Throwable;"), ("stackTrace", Jvm.Bundle.steD), ("suppressedExceptions", Jvm.Bundle.listD), ("detailMessage", "Ljava/lang/String;"), ("backtrace", "Ljava/lang/Object;")]
/-- the words on the call, the new object, and what it lays -/
def thO (own : String) (ic : Nat) (cls : String) : List Cond :=
  .methodLink own ic (Jvm.Bundle.initS cls) :: .instantiable cls 6 :: ([Jvm.Bundle.tFill0, Jvm.Bundle.tFill].map fun y => .selects cls y y) ++ ((thF.map fun q => .lays cls Jvm.Bundle.tN q.1 q.2) ++ [.fieldLink Jvm.Bundle.tN 198 Jvm.Bundle.tN "backtrace" "Ljava/lang/Object;", .lays Jvm.Bundle.tN Jvm.Bundle.tN "backtrace" "Ljava/lang/Object;"])
/-- all words: Throwable's, its constructor's, those of the thrown class's own constructor (its bytes rx call sup's at ix), those of the classes up to Throwable, then thO -/
def thW (own : String) (ic : Nat) (cls : String) (ix : Nat) (rx : ByteArray) (sup : String) (r : List String) : List Cond :=
  Jvm.Bundle.throwableAtoms ++ (Jvm.Bundle.throwableSAtoms ++ (Jvm.Bundle.passSAtoms cls sup ix rx ++ (Jvm.Bundle.chainSAtoms sup r ++ thO own ic cls)))
/-- a static that is carried: its cell, and a reference or null in it -/
theorem z_at {C n d : String} {A : Nat → Prop} {U : State} {H : Heap} (h : va_Zq C n d A U H) {cf : ClassId} {kf : Class} {fi : Nat} {fd : Field} {a : Nat} (hf : U.fieldFound? C n d = some (cf, kf, fi, fd)) (ha : kf.statics = some a) :
    ∃ (u : RefV) (z : Cell), H[a]? = some z ∧ z.vm.isStatics = true ∧ z.slots[fd.slot]? = some u.v ∧ ¬ A a := by
  have key : ∀ v : Value, v.isRef = true → va_Z C n d v A U H → ∃ (u : RefV) (z : Cell), H[a]? = some z ∧ z.vm.isStatics = true ∧ z.slots[fd.slot]? = some u.v ∧ ¬ A a := by
    rintro v hv ⟨cf', kf', fi', fd', a', z, h1, -, -, h4, h5, h6, h7, h8⟩
    cases hf.symm.trans h1
    cases ha.symm.trans h4
    exact ⟨⟨v, hv⟩, z, h5, h6, h7, h8⟩
  rcases h with h | ⟨t, h⟩
  · exact key .null rfl h
  · exact key (.ref t) rfl h
section
variable {p : Program} {l : Launch} {e : Env} {R : Room} {s : State} {m : MethodId} {args : Array Value} {below : List Frame} {meth : Method} {c : Code} {V : State} {locs : List Loc} {cells slots : Nat}
/-- such a cell, further on in a walk that wrote nothing there -/
theorem z_now (X : Stand p l e R s m args below meth c V locs cells slots) {a : Nat} {z : Cell} (hz : s.heap[a]? = some z) (hst : z.vm.isStatics = true) (hn : ∀ i, (⟨a, i⟩ : Loc) ∉ locs) :
    ∃ y : Cell, V.heap[a]? = some y ∧ y.vm ≠ .unknown ∧ ∀ (i : Nat) (v : Value), z.slots[i]? = some v → y.slots[i]? = some v := by
  obtain ⟨y, h1, h2, -, h4⟩ := X.same.2.2.2.2.2 a z hz
  refine ⟨y, h1, fun h => ?_, fun i v hv => (h4 i (hn i)).trans hv⟩
  have h3 : z.vm = .unknown := by rw [h2] at h; exact h
  rw [h3] at hst; cases hst
/-- fillInStackTrace is nobody's but Throwable's -/
theorem th_sel (hadm : l.admits e) {cls : String} {cX : ClassId} (fX : s.vm.findClass cls = some cX) {y : MethodName} {t : MethodId} (hy : s.methodNamed? y = some t) (hne : y.cls ≠ "java/lang/invoke/MethodHandle" ∧ y.cls ≠ "java/lang/invoke/VarHandle") (h : (Cond.selects cls y y).before args s = true) :
    selectMethod e.platform s.vm cX t = .method t := by
  obtain ⟨c2, r2, m2, q1, q2, q3, q4, -⟩ := Cond.selects_spec h
  cases fX.symm.trans q1
  cases hy.symm.trans q3
  cases (State.methodFound?_of_named hy hne).symm.trans q2
  rw [Launch.admits_selectMethod hadm]; exact q4
set_option maxHeartbeats 1000000 in
theorem thr_X (X : Stand p l e R s m args below meth c V locs cells slots) (hexec : p.tables.exec = Jvm.exec) (htr : e.platform.stackTraces = false) {own cls sup : String} {r : List String} {ic ix : Nat} {rx : ByteArray}
    (hrx : decode rx 0 = .ok (.aload_n 0, 1) ∧ decode rx 1 = .ok (.aload_n 1, 1) ∧ decode rx 2 = .ok (.invokespecial ix, 3) ∧ decode rx 5 = .ok (.return_, 1)) (hown : s.vm.findClass own = some m.cls) (hfit : ∀ n ∈ cls :: sup :: r, Jvm.Bundle.fit n = true) (hall : ∀ w ∈ thW own ic cls ix rx sup r, w.before args s = true)
    {A : Nat → Prop} (zU : va_Zq Jvm.Bundle.tN "UNASSIGNED_STACK" Jvm.Bundle.steD A s s.heap) (zS : va_Zq Jvm.Bundle.tN "SUPPRESSED_SENTINEL" Jvm.Bundle.listD A s s.heap) (hlocs : ∀ x ∈ locs, A x.base)
    {a : Addr} {cX : ClassId} {kX : Class} (fX : s.vm.findClass cls = some cX) (hkX : s.vm.classes[cX]? = some kX) (hcell : V.heap[a]? = some (freshCell cX kX)) (hnew : s.heap.size ≤ a) {msg : Value} (hmsg : msg.isRef = true)
    {pc : Nat} {ls : Array Slot} {rest : List Value} (hls : ls.size = c.maxLocals) (dI : decode c.code pc = .ok (.invokespecial ic, 3)) (dT : decode c.code (pc + 3) = .ok (.athrow, 1)) (hno : ∀ x ∈ c.exceptionTable.toList, covers x (pc + 3) = false) (hlk : meth.locks = false)
    (hF : r.length + 4 < R.frames) (hL : 2 * 0 + ((Value.ref a :: rest).map fun v => v.category).sum + (13 * (r.length + 2) + 42) ≤ R.locals) :
    ∃ U : State, Steps p.tables e below (V.setTop (F0 m pc ls (msg :: .ref a :: .ref a :: rest))) U ∧ Ended U below (.threw a) ∧ s.WarmedH U.vm ∧ s.sameButNew ({ U with vm := s.vm } : State) locs cells slots ∧ (∃ ce, U.heap[a]? = some ce ∧ ce.cls = cX ∧ ce.vm = .none) ∧ U.heap.size = V.heap.size ∧ ∀ q, q ≠ a → U.heap[q]? = V.heap[q]? := by
  obtain ⟨x0, x1, x2, x5⟩ := hrx
  have b1 : e.platform.frameOwnsMonitors = true := by rw [X.admits.platform]
  have b2 : e.platform.finalization = false := by rw [X.admits.platform]
  have b3 : e.platform.magicAccessors = ({} : Platform).magicAccessors := by rw [X.admits.platform]
  have wT : ∀ w ∈ Jvm.Bundle.throwableAtoms, w.before args s = true := fun w h => hall w (List.mem_append_left _ h)
  have wS : ∀ w ∈ Jvm.Bundle.throwableSAtoms, w.before args s = true := fun w h => hall w (List.mem_append_right _ (List.mem_append_left _ h))
  have wP : ∀ w ∈ Jvm.Bundle.passSAtoms cls sup ix rx, w.before args s = true := fun w h => hall w (List.mem_append_right _ (List.mem_append_right _ (List.mem_append_left _ h)))
  have wC : ∀ w ∈ Jvm.Bundle.chainSAtoms sup r, w.before args s = true := fun w h => hall w (List.mem_append_right _ (List.mem_append_right _ (List.mem_append_right _ (List.mem_append_left _ h))))
  have wO : ∀ w ∈ thO own ic cls, w.before args s = true := fun w h => hall w (List.mem_append_right _ (List.mem_append_right _ (List.mem_append_right _ (List.mem_append_right _ h))))
  have wF : ∀ q ∈ thF, (Cond.lays cls Jvm.Bundle.tN q.1 q.2).before args s = true := fun q h => wO _ (by
    rw [thO]; exact List.mem_append_right _ (List.mem_append_left _ (List.mem_map.mpr ⟨q, h, rfl⟩)))
  obtain ⟨TT, Z0, LT, -, YT⟩ := ThrowableC.of_atoms (args := args) b1 b2 b3 wT
  obtain ⟨ZZ, MM, LZ, LM, nZ⟩ := Init0T.ofS_atoms (args := args) b3 LT YT wS
  have fit1 := Jvm.Bundle.fit_spec (hfit cls (List.mem_cons_self ..))
  have hsup : Jvm.Bundle.fit sup = true := hfit sup (List.mem_cons_of_mem _ (List.mem_cons_self ..))
  obtain ⟨P0, LP0, nP0, sP0⟩ := PassC.ofS_atoms (args := args) (s := s) b3 fit1.1 (Jvm.Bundle.fit_spec hsup).2 x0 x1 x2 x5 wP
  obtain ⟨P1, Ps, lenP, LP1, LPs, nP1, on1, on2⟩ := Jvm.Bundle.chainS (args := args) b3 nZ r sup hsup (fun n hn => hfit n (List.mem_cons_of_mem _ (List.mem_cons_of_mem _ hn))) wC
  cases Option.some.inj (fX.symm.trans (findClass_of_methodNamed nP0))
  obtain ⟨c1, k1, hc1, hk1, hord, -⟩ := Cond.instantiable_spec (wO (.instantiable cls 6) (by simp [thO]))
  cases fX.symm.trans hc1
  cases hkX.symm.trans hk1
  have sel0 := th_sel X.admits fX YT.fill0 (by decide) (wO (.selects cls Jvm.Bundle.tFill0 Jvm.Bundle.tFill0) (by simp [thO]))
  have selF := th_sel X.admits fX YT.fill (by decide) (wO (.selects cls Jvm.Bundle.tFill Jvm.Bundle.tFill) (by simp [thO]))
  obtain ⟨u0, zc, hzc, hzs, hu0, hnA⟩ := z_at zU YT.unassigned LT.statics
  obtain ⟨sen, zc', hzc', -, hsen, -⟩ := z_at zS YT.sentinel LT.statics
  cases hzc.symm.trans hzc'
  obtain ⟨yc, hyc, hyk, hys⟩ := z_now X hzc hzs (fun i h => hnA (hlocs _ h))
  have hne : TT.aS ≠ a := Nat.ne_of_lt (Nat.lt_of_lt_of_le (Array.getElem?_eq_some_iff.mp hzc).1 hnew)
  obtain ⟨ci8, i8, fB, j1, j2, j3, j4, -, nB, tB, ffB⟩ := Cond.ownField (t := .object "java/lang/Object") YT.found LT.cls (by decide +kernel) (wO (.fieldLink Jvm.Bundle.tN 198 Jvm.Bundle.tN "backtrace" "Ljava/lang/Object;") (by simp [thO])) (wO (.lays Jvm.Bundle.tN Jvm.Bundle.tN "backtrace" "Ljava/lang/Object;") (by simp [thO])) e.platform b3
  obtain ⟨iM, ffM⟩ := YT.msg
  obtain ⟨tyC, dC, gC, mC⟩ := Cond.laysAt fX hkX YT.cause (wF ("cause", "Ljava/lang/Throwable;") (by simp [thF]))
  obtain ⟨tyS, dS, gS, mS⟩ := Cond.laysAt fX hkX YT.stack (wF ("stackTrace", Jvm.Bundle.steD) (by simp [thF]))
  obtain ⟨tyP, dP, gP, mP⟩ := Cond.laysAt fX hkX YT.supp (wF ("suppressedExceptions", Jvm.Bundle.listD) (by simp [thF]))
  obtain ⟨tyM, -⟩ := Cond.laysAt fX hkX ffM (wF ("detailMessage", "Ljava/lang/String;") (by simp [thF]))
  obtain ⟨tyB, dB, gB, mB⟩ := Cond.laysAt fX hkX ffB (wF ("backtrace", "Ljava/lang/Object;") (by simp [thF]))
  have o1 : TT.fCause.slot ≠ fB.slot := Cond.laysApart gC gB mC mB (by rw [YT.causeName, nB]; decide)
  have o2 : TT.fStack.slot ≠ fB.slot := Cond.laysApart gS gB mS mB (by rw [YT.stackName, nB]; decide)
  have o3 : TT.fSupp.slot ≠ fB.slot := Cond.laysApart gP gB mP mB (by rw [YT.suppName, nB]; decide)
  have hback : ((preparedCellV TT.toThrowableT (freshCell P0.m.cls kX) a u0 sen).withEntry V.cur).slots[fB.slot]? = some .null := by
    have h := fresh_default (c := P0.m.cls) tyB
    rw [tB] at h
    show (((((freshCell P0.m.cls kX).slots.setIfInBounds TT.fCause.slot _).setIfInBounds TT.fStack.slot _).setIfInBounds TT.fSupp.slot _))[fB.slot]? = _
    rw [Array.getElem?_setIfInBounds_ne o3, Array.getElem?_setIfInBounds_ne o2, Array.getElem?_setIfInBounds_ne o1]
    exact h
  obtain ⟨tm, mC', cC', kC', v1, nC, -, -, -, -, -, -, -, hW1, go1⟩ := Steps.initColdS (tb := p.tables) (e := e) (below := below) (s := s) (U := V) X.here hexec X.warmed b3 hown (t := Jvm.Bundle.initS cls) rfl rfl fit1.2
    (wO (.methodLink own ic (Jvm.Bundle.initS cls)) (by simp [thO])) (wP (.instanceMethod (Jvm.Bundle.initS cls)) (by simp [Jvm.Bundle.passSAtoms])) (bytes := rx) (maxL := 2) (wP (.code (Jvm.Bundle.initS cls) rx 2 none) (by simp [Jvm.Bundle.passSAtoms]))
    (f := F0 m pc ls (msg :: .ref a :: .ref a :: rest)) rfl (a := a) (msg := msg) (rest := .ref a :: rest) rfl dI
  cases nC.symm.trans nP0
  obtain ⟨v2, X2, go2⟩ := (X.noted hW1).ctorMessageOffV hexec (g := F0 m pc ls (.ref a :: rest)) rfl hls TT LT ZZ LZ MM LM (P0 :: P1 :: Ps)
    (by intro P hP; rcases List.mem_cons.mp hP with rfl | hP
        · exact LP0
        · rcases List.mem_cons.mp hP with rfl | hP
          · exact LP1
          · exact LPs P hP)
    ⟨Option.some.inj (sP0.symm.trans nP1), on1, on2⟩ (u0 := u0) (sen := sen) (self := a) hmsg (cell := freshCell P0.m.cls kX) (cellS := yc) hcell (fun q h => by cases h) (fun h => by cases h) rfl rfl sel0 selF hyc hne hyk (hys _ _ hu0) (hys _ _ hsen)
    (Takes.of_laid hkX hord tyC (by rw [YT.causeType]; rfl)) (Takes.of_laid hkX hord tyS (by rw [YT.stackType]; exact fits_refV_array _ u0)) (Takes.of_laid hkX hord tyP (by rw [YT.suppType]; exact fits_refV_object _ sen)) (Takes.of_laid hkX hord tyM (by rw [YT.msgType]; exact fits_refV_object _ ⟨msg, hmsg⟩))
    YT.objLocals ⟨⟨ci8, i8, fB⟩, ⟨j1, j2, j3, j4⟩, hback, fun _ _ => rfl⟩ htr [] dI (by show (Ps.length + 1 + 1) + 2 < R.frames; omega) (by show 2 * 0 + _ + (13 * (Ps.length + 1 + 1) + 42) ≤ R.locals; rw [lenP]; exact hL)
  obtain ⟨hw, -, he, hWU, hsame⟩ := X2.athrowLeaves hexec (g := F0 m (pc + 3) ls (.ref a :: rest)) rfl rfl rfl hno (a := a) (rest := rest) rfl dT hlk
  have hlt : a < V.heap.size := (Array.getElem?_eq_some_iff.mp hcell).1
  refine ⟨_, go1 _ (fun acts => ?_), he, hWU, hsame.weaken (fun y hy hb => ?_) (Nat.le_refl _) (Nat.le_refl _), ⟨_, heapAt_setCell_self (s := (V.setVm v1).setVm v2) _ hlt, rfl, rfl⟩, ?_, fun q hq => ?_⟩
  · rw [doInvoke_state]
    exact go2 _ hw
  · rcases List.mem_append.mp hy with h | h
    · exact h
    · have hya : y.base = a := by
        simp only [List.mem_cons, List.not_mem_nil, or_false] at h
        rcases h with rfl | rfl | rfl | rfl | rfl <;> rfl
      exact absurd hnew (Nat.not_le.mpr (hya ▸ hb))
  · show (V.heap.setIfInBounds _ _).size = _
    rw [Array.size_setIfInBounds]
  · exact heapAt_setCell_ne (s := (V.setVm v1).setVm v2) _ (Ne.symm hq)
end
