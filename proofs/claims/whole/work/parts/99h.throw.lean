/-! a message thrown where no traces are kept: from the constructor's call to the end of the method -/
/-- the words that the throw of a cls with a message asks for: cls's constructor has the bytes rx and hands on to sup's, and so through r to Throwable -/
def thW (own : String) (ic : Nat) (cls : String) (ix : Nat) (rx : ByteArray) (sup : String) (r : List String) : List Cond :=
  (Jvm.Bundle.throwableAtoms ++ Jvm.Bundle.throwableSAtoms) ++ ((Jvm.Bundle.passSAtoms cls sup ix rx ++ Jvm.Bundle.chainSAtoms sup r) ++
    ([.methodLink own ic (Jvm.Bundle.initS cls), .instantiable cls 6, .selects cls Jvm.Bundle.tFill0 Jvm.Bundle.tFill0, .selects cls Jvm.Bundle.tFill Jvm.Bundle.tFill] ++
      ([.lays cls Jvm.Bundle.tN "cause" "Ljava/lang/Throwable;", .lays cls Jvm.Bundle.tN "stackTrace" Jvm.Bundle.steD, .lays cls Jvm.Bundle.tN "suppressedExceptions" Jvm.Bundle.listD, .lays cls Jvm.Bundle.tN "detailMessage" "Ljava/lang/String;", .lays cls Jvm.Bundle.tN "backtrace" "Ljava/lang/Object;"] ++
        [.fieldLink Jvm.Bundle.tN 198 Jvm.Bundle.tN "backtrace" "Ljava/lang/Object;", .lays Jvm.Bundle.tN Jvm.Bundle.tN "backtrace" "Ljava/lang/Object;"])))
section
variable {p : Program} {l : Launch} {e : Env} {R : Room} {s : State} {m₀ : MethodId} {args : Array Value} {below : List Frame} {meth : Method} {c : Code} {V : State} {locs : List Loc} {cells slots : Nat}
set_option maxHeartbeats 1000000 in
theorem thr_X (X : Stand p l e R s m₀ args below meth c V locs cells slots) (hexec : p.tables.exec = Jvm.exec) (htr : e.platform.stackTraces = false) {own cls : String} {sup : String} {r : List String} {ic ix : Nat} {rx : ByteArray}
    (x0 : decode rx 0 = .ok (.aload_n 0, 1)) (x1 : decode rx 1 = .ok (.aload_n 1, 1)) (x2 : decode rx 2 = .ok (.invokespecial ix, 3)) (x5 : decode rx 5 = .ok (.return_, 1))
    (hown : s.vm.findClass own = some m₀.cls) (hcls : Jvm.Bundle.fit cls = true) (hsup : Jvm.Bundle.fit sup = true) (hr : ∀ n ∈ r, Jvm.Bundle.fit n = true) (h : ∀ a ∈ thW own ic cls ix rx sup r, a.before args s = true)
    (hi : (Cond.instanceMethod (Jvm.Bundle.initS cls)).before args s = true) (hco : (Cond.code (Jvm.Bundle.initS cls) rx 2 none).before args s = true)
    {A : Nat → Prop} (hz1 : va_Zq Jvm.Bundle.tN "UNASSIGNED_STACK" Jvm.Bundle.steD A s s.heap) (hz2 : va_Zq Jvm.Bundle.tN "SUPPRESSED_SENTINEL" Jvm.Bundle.listD A s s.heap) (hlocs : ∀ x ∈ locs, A x.base)
    {a : Addr} {cX : ClassId} {kX : Class} (hfX : s.vm.findClass cls = some cX) (hkX : s.vm.classes[cX]? = some kX) (hcell : V.heap[a]? = some (freshCell cX kX)) (hnew : s.heap.size ≤ a) {msg : Value} (hmsg : msg.isRef = true)
    {g : JFrame} (hg : g.method = m₀) (hsize : g.locals.size = c.maxLocals) (hlocked : g.locked = none) (hentered : g.entered = []) {rest : List Value} (hstack : g.stack = msg :: .ref a :: .ref a :: rest)
    (d1 : decode c.code g.pc = .ok (.invokespecial ic, 3)) (d2 : decode c.code (g.pc + 3) = .ok (.athrow, 1)) (hout : ∀ x ∈ c.exceptionTable.toList, covers x (g.pc + 3) = false)
    (hRf : r.length + 4 < R.frames) (hRl : 2 * g.monitorRoom + ((Value.ref a :: rest).map fun v => v.category).sum + (13 * (r.length + 2) + 42) ≤ R.locals) (hlocks : meth.locks = false) :
    ∃ U : State, Steps p.tables e below (V.setTop g) U ∧ U.status = .running ∧ Ended U below (.threw a) ∧ s.WarmedH U.vm ∧ s.sameButNew ({ U with vm := s.vm } : State) locs cells slots ∧ (∃ ce, U.heap[a]? = some ce ∧ ce.cls = cX ∧ ce.vm = .none) ∧ U.heap.size = V.heap.size ∧ ∀ q, q ≠ a → U.heap[q]? = V.heap[q]? := by
  have w1 : e.platform.frameOwnsMonitors = true := by rw [X.admits.platform]
  have w2 : e.platform.finalization = false := by rw [X.admits.platform]
  have w3 : e.platform.magicAccessors = ({} : Platform).magicAccessors := by rw [X.admits.platform]
  have at' : ∀ x, x ∈ thW own ic cls ix rx sup r → x.holds args s none s [] = true := fun x hx => h x hx
  obtain ⟨T, Z0, L, -, Y⟩ := Jvm.ThrowableC.of_atoms (args := args) w1 w2 w3 (fun x hx => h x (by simp [thW, hx]))
  obtain ⟨Z, M, LZ, LM, hnZ⟩ := Jvm.Init0T.ofS_atoms (args := args) w3 L Y (fun x hx => h x (by simp [thW, hx]))
  obtain ⟨P1, L1, hP1, hs1⟩ := Jvm.PassC.ofS_atoms (args := args) (s := s) w3 (X := cls) (Y := sup) (Jvm.Bundle.fit_spec hcls).1 (Jvm.Bundle.fit_spec hsup).2 x0 x1 x2 x5 (fun x hx => h x (by simp [thW, hx]))
  obtain ⟨P2, Ps, hlen, L2, hL, hm2, k1, k2⟩ := Jvm.Bundle.chainS (args := args) w3 hnZ r sup hsup hr (fun x hx => h x (by simp [thW, hx]))
  have hf : s.vm.findClass cls = some P1.m.cls := findClass_of_methodNamed hP1
  cases Option.some.inj (hfX.symm.trans hf)
  obtain ⟨c1, kX', hc1, hk, hord, -, -, hn6⟩ := Cond.instantiable_spec (at' (.instantiable cls 6) (by simp [thW]))
  cases Option.some.inj (hc1.symm.trans hf)
  cases Option.some.inj (hkX.symm.trans hk)
  have s0 : selectMethod e.platform s.vm P1.m.cls T.fill0 = .method T.fill0 := by
    obtain ⟨c2, r2, m2, q1, q2, q3, q4, -⟩ := Cond.selects_spec (at' (.selects cls Jvm.Bundle.tFill0 Jvm.Bundle.tFill0) (by simp [thW]))
    cases Option.some.inj (q1.symm.trans hf)
    cases Option.some.inj (q2.symm.trans (State.methodFound?_of_named Y.fill0 (by decide)))
    cases Option.some.inj (q3.symm.trans Y.fill0)
    rw [Launch.admits_selectMethod X.admits]; exact q4
  have s1 : selectMethod e.platform s.vm P1.m.cls T.fill = .method T.fill := by
    obtain ⟨c2, r2, m2, q1, q2, q3, q4, -⟩ := Cond.selects_spec (at' (.selects cls Jvm.Bundle.tFill Jvm.Bundle.tFill) (by simp [thW]))
    cases Option.some.inj (q1.symm.trans hf)
    cases Option.some.inj (q2.symm.trans (State.methodFound?_of_named Y.fill (by decide)))
    cases Option.some.inj (q3.symm.trans Y.fill)
    rw [Launch.admits_selectMethod X.admits]; exact q4
  obtain ⟨cS0, hcS0, hst⟩ := Y.statics
  have zu : ∀ {n d : String} {i : Nat} {f : Field}, va_Zq Jvm.Bundle.tN n d A s s.heap → s.fieldFound? Jvm.Bundle.tN n d = some (T.cT, T.kT, i, f) → ¬ A T.aS ∧ ∃ u : RefV, cS0.slots[f.slot]? = some u.v := by
    intro n d i f hz hf
    rcases hz with ⟨cf, kf, fi, f', a', cell', q1, q2, q3, q4, q5, q6, q7, q8⟩ | ⟨t, cf, kf, fi, f', a', cell', q1, q2, q3, q4, q5, q6, q7, q8⟩
    · cases Option.some.inj (q1.symm.trans hf)
      cases Option.some.inj (q4.symm.trans L.statics)
      cases Option.some.inj (q5.symm.trans hcS0)
      exact ⟨q8, ⟨.null, rfl⟩, q7⟩
    · cases Option.some.inj (q1.symm.trans hf)
      cases Option.some.inj (q4.symm.trans L.statics)
      cases Option.some.inj (q5.symm.trans hcS0)
      exact ⟨q8, ⟨.ref t, rfl⟩, q7⟩
  obtain ⟨hnA, u0, hu0⟩ := zu hz1 Y.unassigned
  obtain ⟨-, sen, hsen⟩ := zu hz2 Y.sentinel
  obtain ⟨ci, i1, fB, b1, b2, b3, b4, -, b5, b6, b7⟩ := Cond.ownField (t := .object "java/lang/Object") Y.found L.cls (by decide +kernel) (at' (.fieldLink Jvm.Bundle.tN 198 Jvm.Bundle.tN "backtrace" "Ljava/lang/Object;") (by simp [thW])) (at' (.lays Jvm.Bundle.tN Jvm.Bundle.tN "backtrace" "Ljava/lang/Object;") (by simp [thW])) e.platform w3
  obtain ⟨cS, hcS', heS, -, hkeep⟩ := X.same.2.2.2.2.2 T.aS cS0 hcS0
  have o1 : ∀ i, (⟨T.aS, i⟩ : Loc) ∉ locs := fun i hm => hnA (hlocs _ hm)
  have kS : cS.vm ≠ .unknown := by
    rw [heS]; intro hu
    rw [show cS0.vm = .unknown from hu] at hst
    cases hst
  have nS : T.aS ≠ a := Nat.ne_of_lt (Nat.lt_of_lt_of_le (Array.getElem?_eq_some_iff.mp hcS0).1 hnew)
  obtain ⟨iM, hfM⟩ := Y.msg
  obtain ⟨tC, dC, eC, nC⟩ := Cond.laysAt hf hk Y.cause (at' (.lays cls Jvm.Bundle.tN "cause" "Ljava/lang/Throwable;") (by simp [thW]))
  obtain ⟨tS, dS, eS, nS'⟩ := Cond.laysAt hf hk Y.stack (at' (.lays cls Jvm.Bundle.tN "stackTrace" Jvm.Bundle.steD) (by simp [thW]))
  obtain ⟨tP, dP, eP, nP⟩ := Cond.laysAt hf hk Y.supp (at' (.lays cls Jvm.Bundle.tN "suppressedExceptions" Jvm.Bundle.listD) (by simp [thW]))
  obtain ⟨tM, dM, eM, nM⟩ := Cond.laysAt hf hk hfM (at' (.lays cls Jvm.Bundle.tN "detailMessage" "Ljava/lang/String;") (by simp [thW]))
  obtain ⟨tB, dB, eB, nB⟩ := Cond.laysAt hf hk b7 (at' (.lays cls Jvm.Bundle.tN "backtrace" "Ljava/lang/Object;") (by simp [thW]))
  have aC := Cond.laysApart eB eC nB nC (by rw [b5, Y.causeName]; decide)
  have aS := Cond.laysApart eB eS nB nS' (by rw [b5, Y.stackName]; decide)
  have aP := Cond.laysApart eB eP nB nP (by rw [b5, Y.suppName]; decide)
  have hskip : SkipFacts T e.platform s (fun u => u) u0 ((preparedCellV T.toThrowableT (freshCell P1.m.cls kX) a u0 sen).withEntry V.cur) :=
    ⟨{ ci198 := ci, i198 := i1, fBack := fB }, ⟨b1, b2, b3, b4⟩, by
      have := fresh_default (c := P1.m.cls) tB
      rw [b6] at this
      simpa [preparedCellV, Cell.setSlot, Cell.withEntry, Array.getElem?_setIfInBounds, aC, aS, aP, aC.symm, aS.symm, aP.symm, defaultValue] using this, fun _ _ => rfl⟩
  obtain ⟨tm, mC, cC, kC, v1, hnC, -, -, -, -, -, -, -, hW1, st1⟩ := Steps.initColdS (tb := p.tables) (e := e) (below := below) (s := s) (U := V) X.here hexec X.warmed w3 hown (t := Jvm.Bundle.initS cls) rfl rfl (Jvm.Bundle.fit_spec hcls).2
    (at' (.methodLink own ic (Jvm.Bundle.initS cls)) (by simp [thW])) hi (bytes := rx) (maxL := 2) hco (f := g) hg (a := a) (msg := msg) (rest := .ref a :: rest) hstack d1
  cases Option.some.inj (hnC.symm.trans hP1)
  have X1 := X.noted hW1
  obtain ⟨v2, X2, st2⟩ := X1.ctorMessageOffV hexec (g := { g with stack := .ref a :: rest }) hg hsize T L Z LZ M LM (P1 :: P2 :: Ps)
    (fun P hP => by rcases List.mem_cons.mp hP with rfl | hP; exact L1; rcases List.mem_cons.mp hP with rfl | hP; exact L2; exact hL P hP) ⟨Option.some.inj (hs1.symm.trans hm2), k1, k2⟩ (u0 := u0) (sen := sen) (self := a) hmsg (cell := freshCell P1.m.cls kX) (cellS := cS)
    hcell (fun _ => by simp) (by simp) rfl rfl s0 s1 hcS' nS kS (by rw [hkeep _ (o1 _)]; exact hu0) (by rw [hkeep _ (o1 _)]; exact hsen)
    (Takes.of_laid hk hord tC (by rw [Y.causeType]; rfl)) (Takes.of_laid hk hord tS (by rw [Y.stackType]; exact fits_refV_array _ u0)) (Takes.of_laid hk hord tP (by rw [Y.suppType]; exact fits_refV_object _ sen))
    (Takes.of_laid hk hord tM (by rw [Y.msgType]; exact fits_refV_object _ ⟨msg, hmsg⟩)) Y.objLocals hskip htr [] d1
    (by simp only [List.length_cons, hlen]; omega) (by simp only [List.length_cons, hlen]; exact hRl)
  obtain ⟨hwk, hrun, hend, hWU, hsame⟩ := X2.athrowLeaves hexec (g := { g with stack := .ref a :: rest, pc := g.pc + 3 }) hg hlocked hentered hout (a := a) (rest := rest) rfl d2 hlocks
  have hlt : a < ((V.setVm v1).setVm v2).heap.size := (Array.getElem?_eq_some_iff.mp hcell).1
  have hU := heapAt_setCell_self (s := (V.setVm v1).setVm v2) (plainBareV T.toThrowableT (freshCell P1.m.cls kX) a u0 sen msg) hlt
  refine ⟨_, st1 _ (fun acts => ?_), hrun, hend, hWU, hsame.weaken (fun y hy hlt' => ?_) (Nat.le_refl _) (Nat.le_refl _), ⟨_, hU, rfl, rfl⟩, ?_, fun q hq => ?_⟩
  · rw [doInvoke_state]
    exact st2 _ hwk
  · rcases List.mem_append.mp hy with z | z
    · exact z
    · have hb : y.base = a := by
        simp only [List.mem_cons, List.not_mem_nil, or_false] at z
        rcases z with rfl | rfl | rfl | rfl | rfl <;> rfl
      rw [hb] at hlt'
      exact absurd hlt' (Nat.not_lt.mpr hnew)
  · show (((V.setVm v1).setVm v2).setCell a _).heap.size = _
    simp [State.setCell, State.setVm]
  · show (((V.setVm v1).setVm v2).setCell a _).heap[q]? = _
    simp [State.setCell, State.setVm, Array.getElem?_setIfInBounds, Ne.symm hq]
end
