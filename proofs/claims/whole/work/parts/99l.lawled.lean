/-! a handler's class that the search itself looks up; a callee that is walked where its caller stands. Made in start 8 from Jvm/Step.lean (findHandler, searchFrame) and the free rows that are named here -/
section
variable {e : Env} {S : State} {f : JFrame} {a : Addr} {x : ExceptionTableEntry} {v1 : Vm} {ce : Cell}
/-- one row in the table, it covers the pc, and what lies at a is just of its class: found, and the look-up is all that was noted -/
theorem sk_go {Q : Handler → Pre} {E : CtlPost} {dd : Bool} {acts : List Action} (hin : covers x f.pc = true) (hct : x.catchType ≠ 0) (hG : (Jvm.resolveClass f.method.cls x.catchType).Gives e.toSetting S.vm (.ok ce.cls) v1) (hz : v1.classes.size ≤ S.vm.classes.size)
    (hce : S.heap[a]? = some ce) (hv : ce.vm = .none) {kx : Class} (hk : v1.classes[ce.cls]? = some kx) : wp (findHandler.go f a [x]) Q E e dd acts S ↔ Q (.found x.handlerPc) dd acts (S.setVm v1) := by
  obtain ⟨hA, hT⟩ := hG.op (op := VmOp.resolveClass f.method.cls x.catchType) rfl
  have hself : v1.assignable ce.cls ce.cls = true := by
    show v1.assignableAux (255 + 1) ce.cls ce.cls = true
    rw [Vm.assignableAux]; simp
  have hns : ∀ q, ce.vm ≠ .statics q := fun q h => by rw [hv] at h; cases h
  have hin' : (decide (x.startPc ≤ f.pc) && decide (f.pc < x.endPc)) = true := hin
  rw [findHandler.go, if_pos hin', if_neg (by simpa using hct)]
  rw [wp_bind', Jvm.W.vmOp_same _ (by rw [hT]; exact hz), hA, hT]
  simp [hce, hns, hk, hself, VmOp.dirties, VmOp.acts]
/-- the step that finds it -/
theorem sk_step {r : List Frame} {mth : Method} {cd : Code} (hm : S.vm.method? f.method = some mth) (hcd : mth.code = some cd) (hone : cd.exceptionTable.toList = [x]) (hin : covers x f.pc = true) (hct : x.catchType ≠ 0) (hG : (Jvm.resolveClass f.method.cls x.catchType).Gives e.toSetting S.vm (.ok ce.cls) v1)
    (hz : v1.classes.size ≤ S.vm.classes.size) (hce : S.heap[a]? = some ce) (hv : ce.vm = .none) {kx : Class} (hk : v1.classes[ce.cls]? = some kx) : (stepThrowing e S a (.java f :: r)).1 = (S.setVm v1).setFrames (.java { f with pc := x.handlerPc, stack := [.ref a] } :: r) := by
  rw [stepThrowing, searchFrame, vmDo]
  generalize hres : Sem.go _ e false [] S = res
  obtain ⟨as, hr, -⟩ := Sem.eq_ok_of hres (a := Handler.found x.handlerPc) (s' := S.setVm v1) (acts' := []) (by
    rw [wp_bind', Jvm.W.findHandler_eq hm hcd, hone, sk_go hin hct hG hz hce hv hk]
    simp)
  rw [hr]
end
section
variable {p : Program} {l : Launch} {e : Env} {R : Room} {s : State} {m : MethodId} {args : Array Value} {below : List Frame} {meth : Method} {c : Code} {T : State} {locs : List Loc} {cells slots : Nat}
theorem catch_in (X : Stand p l e R s m args below meth c T locs cells slots) {g : JFrame} (hg : g.method = m) {x : ExceptionTableEntry} (hone : c.exceptionTable.toList = [x]) (hin : covers x g.pc = true) (hct : x.catchType ≠ 0)
    {own nm : String} (hown : s.vm.findClass own = some m.cls) (hlk : (Cond.classLink own x.catchType nm).before args s = true) {a : Addr} {ce : Cell} (hce : T.heap[a]? = some ce) (hv : ce.vm = .none) (hnm : s.vm.findClass nm = some ce.cls) :
    ∃ v1, Stand p l e R s m args below meth c (T.setVm v1) locs cells slots ∧ ∀ tg, Steps p.tables e below ((T.setVm v1).setTop { g with pc := x.handlerPc, stack := [.ref a] }) tg → Steps p.tables e below ((T.setTop g).pushFrame (.throwing a)) tg := by
  subst hg
  obtain ⟨cx, hcx, hL⟩ := Cond.classLink_spec hown hlk e.platform (by rw [X.admits.platform])
  cases hnm.symm.trans hcx
  obtain ⟨hG, hW, -⟩ := State.classEntry (e := e) X.warmed hL
  obtain ⟨ks, hks, -⟩ := Vm.findClass_spec hnm
  obtain ⟨kx, hkx, -⟩ := hW.alike.2.2 _ _ hks
  have hz : (T.vm.noted g.method.cls x.catchType (.cls ce.cls)).classes.size ≤ T.vm.classes.size := Nat.le_of_eq (Vm.size_noted ..)
  generalize T.vm.noted g.method.cls x.catchType (.cls ce.cls) = v1 at hG hW hkx hz
  refine ⟨v1, X.noted hW, fun tg h => ?_⟩
  obtain ⟨go1, go2⟩ := X.here.throwing a
  refine Steps.head go1 go2 ?_
  obtain ⟨g1, hfr⟩ := X.frames_eq
  have hvm := throwing_vm T g a
  have hhe := throwing_heap T g a
  rw [stepThread_throwing (frames_entered X.here.top _), sk_step (mth := meth) (cd := c) (v1 := v1) (ce := ce) (kx := kx) (by rw [hvm, X.warmed.alike.method?]; exact X.method) X.code hone hin hct (by rw [hvm]; exact hG) (by rw [hvm]; exact hz) (by rw [hhe]; exact hce) hv hkx]
  rw [State.setTop_of_frames (s := T.setVm v1) _ hfr] at h
  rw [hfr, State.pushFrame, State.setTop_of_frames _ hfr]
  rw [State.setFrames_setFrames, show ∀ F, (T.setFrames F).setVm v1 = (T.setVm v1).setFrames F from fun _ => rfl, State.setFrames_setFrames]
  exact h
/-- into the callee by what Stand.into says, its walk, and back to a goal over the caller's frames -/
theorem st_in {S0 U0 : State} {g : JFrame} {mk : MethodId} {av : Array Value} {mth : Method} {cd : Code} {R1 : Room} {f1 : JFrame} (I : Stand p l e R1 S0 mk av (.java g :: below) mth cd U0 [] 0 0 ∧ ∀ acts, (doInvoke e (T.setTop g) acts mk av).1 = U0.setTop f1) {H : Heap} (hH : U0.heap = H) {Q1 : State → Prop}
    (body : W p l e R1 S0 mk av (.java g :: below) mth cd H [] 0 0 Q1 f1) : ∃ t, (∀ acts, Steps p.tables e below (doInvoke e (T.setTop g) acts mk av).1 t) ∧ Q1 t := by
  obtain ⟨t, w1, w2⟩ := body U0 hH I.1
  exact ⟨t, fun acts => I.2 acts ▸ Steps.weaken (mid := [.java g]) w1, w2⟩
end
