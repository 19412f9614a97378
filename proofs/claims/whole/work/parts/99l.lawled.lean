/-! into a handler whose class may still be cold; a call walked inside its caller -/
section
variable {p : Program} {l : Launch} {e : Env} {R : Room} {s : State} {m : MethodId} {args : Array Value} {below : List Frame} {meth : Method} {c : Code} {T : State} {locs : List Loc} {cells slots : Nat}
theorem catch_in (X : Stand p l e R s m args below meth c T locs cells slots) {a : Addr} {g : JFrame} (hg : g.method = m) {own name : String} (hown : s.vm.findClass own = some m.cls) {x : ExceptionTableEntry} (hex : c.exceptionTable.toList = [x]) (hx : covers x g.pc = true) (h0 : x.catchType ≠ 0)
    (hlink : (Cond.classLink own x.catchType name).before args s = true) {cX : ClassId} {ce : Cell} (hc : s.vm.findClass name = some cX) (hcell : T.heap[a]? = some ce) (hcls : ce.cls = cX) (hvm : ce.vm = .none) :
    ∃ vm', Stand p l e R s m args below meth c (T.setVm vm') locs cells slots ∧ ∀ target, Steps p.tables e below ((T.setVm vm').setTop { g with pc := x.handlerPc, stack := [.ref a] }) target → Steps p.tables e below ((T.setTop g).pushFrame (.throwing a)) target := by
  have hpl : e.platform.magicAccessors = ({} : Platform).magicAccessors := by rw [X.admits.platform]
  obtain ⟨c', hc', hcl⟩ := Cond.classLink_spec hown hlink e.platform hpl
  cases hc.symm.trans hc'
  obtain ⟨dk, _, _, kt, hd, _, _, _, _, hkt, _, hopen⟩ := hcl.here
  have hl := X.warmed.classLinks hcl
  obtain ⟨kt', hkt', -⟩ := X.warmed.alike.2.2 _ _ hkt
  refine ⟨T.vm.noted m.cls x.catchType (.cls cX), X.noted (X.warmed.noted hd hopen (State.rightAt_cls hcl)), fun target hrest => ?_⟩
  subst hg
  have e1 : ((T.setTop g).pushFrame (.throwing a)).vm = T.vm := throwing_vm T g a
  have e2 : ((T.setTop g).pushFrame (.throwing a)).heap = T.heap := throwing_heap T g a
  have found : ∀ (Q : Handler → Pre) (E : CtlPost) (d : Bool) (acts : List Action), wp (findHandler g a) Q E e d acts ((T.setTop g).pushFrame (.throwing a)) ↔ Q (.found x.handlerPc) d acts (((T.setTop g).pushFrame (.throwing a)).setVm (T.vm.noted g.method.cls x.catchType (.cls cX))) := by
    intro Q E d acts
    rw [W.findHandler_eq (meth := meth) (code := c) (by rw [e1]; exact X.method') X.code, hex]
    obtain ⟨ha, ht⟩ := (resolveClass_links e.toSetting (by rw [← e1] at hl; exact hl)).op (op := VmOp.resolveClass g.method.cls x.catchType) rfl
    have hal : T.vm.Alike (T.vm.noted g.method.cls x.catchType (.cls cX)) := (Vm.Alike.refl T.vm).noted _ _ _
    obtain ⟨k2, hk2, -⟩ := hal.2.2 _ _ hkt'
    have hfit : (T.vm.noted g.method.cls x.catchType (.cls cX)).assignable ce.cls cX = true := by rw [hcls]; exact Vm.assignable_self _ _
    have hk1 : ∃ k, (T.vm.noted g.method.cls x.catchType (.cls cX)).classes[ce.cls]? = some k := ⟨k2, by rw [hcls]; exact hk2⟩
    obtain ⟨k1, hk1⟩ := hk1
    simp only [covers] at hx
    rw [e1] at ha ht
    simp [findHandler.go, hx, h0, ha, ht, e1, e2, hcell, hvm, hk1, hk2, hfit, VmOp.dirties, VmOp.acts]
  obtain ⟨hgo, hw⟩ := X.here.throwing a (g := g)
  refine Steps.head hgo hw ?_
  rw [stepThread_throwing (frames_entered X.here.top _)]
  obtain ⟨g₀, hr⟩ := X.frames_eq
  have step : (stepThrowing e ((T.setTop g).pushFrame (.throwing a)) a (.java g :: T.frames.tail)).1 = (((T.setTop g).pushFrame (.throwing a)).setVm (T.vm.noted g.method.cls x.catchType (.cls cX))).setFrames (.java { g with pc := x.handlerPc, stack := [.ref a] } :: T.frames.tail) := by
    simp only [stepThrowing, searchFrame, vmDo]
    generalize hres : Sem.go _ e false [] _ = res
    obtain ⟨as, rfl, -⟩ := Sem.eq_ok_of hres (a := Handler.found x.handlerPc) (s' := ((T.setTop g).pushFrame (.throwing a)).setVm (T.vm.noted g.method.cls x.catchType (.cls cX))) (acts' := []) (by simp [found _ _ _ _])
    rfl
  rw [step]
  have hr' : (T.setVm (T.vm.noted g.method.cls x.catchType (.cls cX))).frames = .java g₀ :: below := hr
  rw [State.setTop_of_frames _ hr'] at hrest
  have e3 : ∀ F : List Frame, (((T.setTop g).pushFrame (.throwing a)).setVm (T.vm.noted g.method.cls x.catchType (.cls cX))).setFrames F = (T.setVm (T.vm.noted g.method.cls x.catchType (.cls cX))).setFrames F := by
    intro F
    rw [State.pushFrame, State.setTop_of_frames _ hr]
    have q1 : ∀ (u : State) (vm' : Vm) (A : List Frame), (u.setFrames A).setVm vm' = (u.setVm vm').setFrames A := fun _ _ _ => rfl
    rw [q1, State.setFrames_setFrames, q1, State.setFrames_setFrames]
  rw [e3, hr]
  exact hrest
/-- a call, its body walked here -/
theorem st_in (X : Stand p l e R s m args below meth c T locs cells slots) {g : JFrame} (hg : g.method = m) (hsize : g.locals.size = c.maxLocals) {ig : Instr} {len : Nat} (hdg : decode c.code g.pc = .ok (ig, len)) {mk : MethodId} {methk : Method} {ck : Code} (a : Array Value) {R' : Room} (hmk : T.vm.method? mk = some methk) (hck : methk.code = some ck) (hlk : methk.locks = false) (hpk : T.plainMethod mk)
    (hframes : R'.frames + 1 ≤ R.frames) (hlocals : 2 * g.monitorRoom + (g.stack.map fun v => v.category).sum + (ck.maxLocals + 11) + R'.locals ≤ R.locals) (hcells : cells + R'.cells ≤ R.cells) (hslots : slots + R'.slots ≤ R.slots) {Q' : State → Prop}
    (body : W p l e R' (T.calling g mk a) mk a (.java g :: below) methk ck T.heap [] 0 0 Q' (entryFrame mk a ck.maxLocals)) : ∃ t, (∀ acts, Steps p.tables e below (doInvoke e (T.setTop g) acts mk a).1 t) ∧ Q' t := by
  obtain ⟨Y, hin⟩ := X.into hg hsize hdg a (R' := R') hmk hck hlk hpk hframes hlocals hcells hslots
  obtain ⟨t, h1, h2⟩ := body _ (by simp [State.pushFrame, State.setFrames, State.setTop, State.modifyTopJava]) Y
  exact ⟨t, fun acts => by rw [hin acts]; exact Steps.weaken (mid := [.java g]) h1, h2⟩
end
