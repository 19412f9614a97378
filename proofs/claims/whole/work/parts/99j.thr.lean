/-! led's throw: the words of it, from pc 46 to the end; a cold catch; a call walked inside its caller -/
def nse : String := "java/util/NoSuchElementException"
def thC : List Cond := thW RX9 357 nse 13 prog_26_method_4_code "java/lang/RuntimeException" ["java/lang/Exception"]
/-- the words of it that a call does not hand on by itself -/
def lxW : List Cond := [.laysStatic Jvm.Bundle.tN "UNASSIGNED_STACK" Jvm.Bundle.steD, .laysStatic Jvm.Bundle.tN "SUPPRESSED_SENTINEL" Jvm.Bundle.listD, .declares (Jvm.Bundle.initS "java/lang/RuntimeException"), .declares (Jvm.Bundle.initS "java/lang/Exception"), .declares (Jvm.Bundle.initS Jvm.Bundle.tN)]
def thI : List Nat := [1018, 5135, 5144, 5146, 5149, 5151, 5136, 5137, 1028, 1029, 5138, 5143, 5147, 5167, 5125, 5168, 5127, 5169, 5129, 5139, 1000, 5141, 1000, 5131, 5163, 5164, 5166, 5131, 5154, 5155, 5156, 5157, 1000, 5157, 5158, 5159, 5160, 1000, 5160, 5161, 5162, 5163, 1000, 5153, 5114, 5122, 5123, 5124, 5126, 5128, 5130, 5132, 5134, 5133]
theorem zip_all {α : Type} {f : α × Nat → Bool} : ∀ {l1 : List α} {l2 : List Nat}, l1.length = l2.length → (l1.zip l2).all f = true → ∀ x ∈ l1, ∃ y, f (x, y) = true := by
  intro l1
  induction l1 with
  | nil => intro l2 _ _ x hx; cases hx
  | cons a t ih =>
    intro l2 hl h x hx
    match l2, hl with
    | b :: u, hl =>
      simp only [List.zip_cons_cons, List.all_cons, Bool.and_eq_true] at h
      rcases List.mem_cons.mp hx with rfl | hx
      · exact ⟨b, h.1⟩
      · exact ih (by simpa using hl) h.2 x hx
set_option maxRecDepth 100000 in
theorem th_len : thC.length = thI.length := by decide +kernel
set_option maxRecDepth 100000 in
theorem th_ok : (thC.zip thI).all (fun q => wordOf q.2 q.1 || decide (q.1 ∈ lxW)) = true := by decide +kernel
theorem th_all {args : Array Value} {s : State} (h : ∀ w ∈ TS 0, w.before args s = true) (hx : ∀ w ∈ lxW, w.before args s = true) : ∀ w ∈ thC, w.before args s = true := by
  intro w hw
  obtain ⟨y, hy⟩ := zip_all th_len th_ok w hw
  simp only [Bool.or_eq_true, decide_eq_true_eq] at hy
  rcases hy with hy | hy
  · exact h w (in_TS hy)
  · exact hx w hy
/-- the words go on to any later state of the run, where what lay on the heap first lies as it lay -/
theorem lx_move {args args' : Array Value} {s U : State} (h : ∀ w ∈ lxW, w.before args s = true) (hW : s.WarmedH U.vm) (hk : ∀ a : Nat, a < s.heap.size → U.heap[a]? = s.heap[a]?) : ∀ w ∈ lxW, w.before args' U = true := by
  have hd : ∀ x : MethodName, (Cond.declares x).before args s = true → (Cond.declares x).before args' U = true := by
    intro x hx
    have h1 : (Cond.declares x).before args (s.setVm U.vm) = true := Cond.before_shiftedFace (State.Shifted.of_warmed hW) _ rfl hx
    rw [Cond.onTables_vm (A' := args') (U' := U) U.vm (.declares x) rfl, State.setVm_self] at h1
    exact h1
  have hl : ∀ C f d : String, (Cond.laysStatic C f d).before args s = true → (Cond.laysStatic C f d).before args' U = true := by
    intro C f d hx
    obtain ⟨c, k, i, fd, a, cell, hc, hi, hst, ha, hcell, hs, hcls, hlt, hty⟩ := Cond.laysStatic_spec hx
    obtain ⟨k', hi', hek⟩ := State.fieldFound?_setVm (s := s) hW.alike hi
    have hi2 : U.fieldFound? C f d = some (c, k', i, fd) := hi'
    exact Cond.laysStatic_of (s := U) (by rw [hW.alike.findClass]; exact hc) hi2 hst (by rw [hek]; exact ha) (by rw [hk a (Array.getElem?_eq_some_iff.mp hcell).1]; exact hcell) hs hcls hlt (by rw [hek]; exact hty)
  intro w hw
  have h1 := h w hw
  simp only [lxW, List.mem_cons, List.not_mem_nil, or_false] at hw
  rcases hw with rfl | rfl | rfl | rfl | rfl
  · exact hl _ _ _ h1
  · exact hl _ _ _ h1
  · exact hd _ h1
  · exact hd _ h1
  · exact hd _ h1
