/-! led's throw from pc 46 to its end; a cold catch; a call walked inside its caller -/
theorem Wd.kept {D : va_G} {CA : Nat → ClassId} {B : Nat} {r : Rr} {g : Gi} {j : Gl} {H H' : Heap} (h : Wd D CA B r g j H) (hk : ∀ q : Nat, q < H.size → H'[q]? = H[q]?) : Wd D CA B r g j H' := by
  refine ⟨fun a ci ha => ?_, fun a t n ha => ?_, h.2.2⟩
  · obtain ⟨cell, q1, q2⟩ := h.1 a ci ha
    exact ⟨cell, by rw [hk _ (Array.getElem?_eq_some_iff.mp q1).1]; exact q1, q2⟩
  · have q1 := h.2.1 a t n ha
    rw [hk _ (Array.getElem?_eq_some_iff.mp q1).1]; exact q1
/-- the end of a method that has thrown: a new cell of the class nse; the world as it was -/
def ThQ (below : List Frame) (s : State) (D : va_G) (CA : Nat → ClassId) (B : Nat) (r : Rr) (g : Gi) (j : Gl) (k n : Nat) : State → Prop := fun U =>
  ∃ a, Ended U below (.threw a) ∧ s.WarmedH U.vm ∧ (∃ L, s.sameButNew ({ U with vm := s.vm } : State) L k n ∧ ∀ q ∈ L, AB B q.base) ∧ (∃ ce cX, U.heap[a]? = some ce ∧ s.vm.findClass nse = some cX ∧ ce.cls = cX ∧ ce.vm = .none) ∧ Wd D CA B r g j U.heap ∧ va_S (AB B) s.heap U.heap []
set_option maxRecDepth 100000 in
theorem d_nse : decode prog_26_method_4_code 0 = .ok (.aload_n 0, 1) ∧ decode prog_26_method_4_code 1 = .ok (.aload_n 1, 1) ∧ decode prog_26_method_4_code 2 = .ok (.invokespecial 13, 3) ∧ decode prog_26_method_4_code 5 = .ok (.return_, 1) := by and_intros <;> decide +kernel
set_option maxRecDepth 100000 in
theorem w_nse : wordOf 5113 (.classLink RX9 353 nse) = true ∧ wordOf 5114 (.instantiable nse 6) = true ∧ wordOf 1021 (.initialized nse) = true ∧ wordOf 5154 (.instanceMethod (Jvm.Bundle.initS nse)) = true ∧ wordOf 5155 (.code (Jvm.Bundle.initS nse) prog_26_method_4_code 2 none) = true := by decide +kernel
section
variable {p : Program} {l : Launch} {e : Env} {R : Room} {s : State} {m : MethodId} {args : Array Value} {below : List Frame} {meth : Method} {c : Code} {D : va_G} {CA : Nat → ClassId} {B : Nat} {sa sv : Nat → Nat} {H : Heap} {locs : List Loc} {ls : Array Slot} {cells slots : Nat} {Qw : State → Prop} {r : Rr} {g : Gi} {j : Gl}
set_option maxHeartbeats 1000000 in
theorem led_thr (F : Fy p s m args c 118 D CA B sa sv) (htr : ∀ e : Env, l.admits e → e.platform.stackTraces = false) (hlx : ∀ w ∈ lxW, w.before args s = true) (hex : c.exceptionTable.toList = []) (hlocks : meth.locks = false) (hRf : 5 < R.frames) (hRl : 82 ≤ R.locals) (hRc : cells + 1 ≤ R.cells) (hRs : slots + 6 ≤ R.slots)
    (hB : B ≤ s.heap.size) (hS : va_S (AB B) s.heap H locs) (hW : Wd D CA B r g j H) (hsz : ls.size = 4) : W p l e R s m args below meth c H locs cells slots (ThQ below s D CA B r g j (cells + 1) (slots + 6)) (F0 m 46 ls []) := by
  obtain ⟨-, -, -, -, -, -, d46, d49, d50, d53, d56⟩ := d118
  obtain ⟨w1, w2, w3, w4, w5⟩ := w_nse
  obtain ⟨x0, x1, x2, x5⟩ := d_nse
  have hts := F.2.2.2.2.1
  have hown : s.vm.findClass RX9 = some m.cls := F.2.2.2.1
  obtain ⟨cX, kX0, hfX, -⟩ := Cond.instantiable_spec (hts _ (in_TS w2))
  obtain ⟨-, -, hz1, hz2, sa', hsa'⟩ := F.2.2.2.2.2.2.2.1.2
  refine W.newcK F.1 F.2.1 hown (hts _ (in_TS w1)) (hts _ (in_TS w2)) (hts _ (in_TS w3)) rfl d46 hRc hRs hfX rfl (fun H1 kC hkC e1 z1 o1 => ?_)
  refine lv_dup F.1 F.2.1 d49 rfl ?_
  intro T hT X
  have hm : (.ref sa' : Value).isRef = true := rfl
  obtain ⟨U, u1, u3, u4, u5, ⟨ce, u6, u7, u8⟩, u9, u10⟩ := thr_X X F.1 (htr e X.admits) (own := RX9) (ic := 357) (cls := nse) (sup := "java/lang/RuntimeException") (r := ["java/lang/Exception"]) (ix := 13) (rx := prog_26_method_4_code) ⟨x0, x1, x2, x5⟩ hown
    (by intro n hn; simp only [List.mem_cons, List.not_mem_nil, or_false] at hn; rcases hn with rfl | rfl | rfl <;> decide +kernel) (th_all hts hlx) (A := AB B) hz1 hz2 hS.2.2 (a := H.size) hfX hkC (by rw [hT]; exact e1) hS.1 (msg := .ref sa') hm
    (pc := 53) (ls := ls) (rest := []) (hsz.trans F.2.2.1.symm) (by rw [F.2.1]; exact d53) (by rw [F.2.1]; exact d56) (by rw [hex]; intro x hx; cases hx) hlocks hRf (by show 2 * 0 + (1 + 0) + (13 * (1 + 2) + 42) ≤ R.locals; omega)
  refine ⟨U, X.ldcStringW F.1 hown hsa'.1 hsa'.2 (g := F0 m 50 ls [.ref H.size, .ref H.size]) rfl (by rw [F.2.1]; exact d50) _ u1, H.size, u3, u4, ⟨locs, u5, hS.2.2⟩, ⟨ce, cX, u6, hfX, u7, u8⟩, ?_, ?_⟩
  · refine hW.kept (fun q hq => ?_)
    rw [u10 q (Nat.ne_of_lt hq), hT]
    exact o1 q hq
  · refine ⟨?_, fun q h1 h2 => ?_, fun q hq => by cases hq⟩
    · rw [u9, hT, z1]; exact Nat.le_trans hS.1 (Nat.le_succ _)
    · have hq : q < H.size := Nat.lt_of_lt_of_le h1 hS.1
      rw [u10 q (Nat.ne_of_lt hq), hT, o1 q hq]
      exact hS.2.1 q h1 h2
end
