/-! new int[5][5]: the row of rows first, then each row, laid into it -/
def rowO (cA h i : Nat) : Cell := arrV cA 5 (fun j => if j < i then .ref (h + 1 + j) else .null)
def rowI (cI : Nat) : Cell := arrV cI 5 (fun _ => .int 0)
/-- the state when i rows lie -/
def mz (S : State) (cA cI : Nat) : Nat → State
  | 0 => S.pushCell (rowO cA S.heap.size 0)
  | i + 1 => ((mz S cA cI i).pushCell (rowI cI)).setCell S.heap.size (rowO cA S.heap.size (i + 1))
theorem rowO_set (cA h i : Nat) : (rowO cA h i).setSlot i (.ref (h + 1 + i)) = rowO cA h (i + 1) := by
  unfold rowO
  rw [arrV_store]
  congr 1
  funext j
  unfold updV
  by_cases e : j = i
  · subst e; rw [if_pos rfl, if_pos (by omega)]
  · rw [if_neg e]
    dsimp only
    by_cases z : j < i
    · rw [if_pos z, if_pos (by omega)]
    · rw [if_neg z, if_neg (by omega)]
theorem mz_size (S : State) (cA cI : Nat) : ∀ i, (mz S cA cI i).heap.size = S.heap.size + 1 + i ∧ (mz S cA cI i).vm = S.vm ∧ (mz S cA cI i).slotsUsed = S.slotsUsed + 5 + i * 5 ∧ (mz S cA cI i).heap[S.heap.size]? = some (rowO cA S.heap.size i)
  | 0 => ⟨by simp [mz, State.pushCell], rfl, by simp [mz, State.pushCell, rowO, arrV_size], by simp [mz, State.pushCell]⟩
  | i + 1 => by
    obtain ⟨a, b, c, d⟩ := mz_size S cA cI i
    refine ⟨?_, ?_, ?_, ?_⟩
    · simp [mz, State.pushCell, State.setCell, a]; omega
    · simp [mz, State.pushCell, State.setCell, b]
    · simp [mz, State.pushCell, State.setCell, c, rowI, arrV_size]; omega
    · show (((mz S cA cI i).pushCell (rowI cI)).setCell S.heap.size (rowO cA S.heap.size (i + 1))).heap[S.heap.size]? = _
      show (((mz S cA cI i).heap.push (rowI cI)).setIfInBounds S.heap.size (rowO cA S.heap.size (i + 1)))[S.heap.size]? = _
      rw [Array.getElem?_setIfInBounds, if_pos rfl, if_pos (by rw [Array.size_push, a]; omega)]
theorem mz_top (S : State) (f : JFrame) (cA cI : Nat) : ∀ i, mz (S.setTop f) cA cI i = (mz S cA cI i).setTop f
  | 0 => rfl
  | i + 1 => by simp only [mz, mz_top S f cA cI i, State.heap_setTop, State.pushCell_setTop, State.setCell_setTop]
theorem mz_old (S : State) (cA cI : Nat) {a : Nat} (ha : a < S.heap.size) : ∀ i, (mz S cA cI i).heap[a]? = S.heap[a]?
  | 0 => by simp [mz, State.pushCell, Array.getElem?_push, Nat.ne_of_lt ha]
  | i + 1 => by
    have z := (mz_size S cA cI i).1
    have ih := mz_old S cA cI ha i
    show (((mz S cA cI i).heap.push (rowI cI)).setIfInBounds S.heap.size (rowO cA S.heap.size (i + 1)))[a]? = _
    rw [Array.getElem?_setIfInBounds, if_neg (by omega), Array.getElem?_push, if_neg (by omega)]
    exact ih
theorem mz_row (S : State) (cA cI : Nat) : ∀ i j, j < i → (mz S cA cI i).heap[S.heap.size + 1 + j]? = some (rowI cI)
  | 0, _, h => absurd h (Nat.not_lt_zero _)
  | i + 1, j, h => by
    have z := (mz_size S cA cI i).1
    show (((mz S cA cI i).heap.push (rowI cI)).setIfInBounds S.heap.size (rowO cA S.heap.size (i + 1)))[S.heap.size + 1 + j]? = _
    rw [Array.getElem?_setIfInBounds, if_neg (by omega), Array.getElem?_push]
    by_cases e : j = i
    · subst e; rw [if_pos (by omega)]
    · rw [if_neg (by omega)]; exact mz_row S cA cI i j (by omega)
section
variable {E : CtlPost} {e : Env} {d : Bool} {acts : List Action} {S : State}
/-- an array, where it fits -/
theorem wp_arr {c comp : ClassId} {k : Class} {ty : FieldType} {n : Nat} {v : Value} (hk : S.vm.classes[c]? = some k) (hkind : k.kind = .array comp ty) (h1 : ¬ n > e.platform.arrayLengthLimit) (h2 : ¬ n * componentBytes ty > e.platform.maxHeapBytes) (hf : fits ty v = true) (hd : v.isDefault = true) (h3 : S.heap.size < e.platform.maxCells) (h4 : S.slotsUsed + n ≤ e.platform.maxSlots)
    {Q : Addr → Pre} (hq : Q S.heap.size d acts (S.pushCell (arrV c n (fun _ => v)))) : wp (Jvm.newArray c n v) Q E e d acts S := by
  rw [← arrV_new] at hq
  have ha : allocActs (Array.replicate n v) S.heap.size acts = acts := by
    unfold allocActs
    rw [if_pos]
    rw [Array.all_replicate]
    split <;> simp [hd]
  simp only [Jvm.newArray, Jvm.arrayFits, wp_bind', W.ask, W.ite, h1, if_false, wp_pure', W.theClass, hk, hkind, h2, W.alloc, W.stop, Option.some.injEq, exists_eq_left', Array.size_replicate, ha]
  rw [if_neg (by omega)]
  refine ⟨h3, h4, fun i w hw => ?_, hq⟩
  rw [Array.getElem?_replicate] at hw
  split at hw
  · cases hw
    simp [State.fitsSlot, State.slotType?, hk, hkind, hf]
  · cases hw
theorem wp_grid {c comp cc : ClassId} {k kc : Class} (hk : S.vm.classes[c]? = some k) (hkind : k.kind = .array comp (.array .int)) (hkc : S.vm.classes[comp]? = some kc) (hkindc : kc.kind = .array cc .int) (h1 : ¬ 5 > e.platform.arrayLengthLimit) (h2 : ¬ 5 * 4 > e.platform.maxHeapBytes) (h3 : S.heap.size + 6 ≤ e.platform.maxCells) (h4 : S.slotsUsed + 30 ≤ e.platform.maxSlots)
    {Q : Addr → Pre} (hq : ∀ d' acts', Q S.heap.size d' acts' (mz S c comp 5)) : wp (multianewarray.make c [5, 5]) Q E e d acts S := by
  have n5 : ¬ (5 : Int32) < 0 := by decide
  have c5 : (5 : Int32).toNatClampNeg = 5 := by decide
  have f5 : ([(5 : Int32)].find? (· < 0)) = none := by decide
  rw [multianewarray.make]
  simp only [wp_bind', W.ite, n5, if_false, wp_pure', W.theClass, hk, hkind, Option.some.injEq, exists_eq_left', c5]
  refine wp_arr hk hkind h1 h2 rfl rfl (by omega) (by omega) ?_
  simp only [f5]
  rw [ite_self, wp_bind', Std.Legacy.Range.forIn_eq_forIn_range']
  show wp (forIn (List.range' 0 5 1) PUnit.unit _) _ E e d acts _
  refine wp_forIn_inv (fun rest s' => ∃ i, i ≤ 5 ∧ rest = List.range' i (5 - i) ∧ s' = mz S c comp i) _ _ ⟨0, Nat.zero_le _, rfl, ?_⟩ ?_ ?_
  · show _ = S.pushCell (rowO c S.heap.size 0)
    congr 1
  · rintro x rest s' d' acts' Q' ⟨i, hi, hl, rfl⟩ hnext
    have hlt : i < 5 := by
      rcases Nat.lt_or_ge i 5 with h | h
      · exact h
      · rw [show 5 - i = 0 by omega] at hl; simp at hl
    rw [show 5 - i = (5 - (i + 1)) + 1 by omega, List.range'_succ] at hl
    obtain ⟨rfl, rfl⟩ := List.cons.inj hl
    obtain ⟨f1, f2, f3, f4⟩ := mz_size S c comp x
    simp only [wp_bind']
    rw [multianewarray.make]
    simp only [wp_bind', W.ite, n5, if_false, wp_pure', W.theClass, f2, hkc, hkindc, Option.some.injEq, exists_eq_left', c5]
    refine wp_arr (by rw [f2]; exact hkc) hkindc h1 h2 rfl rfl (by rw [f1]; omega) (by rw [f3]; omega) ?_
    simp only [wp_bind', W.writeLoc, wp_pure']
    refine ⟨rowO c S.heap.size x, ?_, (fun h => by cases h), by rw [rowO, arrV_size]; exact hlt, ?_, hnext _ _ _ ⟨x + 1, hlt, rfl, ?_⟩⟩
    · have q : S.heap.size < (mz S c comp x).heap.size := by rw [f1]; omega
      rw [State.heap_pushCell_of_lt (h := q)]; exact f4
    · show State.fitsSlot _ c .none x _ = true
      simp [State.fitsSlot, State.slotType?, f2, hk, hkind, fits]
    · rw [f1, rowO_set]; rfl
  · rintro s' d' acts' ⟨i, hi, hl, rfl⟩
    have : i = 5 := by
      rcases Nat.lt_or_ge i 5 with h | h
      · rw [show 5 - i = (5 - (i + 1)) + 1 by omega, List.range'_succ] at hl; cases hl
      · omega
    subst this
    simp only [wp_pure']
    exact hq _ _
end
section
variable {p : Program} {l : Launch} {e : Env} {R : Room} {s : State} {m : MethodId} {args : Array Value} {below : List Frame} {meth : Method} {c : Code} {T : State} {locs : List Loc} {cells slots : Nat}
theorem st_mz (X : Stand p l e R s m args below meth c T locs cells slots) (cA cI : Nat) : ∀ i, ∃ L, Stand p l e R s m args below meth c (mz T cA cI i) (locs ++ L) (cells + 1 + i) (slots + 5 + i * 5) ∧ ∀ q ∈ L, q.base = T.heap.size
  | 0 => by
    have h := X.pushed (rowO cA T.heap.size 0)
    rw [show (rowO cA T.heap.size 0).slots.size = 5 by rw [rowO, arrV_size]] at h
    exact ⟨[], by simpa [mz] using h, fun q hq => by cases hq⟩
  | i + 1 => by
    obtain ⟨L, Xi, hL⟩ := st_mz X cA cI i
    obtain ⟨f1, f2, f3, f4⟩ := mz_size T cA cI i
    have q : T.heap.size < (mz T cA cI i).heap.size := by rw [f1]; omega
    have h := (Xi.pushed (rowI cI)).stored (a := T.heap.size) (cell := rowO cA T.heap.size i) (by rw [State.heap_pushCell_of_lt (h := q)]; exact f4) i (.ref (T.heap.size + 1 + i))
    rw [show (rowI cI).slots.size = 5 by rw [rowI, arrV_size], rowO_set] at h
    refine ⟨L ++ [⟨T.heap.size, i⟩], ?_, fun q hq => ?_⟩
    · rw [← List.append_assoc, show slots + 5 + (i + 1) * 5 = slots + 5 + i * 5 + 5 by omega]
      exact h
    · rcases List.mem_append.mp hq with z | z
      · exact hL q z
      · simp only [List.mem_cons, List.not_mem_nil, or_false] at z
        subst z; rfl
end
section
variable {p : Program} {l : Launch} {e : Env} {R : Room} {s : State} {m : MethodId} {args : Array Value} {below : List Frame} {meth : Method} {c : Code} {H : Heap} {locs : List Loc} {cells slots : Nat} {Q : State → Prop} {pc : Nat} {ls : Array Slot} {rest : List Value}
theorem W_grid {cc : ByteArray} (hexec : p.tables.exec = Jvm.exec) (hb : c.code = cc) {own : String} {index : Nat} (hown : s.vm.findClass own = some m.cls) (hclink : (Cond.classLink own index "[[I").before args s = true) (hover : (Cond.arrayOver (.array .int)).before args s = true) (harr : (Cond.arrayClass .int).before args s = true)
    (hdg : decode cc pc = .ok (.multianewarray index 2, 4)) (hcells : cells + 6 ≤ R.cells) (hslots : slots + 30 ≤ R.slots)
    (kk : ∀ (H1 : Heap) (L : List Loc) (cA cI : ClassId), s.vm.findClass "[[I" = some cA → s.vm.findClass "[I" = some cI → H1.size = H.size + 6 → (∀ q : Nat, q < H.size → H1[q]? = H[q]?) → H1[H.size]? = some (rowO cA H.size 5) → (∀ j : Nat, j < 5 → H1[H.size + 1 + j]? = some (rowI cI)) → (∀ q ∈ L, q.base = H.size) →
      W p l e R s m args below meth c H1 (locs ++ L) (cells + 6) (slots + 30) Q (F0 m (pc + 4) ls (.ref H.size :: rest))) : W p l e R s m args below meth c H locs cells slots Q (F0 m pc ls (.int 5 :: .int 5 :: rest)) := by
  intro T hT X
  subst hT
  have hpl : e.platform.magicAccessors = ({} : Platform).magicAccessors := by rw [X.admits.platform]
  obtain ⟨comp, cA, kA, hcomp, -, hkA, hkindA, hnameA⟩ := arrayOverA_spec hover
  obtain ⟨comp', kC, cc', hcomp', hkC, hkindC⟩ := Cond.arrayClass_spec harr
  cases Option.some.inj (hcomp'.symm.trans hcomp)
  obtain ⟨c0, hfc0, hcl⟩ := Cond.classLink_spec hown hclink e.platform hpl
  cases Option.some.inj (hfc0.symm.trans hnameA)
  obtain ⟨hg₁, hwarm₁, hready₁⟩ := State.classEntry (e := e) X.warmed hcl
  generalize T.vm.noted m.cls index (.cls cA) = vm₁ at hg₁ hwarm₁ hready₁
  have hal : s.vm.Alike vm₁ := hwarm₁.alike
  obtain ⟨kA₁, hkA₁, heA⟩ := hal.2.2 _ _ hkA
  obtain ⟨kC₁, hkC₁, heC⟩ := hal.2.2 _ _ hkC
  have hkindA₁ : kA₁.kind = .array comp (.array .int) := by rw [heA]; exact hkindA
  have hkindC₁ : kC₁.kind = .array cc' .int := by rw [heC]; exact hkindC
  have X₁ := X.noted hwarm₁
  obtain ⟨hr1, hr2⟩ := X.roomAbove hcells hslots
  have hl1 : ¬ 5 > e.platform.arrayLengthLimit := by rw [Launch.admits_arrayLengthLimit X.admits]; omega
  have hh1 : ¬ 5 * 4 > e.platform.maxHeapBytes := by rw [Launch.admits_maxHeapBytes X.admits]; omega
  obtain ⟨L, XF, hL⟩ := st_mz X₁ cA comp 5
  obtain ⟨z1, z2, z3, z4⟩ := mz_size (T.setVm vm₁) cA comp 5
  obtain ⟨t, a1, b1⟩ := kk (mz (T.setVm vm₁) cA comp 5).heap L cA comp hnameA hcomp z1 (fun q hq => mz_old (T.setVm vm₁) cA comp hq 5) z4 (fun j hj => mz_row (T.setVm vm₁) cA comp 5 j hj) hL _ rfl XF
  refine ⟨t, ?_, b1⟩
  jvm_step X.here [hexec, hb, hdg]
  simp only [multianewarray.sem, wp_bind', W.resolveClassAt_links (State.method?_setTop (F0 m pc ls (.int 5 :: .int 5 :: rest)) X.here.top) hg₁]
  rw [W.popN, if_neg (by decide)]
  refine ⟨F0 m pc ls (.int 5 :: .int 5 :: rest), State.topJava?_setTop' (s := T.setVm vm₁) _ X.here.top, [.int 5, .int 5], rest, rfl, rfl, ?_⟩
  simp only [List.mapM_cons, List.mapM_nil, wp_bind', wp_pure']
  refine wp_grid (k := kA₁) (kc := kC₁) (comp := comp) (cc := cc') (by exact hkA₁) hkindA₁ (by exact hkC₁) hkindC₁ hl1 hh1 (by exact hr1) (by exact hr2) (fun d' acts' => ?_)
  have eS : ((T.setTop (F0 m pc ls (.int 5 :: .int 5 :: rest))).setVm vm₁).setTop (F0 m pc ls rest) = (T.setVm vm₁).setTop (F0 m pc ls rest) := by
    show ((T.setVm vm₁).setTop (F0 m pc ls (.int 5 :: .int 5 :: rest))).setTop _ = _
    rw [State.setTop_setTop]
  rw [show ({ (F0 m pc ls (.int 5 :: .int 5 :: rest)) with stack := rest } : JFrame) = F0 m pc ls rest from rfl, eS, mz_top]
  simp only [wp_bind', W.mark, W.pushRef, State.topJava?_setTop' _ XF.here.top, Option.some.injEq, exists_eq_left', State.setTop_setTop, State.heap_setTop]
  intro acts
  simp [jvm, XF.here.top]
  exact a1
end
