/-! the JDK's own: length and charAt of a String constant -/
abbrev yLen : MethodName := ⟨"java/lang/String", "length", "()I"⟩
abbrev yCod : MethodName := ⟨"java/lang/String", "coder", "()B"⟩
abbrev yLat : MethodName := ⟨"java/lang/String", "isLatin1", "()Z"⟩
abbrev yChr : MethodName := ⟨"java/lang/String", "charAt", "(I)C"⟩
abbrev yChL : MethodName := ⟨"java/lang/StringLatin1", "charAt", "([BI)C"⟩
abbrev yChk : MethodName := ⟨"java/lang/String", "checkIndex", "(II)V"⟩
abbrev yPre : MethodName := ⟨"jdk/internal/util/Preconditions", "checkIndex", "(IILjava/util/function/BiFunction;)I"⟩
abbrev TJ (y : MethodName) (cc : ByteArray) (n : Nat) (ret : Option FieldType) : List Cond := .code y cc n ret :: GT
def KJ (B : Nat) (sa sv : Nat → Nat) (U : State) (H : Heap) : Prop := SS B sa sv U H ∧ SZ B U H
theorem KJ.same {B : Nat} {sa sv : Nat → Nat} {s U : State} {H : Heap} (h : KJ B sa sv s H) (hv : U.vm = s.vm) : KJ B sa sv U H := by
  have ha : s.vm.Alike U.vm := by rw [hv]; exact Vm.Alike.refl _
  exact ⟨h.1.moved ha, h.2.same hv⟩
theorem KJ.warm {B : Nat} {sa sv : Nat → Nat} {s U : State} {H H1 : Heap} (h : KJ B sa sv s H) (hW : s.WarmedH U.vm) (hq : ∀ a : Nat, a < H.size → ¬ AB B a → H1[a]? = H[a]?) : KJ B sa sv U H1 := ⟨(h.1.moved hW.alike).kept hq, h.2.warm hW hq⟩
def QJ (v : Option Value) : Array Value → State → Outcome → State → Prop := fun _ st oc t => oc = .returned v ∧ t.heap = st.heap
def PJ (B : Nat) (sa sv : Nat → Nat) (as : List Value) : Array Value → State → Prop := fun a U => a = as.toArray ∧ KJ B sa sv U U.heap
theorem PJ.blind {B : Nat} {sa sv : Nat → Nat} {as : List Value} : FrameBlind (PJ B sa sv as) := fun a U gg mk h => ⟨h.1, h.2.same rfl⟩
theorem in_TJ {y : MethodName} {cc : ByteArray} {n : Nat} {ret : Option FieldType} {i : Nat} {w : Cond} (h : wordOf i w = true) : w ∈ TJ y cc n ret := List.mem_cons_of_mem _ (wordOf_in h)
theorem good_TJ {Ts : List Cond} (hb : ∀ w ∈ GT, w ∈ Ts) {y : MethodName} {cc : ByteArray} {n : Nat} {ret : Option FieldType} {i : Nat} (h : wordOf i (.code y cc n ret) = true) : GoodIn Ts (TJ y cc n ret) := good_GT hb (fun w hw => by
  rcases List.mem_cons.mp hw with rfl | hw
  · exact wordOf_in h
  · exact hw)
theorem J_back {p : Program} {l : Launch} {e : Env} {R : Room} {s : State} {m : MethodId} {args : Array Value} {below : List Frame} {meth : Method} {c : Code} {H : Heap} {locs : List Loc} {pc : Nat} {ls : Array Slot} {st0 rest : List Value} {Q : State → Prop} {v : Option Value} {B : Nat} {a : Array Value} (hr : va_Run p l e R s m args below meth c H locs 0 0 0 0 (F0 m pc ls st0) rest (QJ v a) (AB B)) (hS : va_S (AB B) s.heap H locs)
    (k : ∀ locs', va_S (AB B) s.heap H locs' → W p l e R s m args below meth c H locs' 0 0 Q (F0 m (pc + 3) ls (v.toList ++ rest))) : W p l e R s m args below meth c H locs 0 0 Q (F0 m pc ls st0) := by
  intro T hT X
  obtain ⟨v', st₀, t, T', L, h0, X', hL, e1, e2, ⟨hv, hh⟩, stp⟩ := hr T hT X
  injection hv with hv
  subst hv
  have hS' : va_S (AB B) s.heap H (locs ++ L) := ⟨hS.1, hS.2.1, fun q hq => by
    rcases List.mem_append.mp hq with h | h
    · exact hS.2.2 q h
    · exact hL q h⟩
  obtain ⟨t2, a1, b1⟩ := k (locs ++ L) hS' T' (by rw [e1, hh, h0]) X'
  exact ⟨t2, stp t2 a1, b1⟩
theorem MJ_of {y : MethodName} {cc : ByteArray} {n : Nat} {ret : Option FieldType} {l : Launch} {d B : Nat} {sa sv : Nat → Nat} {as : List Value} {v : Option Value} (hy : plainName y.cls = true) (hn : (lg_sl as).length ≤ n)
    (body : ∀ (p : Program) (e : Env) (s : State) (m : MethodId) (args : Array Value) (below : List Frame) (meth : Method) (c : Code) (ls : Array Slot), p.tables.exec = Jvm.exec → c.code = cc → c.maxLocals = n → meth.sig.returnType = ret → s.vm.findClass y.cls = some m.cls → (∀ w ∈ TJ y cc n ret, w.before args s = true) → meth.locks = false → KJ B sa sv s s.heap → lv_has ls n (lv_args 0 as) →
      W p l e (rmd d) s m args below meth c s.heap [] 0 0 (MQ below (QJ v) args s 0 0 (AB B)) (F0 m 0 ls [])) : Met l y (TJ y cc n ret) (rmd d) (PJ B sa sv as) (QJ v) 0 0 (AB B) := by
  refine Met.ofW (cc := cc) (maxL := n) (ret := ret) hy rfl ?_
  intro p e s m args below meth c s₁ Bd hml hv
  obtain ⟨rfl, hK⟩ := hv
  have hts := atoms_spec (ws := TJ y cc n ret) Bd.pre
  have hown : s.vm.findClass y.cls = some m.cls := findClass_of_methodNamed Bd.named
  have hl := lv_entry as (n := n) hn
  rw [lg_entry_eq]
  exact body p e s m _ below meth c _ Bd.exec Bd.bytes hml Bd.returns hown hts Bd.notSynchronized hK hl
set_option maxRecDepth 100000 in
theorem w_jdk : wordOf 3026 (.instanceMethod yLen) = true ∧ wordOf 3027 (.selects "java/lang/String" yLen yLen) = true ∧ wordOf 3028 (.code yLen prog_19_method_54_code 1 (some .int)) = true ∧ wordOf 3029 (.methodLink "java/lang/String" 335 yCod) = true ∧ wordOf 3030 (.instanceMethod yCod) = true ∧ wordOf 3031 (.selects "java/lang/String" yCod yCod) = true ∧ wordOf 3032 (.code yCod prog_19_method_152_code 1 (some .byte)) = true ∧ wordOf 3033 (.fieldLink "java/lang/String" 38 "java/lang/String" "COMPACT_STRINGS" "Z") = true ∧ wordOf 8071 (.fieldLink "java/lang/String" 9 "java/lang/String" "value" "[B") = true ∧ wordOf 8072 (.fieldLink "java/lang/String" 15 "java/lang/String" "coder" "B") = true ∧ wordOf 1013 (.initialized "java/lang/String") = true := by decide +kernel
set_option maxRecDepth 100000 in
theorem w_jdk2 : wordOf 3036 (.instanceMethod yChr) = true ∧ wordOf 3037 (.selects "java/lang/String" yChr yChr) = true ∧ wordOf 3038 (.code yChr prog_19_method_56_code 2 (some .char)) = true ∧ wordOf 3039 (.methodLink "java/lang/String" 492 yLat) = true ∧ wordOf 3040 (.instanceMethod yLat) = true ∧ wordOf 3041 (.selects "java/lang/String" yLat yLat) = true ∧ wordOf 3042 (.code yLat prog_19_method_154_code 1 (some .boolean)) = true ∧ wordOf 3043 (.methodLink "java/lang/String" 495 yChL) = true ∧ wordOf 3044 (.static yChL) = true ∧ wordOf 3045 (.code yChL prog_20_method_2_code 2 (some .char)) = true ∧ wordOf 1014 (.initialized "java/lang/StringLatin1") = true := by decide +kernel
set_option maxRecDepth 100000 in
theorem w_jdk3 : wordOf 3046 (.methodLink "java/lang/StringLatin1" 9 yChk) = true ∧ wordOf 3047 (.static yChk) = true ∧ wordOf 3048 (.code yChk prog_19_method_155_code 2 none) = true ∧ wordOf 3049 (.fieldLink "java/lang/String" 1053 "jdk/internal/util/Preconditions" "SIOOBE_FORMATTER" "Ljava/util/function/BiFunction;") = true ∧ wordOf 3051 (.methodLink "java/lang/String" 1059 yPre) = true ∧ wordOf 3052 (.static yPre) = true ∧ wordOf 3053 (.code yPre prog_27_method_11_code 3 (some .int)) = true ∧ wordOf 1015 (.initialized "jdk/internal/util/Preconditions") = true := by decide +kernel
section
variable {l : Launch} {B i d : Nat} {sa sv : Nat → Nat}
theorem j_coder (hi : i < 25) : Met l yCod (TJ yCod prog_19_method_152_code 1 (some .byte)) (rmd d) (PJ B sa sv [.ref (sa i)]) (QJ (some (.int 0))) 0 0 (AB B) := by
  refine MJ_of (by decide) (Nat.le_of_ble_eq_true rfl) fun p e s m args below meth c ls hx hb hml hr hown hts hlocks hK hl => ?_
  refine va_gets hx hb hK.2.1 va_S.rf hown (hts _ (in_TJ w_jdk.2.2.2.2.2.2.2.1)) (fun _ h => h) (show decode prog_19_method_152_code 0 = .ok (.getstatic 38, 3) by decide +kernel) ?_
  refine lv_if_eq hx hb (off := 10) (tgt := 13) (show decode prog_19_method_152_code 3 = .ok (.ifCond .eq 10, 3) by decide +kernel) (by decide) (fun h => absurd h (by decide +kernel)) (fun _ => ?_)
  refine lv_aload_n hx hb (show decode prog_19_method_152_code 6 = .ok (.aload_n 0, 1) by decide +kernel) rfl (lv_at hl 0 rfl) ?_
  refine vk_getf hx hb (hK.1 i hi).2.1 va_S.rf hown (hts _ (in_TJ w_jdk.2.2.2.2.2.2.2.2.2.1)) (fun _ h => h) (show decode prog_19_method_152_code 7 = .ok (.getfield 15, 3) by decide +kernel) ?_
  refine lv_goto hx hb (off := 4) (tgt := 14) (show decode prog_19_method_152_code 10 = .ok (.goto 4, 3) by decide +kernel) (by decide) ?_
  exact W.zret (ty := .byte) hx hb hr (by decide +kernel) (fun t ht _ => ⟨rfl, ht⟩) (fun q hq => by cases hq) (show decode prog_19_method_152_code 14 = .ok (.ireturn, 1) by decide +kernel)
theorem j_latin (hi : i < 25) : Met l yLat (TJ yLat prog_19_method_154_code 1 (some .boolean)) (rmd d) (PJ B sa sv [.ref (sa i)]) (QJ (some (.int 1))) 0 0 (AB B) := by
  refine MJ_of (by decide) (Nat.le_of_ble_eq_true rfl) fun p e s m args below meth c ls hx hb hml hr hown hts hlocks hK hl => ?_
  refine va_gets hx hb hK.2.1 va_S.rf hown (hts _ (in_TJ w_jdk.2.2.2.2.2.2.2.1)) (fun _ h => h) (show decode prog_19_method_154_code 0 = .ok (.getstatic 38, 3) by decide +kernel) ?_
  refine lv_if_eq hx hb (off := 14) (tgt := 17) (show decode prog_19_method_154_code 3 = .ok (.ifCond .eq 14, 3) by decide +kernel) (by decide) (fun h => absurd h (by decide +kernel)) (fun _ => ?_)
  refine lv_aload_n hx hb (show decode prog_19_method_154_code 6 = .ok (.aload_n 0, 1) by decide +kernel) rfl (lv_at hl 0 rfl) ?_
  refine vk_getf hx hb (hK.1 i hi).2.1 va_S.rf hown (hts _ (in_TJ w_jdk.2.2.2.2.2.2.2.2.2.1)) (fun _ h => h) (show decode prog_19_method_154_code 7 = .ok (.getfield 15, 3) by decide +kernel) ?_
  refine lv_if_ne hx hb (off := 7) (tgt := 17) (show decode prog_19_method_154_code 10 = .ok (.ifCond .ne 7, 3) by decide +kernel) (by decide) (fun h => absurd rfl h) (fun _ => ?_)
  refine lv_iconst hx hb (v := 1) (show decode prog_19_method_154_code 13 = .ok (.iconst 1, 1) by decide +kernel) rfl ?_
  refine lv_goto hx hb (off := 4) (tgt := 18) (show decode prog_19_method_154_code 14 = .ok (.goto 4, 3) by decide +kernel) (by decide) ?_
  exact W.zret (ty := .boolean) hx hb hr (by decide +kernel) (fun t ht _ => ⟨rfl, ht⟩) (fun q hq => by cases hq) (show decode prog_19_method_154_code 18 = .ok (.ireturn, 1) by decide +kernel)
theorem sh0 {n : Nat} (h : n < 1000) : nI n >>> ((0 : Int32) &&& 31) = nI n := by
  rw [pk_shrN (by omega) _ 0 (by decide +kernel)]
  simp
theorem slen_lt : ∀ i, i < 25 → slen.getD i 0 < 1000 := by decide +kernel
theorem j_length (hi : i < 25) : Met l yLen (TJ yLen prog_19_method_54_code 1 (some .int)) (rmd (d + 1)) (PJ B sa sv [.ref (sa i)]) (QJ (some (.int (nI (slen.getD i 0))))) 0 0 (AB B) := by
  refine MJ_of (by decide) (Nat.le_of_ble_eq_true rfl) fun p e s m args below meth c ls hx hb hml hr hown hts hlocks hK hl => ?_
  refine lv_aload_n hx hb (show decode prog_19_method_54_code 0 = .ok (.aload_n 0, 1) by decide +kernel) rfl (lv_at hl 0 rfl) ?_
  refine vk_getf hx hb (hK.1 i hi).2.2.1 va_S.rf hown (hts _ (in_TJ w_jdk.2.2.2.2.2.2.2.2.1)) (fun _ h => h) (show decode prog_19_method_54_code 1 = .ok (.getfield 9, 3) by decide +kernel) ?_
  refine va_tlen hx hb (hK.1 i hi).2.2.2 va_S.rf (v := nI (slen.getD i 0)) rfl (show decode prog_19_method_54_code 4 = .ok (.arraylength, 1) by decide +kernel) ?_
  refine lv_aload_n hx hb (show decode prog_19_method_54_code 5 = .ok (.aload_n 0, 1) by decide +kernel) rfl (lv_at hl 0 rfl) ?_
  obtain ⟨cell, h1, h2, h3, -⟩ := (hK.1 i hi).1
  refine J_back (v := some (.int 0)) (rest := [.int (nI (slen.getD i 0))]) (a := #[.ref (sa i)]) (va_runV (C := "java/lang/String") (As := []) (b := sa i) (rest := [.int (nI (slen.getD i 0))]) ⟨hx, hb, hml, hown, hts⟩ (j_coder (d := d) hi)
    ⟨callB_of 0 hts (good_TJ (fun w h => List.mem_cons_of_mem _ h) w_jdk.2.2.2.2.2.2.1) rfl rfl rfl (hts _ (in_TJ w_jdk.2.2.2.2.2.2.2.2.2.2)) (hts _ (in_TJ w_jdk.2.2.2.1)) ⟨by decide +kernel, by decide +kernel, by decide +kernel⟩ ⟨Nat.le_refl _, by show 8 + (1 + 11) + 64 * d ≤ 64 * (d + 1); omega⟩, hts _ (in_TJ w_jdk.2.2.2.2.1), hts _ (in_TJ w_jdk.2.2.2.2.2.1)⟩
    ⟨PJ.blind, ⟨cell, h1, h2, h3⟩, fun U hU hWm => ⟨rfl, by rw [hU]; exact hK.warm hWm (fun _ _ _ => rfl)⟩⟩ rfl rfl hl.1 rfl (lv_room (Nat.le_of_ble_eq_true rfl)) (show decode prog_19_method_54_code 6 = .ok (.invokevirtual 335, 3) by decide +kernel) ⟨Nat.le_refl _, Nat.le_refl _⟩) va_S.rf (fun locs' hS' => ?_)
  refine lv_ishr hx hb (show decode prog_19_method_54_code 9 = .ok (.ishr, 1) by decide +kernel) ?_
  rw [sh0 (slen_lt i hi)]
  exact W.iret hx hb hr (fun t ht _ => ⟨rfl, ht⟩) hS'.2.2 (show decode prog_19_method_54_code 10 = .ok (.ireturn, 1) by decide +kernel)
theorem j_pre {z : Value} {k n : Nat} (hz : z = .null ∨ ∃ t : Nat, z = .ref t) (hk : k < n) (hn : n < 1000) : Met l yPre (TJ yPre prog_27_method_11_code 3 (some .int)) (rmd d) (PJ B sa sv [.int (nI k), .int (nI n), z]) (QJ (some (.int (nI k)))) 0 0 (AB B) := by
  refine MJ_of (by decide) (by rcases hz with rfl | ⟨t, rfl⟩ <;> exact Nat.le_of_ble_eq_true rfl) fun p e s m args below meth c ls hx hb hml hr hown hts hlocks hK hl => ?_
  refine lv_iload_n hx hb (show decode prog_27_method_11_code 0 = .ok (.iload_n 0, 1) by decide +kernel) rfl (lv_at hl 0 rfl) ?_
  refine lv_if_lt hx hb (off := 8) (tgt := 9) (show decode prog_27_method_11_code 1 = .ok (.ifCond .lt 8, 3) by decide +kernel) (by decide) (fun h => absurd h (nI_pos (by omega))) (fun _ => ?_)
  refine lv_iload_n hx hb (show decode prog_27_method_11_code 4 = .ok (.iload_n 0, 1) by decide +kernel) rfl (lv_at hl 0 rfl) ?_
  refine lv_iload_n hx hb (show decode prog_27_method_11_code 5 = .ok (.iload_n 1, 1) by decide +kernel) rfl (lv_at hl 1 rfl) ?_
  refine lv_icmp_lt hx hb (off := 10) (tgt := 16) (show decode prog_27_method_11_code 6 = .ok (.if_icmp .lt 10, 3) by decide +kernel) (by decide) (fun _ => ?_) (fun h => absurd (nI_lt hk (by omega)) h)
  refine lv_iload_n hx hb (show decode prog_27_method_11_code 16 = .ok (.iload_n 0, 1) by decide +kernel) rfl (lv_at hl 0 rfl) ?_
  exact W.iret hx hb hr (fun t ht _ => ⟨rfl, ht⟩) (fun q hq => by cases hq) (show decode prog_27_method_11_code 17 = .ok (.ireturn, 1) by decide +kernel)
theorem j_chk {k n : Nat} (hk : k < n) (hn : n < 1000) : Met l yChk (TJ yChk prog_19_method_155_code 2 none) (rmd (d + 1)) (PJ B sa sv [.int (nI k), .int (nI n)]) (QJ none) 0 0 (AB B) := by
  refine MJ_of (by decide) (Nat.le_of_ble_eq_true rfl) fun p e s m args below meth c ls hx hb hml hr hown hts hlocks hK hl => ?_
  refine lv_iload_n hx hb (show decode prog_19_method_155_code 0 = .ok (.iload_n 0, 1) by decide +kernel) rfl (lv_at hl 0 rfl) ?_
  refine lv_iload_n hx hb (show decode prog_19_method_155_code 1 = .ok (.iload_n 1, 1) by decide +kernel) rfl (lv_at hl 1 rfl) ?_
  obtain ⟨z, hz, hZ⟩ : ∃ z : Value, (z = .null ∨ ∃ t : Nat, z = .ref t) ∧ va_Z "jdk/internal/util/Preconditions" "SIOOBE_FORMATTER" "Ljava/util/function/BiFunction;" z (AB B) s s.heap := by
    rcases hK.2.2.1 with h | ⟨t, h⟩
    · exact ⟨.null, Or.inl rfl, h⟩
    · exact ⟨.ref t, Or.inr ⟨t, rfl⟩, h⟩
  refine va_gets hx hb hZ va_S.rf hown (hts _ (in_TJ w_jdk3.2.2.2.1)) (fun _ h => h) (show decode prog_19_method_155_code 2 = .ok (.getstatic 1053, 3) by decide +kernel) ?_
  refine J_back (v := some (.int (nI k))) (rest := []) (a := #[.int (nI k), .int (nI n), z]) (va_runS (As := [.int (nI k), .int (nI n), z]) (rest := []) ⟨hx, hb, hml, hown, hts⟩ (j_pre (d := d) hz hk hn)
    ⟨callB_of 3 hts (good_TJ (fun w h => List.mem_cons_of_mem _ h) w_jdk3.2.2.2.2.2.2.1) rfl rfl rfl (hts _ (in_TJ w_jdk3.2.2.2.2.2.2.2)) (hts _ (in_TJ w_jdk3.2.2.2.2.1)) ⟨by decide +kernel, by decide +kernel, by decide +kernel⟩ ⟨Nat.le_refl _, by show 8 + (3 + 11) + 64 * d ≤ 64 * (d + 1); omega⟩, hts _ (in_TJ w_jdk3.2.2.2.2.2.1)⟩
    ⟨PJ.blind, fun U hU hWm => ⟨rfl, by rw [hU]; exact hK.warm hWm (fun _ _ _ => rfl)⟩⟩ rfl rfl hl.1 rfl (lv_room (Nat.le_of_ble_eq_true rfl)) (show decode prog_19_method_155_code 5 = .ok (.invokestatic 1059, 3) by decide +kernel) ⟨Nat.le_refl _, Nat.le_refl _⟩) va_S.rf (fun locs' hS' => ?_)
  refine lv_pop hx hb (show decode prog_19_method_155_code 8 = .ok (.pop, 1) by decide +kernel) rfl ?_
  exact W.vret hx hb hr (fun t ht _ => ⟨rfl, ht⟩) hS'.2.2 (show decode prog_19_method_155_code 9 = .ok (.return_, 1) by decide +kernel)
/-- the char at a place -/
def chS (i k : Nat) : Int32 := (sbyt.getD i []).getD k 0
theorem chS_c : ∀ i, i < 25 → ∀ k, k < slen.getD i 0 → ((chS i k &&& 255).toUInt32 % 65536).toInt32 = chS i k ∧ narrow .char (.int (chS i k)) = .int (chS i k) := by decide +kernel
theorem j_chL {k : Nat} (hi : i < 25) (hk : k < slen.getD i 0) : Met l yChL (TJ yChL prog_20_method_2_code 2 (some .char)) (rmd (d + 2)) (PJ B sa sv [.ref (sv i), .int (nI k)]) (QJ (some (.int (chS i k)))) 0 0 (AB B) := by
  have h1000 := slen_lt i hi
  refine MJ_of (by decide) (Nat.le_of_ble_eq_true rfl) fun p e s m args below meth c ls hx hb hml hr hown hts hlocks hK hl => ?_
  refine lv_iload_n hx hb (show decode prog_20_method_2_code 0 = .ok (.iload_n 1, 1) by decide +kernel) rfl (lv_at hl 1 rfl) ?_
  refine lv_aload_n hx hb (show decode prog_20_method_2_code 1 = .ok (.aload_n 0, 1) by decide +kernel) rfl (lv_at hl 0 rfl) ?_
  refine va_tlen hx hb (hK.1 i hi).2.2.2 va_S.rf (v := nI (slen.getD i 0)) rfl (show decode prog_20_method_2_code 2 = .ok (.arraylength, 1) by decide +kernel) ?_
  refine J_back (v := none) (rest := []) (a := #[.int (nI k), .int (nI (slen.getD i 0))]) (va_runS (As := [.int (nI k), .int (nI (slen.getD i 0))]) (rest := []) ⟨hx, hb, hml, hown, hts⟩ (j_chk (d := d) hk h1000)
    ⟨callB_of 2 hts (good_TJ (fun w h => List.mem_cons_of_mem _ h) w_jdk3.2.2.1) rfl rfl rfl (hts _ (in_TJ w_jdk.2.2.2.2.2.2.2.2.2.2)) (hts _ (in_TJ w_jdk3.1)) ⟨by decide +kernel, by decide +kernel, by decide +kernel⟩ ⟨Nat.le_refl _, by show 8 + (2 + 11) + 64 * (d + 1) ≤ 64 * (d + 2); omega⟩, hts _ (in_TJ w_jdk3.2.1)⟩
    ⟨PJ.blind, fun U hU hWm => ⟨rfl, by rw [hU]; exact hK.warm hWm (fun _ _ _ => rfl)⟩⟩ rfl rfl hl.1 rfl (lv_room (Nat.le_of_ble_eq_true rfl)) (show decode prog_20_method_2_code 3 = .ok (.invokestatic 9, 3) by decide +kernel) ⟨Nat.le_refl _, Nat.le_refl _⟩) va_S.rf (fun locs' hS' => ?_)
  refine lv_aload_n hx hb (show decode prog_20_method_2_code 6 = .ok (.aload_n 0, 1) by decide +kernel) rfl (lv_at hl 0 rfl) ?_
  refine lv_iload_n hx hb (show decode prog_20_method_2_code 7 = .ok (.iload_n 1, 1) by decide +kernel) rfl (lv_at hl 1 rfl) ?_
  refine va_tb hx hb (hK.1 i hi).2.2.2 hS' (i := nI k) (nI_in hk (by omega)) (v := .int (chS i k)) (by show Value.int ((sbyt.getD i []).getD (nI k).toNatClampNeg 0) = _; rw [nI_clamp (by omega)]; rfl) (show decode prog_20_method_2_code 8 = .ok (.baload, 1) by decide +kernel) ?_
  refine lv_sipush hx hb (v := 255) (show decode prog_20_method_2_code 9 = .ok (.sipush 255, 3) by decide +kernel) (by decide +kernel) ?_
  refine lv_iand hx hb (show decode prog_20_method_2_code 12 = .ok (.iand, 1) by decide +kernel) ?_
  refine lv_i2c hx hb (v := chS i k) (show decode prog_20_method_2_code 13 = .ok (.i2c, 1) by decide +kernel) (chS_c i hi k hk).1 ?_
  exact W.zret (ty := .char) hx hb hr (chS_c i hi k hk).2 (fun t ht _ => ⟨rfl, ht⟩) hS'.2.2 (show decode prog_20_method_2_code 14 = .ok (.ireturn, 1) by decide +kernel)
theorem j_charAt {k : Nat} (hi : i < 25) (hk : k < slen.getD i 0) : Met l yChr (TJ yChr prog_19_method_56_code 2 (some .char)) (rmd (d + 3)) (PJ B sa sv [.ref (sa i), .int (nI k)]) (QJ (some (.int (chS i k)))) 0 0 (AB B) := by
  have h1000 := slen_lt i hi
  refine MJ_of (by decide) (Nat.le_of_ble_eq_true rfl) fun p e s m args below meth c ls hx hb hml hr hown hts hlocks hK hl => ?_
  obtain ⟨cell, h1, h2, h3, -⟩ := (hK.1 i hi).1
  refine lv_aload_n hx hb (show decode prog_19_method_56_code 0 = .ok (.aload_n 0, 1) by decide +kernel) rfl (lv_at hl 0 rfl) ?_
  refine J_back (v := some (.int 1)) (rest := []) (a := #[.ref (sa i)]) (va_runV (C := "java/lang/String") (As := []) (b := sa i) (rest := []) ⟨hx, hb, hml, hown, hts⟩ (j_latin (d := d + 2) hi)
    ⟨callB_of 0 hts (good_TJ (fun w h => List.mem_cons_of_mem _ h) w_jdk2.2.2.2.2.2.2.1) rfl rfl rfl (hts _ (in_TJ w_jdk.2.2.2.2.2.2.2.2.2.2)) (hts _ (in_TJ w_jdk2.2.2.2.1)) ⟨by decide +kernel, by decide +kernel, by decide +kernel⟩ ⟨Nat.le_refl _, by show 8 + (1 + 11) + 64 * (d + 2) ≤ 64 * (d + 3); omega⟩, hts _ (in_TJ w_jdk2.2.2.2.2.1), hts _ (in_TJ w_jdk2.2.2.2.2.2.1)⟩
    ⟨PJ.blind, ⟨cell, h1, h2, h3⟩, fun U hU hWm => ⟨rfl, by rw [hU]; exact hK.warm hWm (fun _ _ _ => rfl)⟩⟩ rfl rfl hl.1 rfl (lv_room (Nat.le_of_ble_eq_true rfl)) (show decode prog_19_method_56_code 1 = .ok (.invokevirtual 492, 3) by decide +kernel) ⟨Nat.le_refl _, Nat.le_refl _⟩) va_S.rf (fun locs' hS' => ?_)
  refine lv_if_eq hx hb (off := 12) (tgt := 16) (show decode prog_19_method_56_code 4 = .ok (.ifCond .eq 12, 3) by decide +kernel) (by decide) (fun h => absurd h (by decide +kernel)) (fun _ => ?_)
  refine lv_aload_n hx hb (show decode prog_19_method_56_code 7 = .ok (.aload_n 0, 1) by decide +kernel) rfl (lv_at hl 0 rfl) ?_
  refine vk_getf hx hb (hK.1 i hi).2.2.1 hS' hown (hts _ (in_TJ w_jdk.2.2.2.2.2.2.2.2.1)) (fun _ h => h) (show decode prog_19_method_56_code 8 = .ok (.getfield 9, 3) by decide +kernel) ?_
  refine lv_iload_n hx hb (show decode prog_19_method_56_code 11 = .ok (.iload_n 1, 1) by decide +kernel) rfl (lv_at hl 1 rfl) ?_
  refine J_back (v := some (.int (chS i k))) (rest := []) (a := #[.ref (sv i), .int (nI k)]) (va_runS (As := [.ref (sv i), .int (nI k)]) (rest := []) ⟨hx, hb, hml, hown, hts⟩ (j_chL (d := d) hi hk)
    ⟨callB_of 2 hts (good_TJ (fun w h => List.mem_cons_of_mem _ h) w_jdk2.2.2.2.2.2.2.2.2.2.1) rfl rfl rfl (hts _ (in_TJ w_jdk2.2.2.2.2.2.2.2.2.2.2)) (hts _ (in_TJ w_jdk2.2.2.2.2.2.2.2.1)) ⟨by decide +kernel, by decide +kernel, by decide +kernel⟩ ⟨Nat.le_refl _, by show 8 + (2 + 11) + 64 * (d + 2) ≤ 64 * (d + 3); omega⟩, hts _ (in_TJ w_jdk2.2.2.2.2.2.2.2.2.1)⟩
    ⟨PJ.blind, fun U hU hWm => ⟨rfl, by rw [hU]; exact hK.warm hWm (fun _ _ _ => rfl)⟩⟩ rfl rfl hl.1 rfl (lv_room (Nat.le_of_ble_eq_true rfl)) (show decode prog_19_method_56_code 12 = .ok (.invokestatic 495, 3) by decide +kernel) ⟨Nat.le_refl _, Nat.le_refl _⟩) hS' (fun locs2 hS2 => ?_)
  exact W.zret (ty := .char) hx hb hr (chS_c i hi k hk).2 (fun t ht _ => ⟨rfl, ht⟩) hS2.2.2 (show decode prog_19_method_56_code 15 = .ok (.ireturn, 1) by decide +kernel)
end
/-- the two calls in our own methods: oc is the caller's class, wi the place of the link's word -/
theorem G_len {d mi pc ix wi : Nat} {lv : LV} {st : List Value} {r : Rr} {g : Gi} {j : Gl} {Q : QT} {k : Nat} (hd : decode (mB mi) pc = .ok (.invokevirtual ix, 3)) (hw : wordOf wi (.methodLink (Rn (mO mi)) ix yLen) = true) (hk : k < 25) (hst : (st.map fun v => v.category).sum ≤ 8)
    (h : G (d + 2) mi (pc + 3) lv (.int (nI (slen.getD k 0)) :: st) r g j Q) : G (d + 2) mi pc lv (.float (UInt32.ofNat k) :: st) r g j Q := by
  intro p l e s m args below meth c D CA B sa sv H locs ls F hS hW hl
  have hts := F.2.2.2.2.2.1
  have hK : KJ B sa sv s s.heap := F.2.2.2.2.2.2.2.2.2.1
  obtain ⟨cell, h1, h2, h3, -⟩ := (hK.1 k hk).1.kept hS.2.1
  have e0 : trs B sa (.float (UInt32.ofNat k) :: st) = .ref (sa k) :: trs B sa st := by
    show Value.ref (sa (UInt32.ofNat k).toNat) :: _ = _
    rw [u32_nat hk]; rfl
  rw [e0]
  refine J_back (v := some (.int (nI (slen.getD k 0)))) (rest := trs B sa st) (a := #[.ref (sa k)]) (va_runV (C := "java/lang/String") (As := []) (b := sa k) (rest := trs B sa st) ⟨F.1, F.2.1, F.2.2.1, F.2.2.2.2.1, hts⟩ (j_length (d := d) (B := B) (sa := sa) (sv := sv) hk)
    ⟨callB_of 0 hts (good_TJ (fun w h => List.mem_cons_of_mem _ h) w_jdk.2.2.1) rfl rfl rfl (hts _ (in_TS w_jdk.2.2.2.2.2.2.2.2.2.2)) (hts _ (in_TS hw)) ⟨by decide +kernel, by decide +kernel, by decide +kernel⟩ ⟨Nat.le_refl _, by show 8 + (1 + 11) + 64 * (d + 1) ≤ 64 * (d + 2); omega⟩, hts _ (in_TS w_jdk.1), hts _ (in_TS w_jdk.2.1)⟩
    ⟨PJ.blind, ⟨cell, h1, h2, h3⟩, fun U hU hWm => ⟨rfl, by rw [hU]; exact hK.warm hWm (fun q h1 h2 => hS.2.1 q h1 h2)⟩⟩ rfl rfl hl.1 rfl (lv_room (by rw [cat_tr]; exact hst)) hd ⟨Nat.le_refl _, Nat.le_refl _⟩) hS (fun locs' hS' => ?_)
  exact h p l e s m args below meth c D CA B sa sv H locs' ls F hS' hW hl
theorem G_chr {d mi pc ix wi : Nat} {lv : LV} {st : List Value} {r : Rr} {g : Gi} {j : Gl} {Q : QT} {k q : Nat} {x : Int32} (hd : decode (mB mi) pc = .ok (.invokevirtual ix, 3)) (hw : wordOf wi (.methodLink (Rn (mO mi)) ix yChr) = true) (hk : k < 25) (hx : x = nI q) (hq : q < slen.getD k 0) (hst : (st.map fun v => v.category).sum ≤ 8)
    (h : G (d + 4) mi (pc + 3) lv (.int (chS k q) :: st) r g j Q) : G (d + 4) mi pc lv (.int x :: .float (UInt32.ofNat k) :: st) r g j Q := by
  subst hx
  intro p l e s m args below meth c D CA B sa sv H locs ls F hS hW hl
  have hts := F.2.2.2.2.2.1
  have hK : KJ B sa sv s s.heap := F.2.2.2.2.2.2.2.2.2.1
  obtain ⟨cell, h1, h2, h3, -⟩ := (hK.1 k hk).1.kept hS.2.1
  have e0 : trs B sa (.int (nI q) :: .float (UInt32.ofNat k) :: st) = .int (nI q) :: .ref (sa k) :: trs B sa st := by
    show Value.int (nI q) :: Value.ref (sa (UInt32.ofNat k).toNat) :: _ = _
    rw [u32_nat hk]; rfl
  rw [e0]
  refine J_back (v := some (.int (chS k q))) (rest := trs B sa st) (a := #[.ref (sa k), .int (nI q)]) (va_runV (C := "java/lang/String") (As := [.int (nI q)]) (b := sa k) (rest := trs B sa st) ⟨F.1, F.2.1, F.2.2.1, F.2.2.2.2.1, hts⟩ (j_charAt (d := d) (B := B) (sa := sa) (sv := sv) hk hq)
    ⟨callB_of 1 hts (good_TJ (fun w h => List.mem_cons_of_mem _ h) w_jdk2.2.2.1) rfl rfl rfl (hts _ (in_TS w_jdk.2.2.2.2.2.2.2.2.2.2)) (hts _ (in_TS hw)) ⟨by decide +kernel, by decide +kernel, by decide +kernel⟩ ⟨Nat.le_refl _, by show 8 + (2 + 11) + 64 * (d + 3) ≤ 64 * (d + 4); omega⟩, hts _ (in_TS w_jdk2.1), hts _ (in_TS w_jdk2.2.1)⟩
    ⟨PJ.blind, ⟨cell, h1, h2, h3⟩, fun U hU hWm => ⟨rfl, by rw [hU]; exact hK.warm hWm (fun q h1 h2 => hS.2.1 q h1 h2)⟩⟩ rfl rfl hl.1 rfl (lv_room (by rw [cat_tr]; exact hst)) hd ⟨Nat.le_refl _, Nat.le_refl _⟩) hS (fun locs' hS' => ?_)
  exact h p l e s m args below meth c D CA B sa sv H locs' ls F hS' hW hl
