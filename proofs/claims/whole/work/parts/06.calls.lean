/-! THE ABSTRACT MACHINE, fourth part: calls and returns -/
theorem mcw_in {i : Nat} (h : i < 254) : mcw (mt i) ∈ GT := by
  have key : wordAt (mt i).2.2.2.2.2 = some (mcw (mt i)) := by
    have h1 : i / 32 < 8 := by omega
    have aux : ∀ (l : List MT) (k : Nat) (dd : MT), l.map (fun m => some (mcw m)) = l.map (fun m => wordAt m.2.2.2.2.2) → k < l.length → wordAt ((l[k]?).getD dd).2.2.2.2.2 = some (mcw ((l[k]?).getD dd)) := by
      intro l k dd he hk
      have e1 : (l.map (fun m => some (mcw m)))[k]? = (l.map (fun m => wordAt m.2.2.2.2.2))[k]? := by rw [he]
      rw [List.getElem?_map, List.getElem?_map, List.getElem?_eq_getElem hk] at e1
      rw [List.getElem?_eq_getElem hk]
      simpa using e1.symm
    have h2 : i % 32 < 32 := Nat.mod_lt _ (by decide)
    unfold mt
    rcases (show i / 32 = 0 ∨ i / 32 = 1 ∨ i / 32 = 2 ∨ i / 32 = 3 ∨ i / 32 = 4 ∨ i / 32 = 5 ∨ i / 32 = 6 ∨ i / 32 = 7 by omega) with e | e | e | e | e | e | e | e <;> rw [e]
    · exact aux mtL0 _ _ mcw0 h2
    · exact aux mtL1 _ _ mcw1 h2
    · exact aux mtL2 _ _ mcw2 h2
    · exact aux mtL3 _ _ mcw3 h2
    · exact aux mtL4 _ _ mcw4 h2
    · exact aux mtL5 _ _ mcw5 h2
    · exact aux mtL6 _ _ mcw6 h2
    · have h3 : i % 32 < 30 := by omega
      have e2 : ∀ (dd : MT), (mtL7[i % 32]?).getD dd = ((mtL7.take 30)[i % 32]?).getD dd := by
        intro dd
        rw [List.getElem?_take_of_lt h3]
      show wordAt (((mtL7)[i % 32]?).getD _).2.2.2.2.2 = some (mcw (((mtL7)[i % 32]?).getD _))
      rw [e2]
      exact aux (mtL7.take 30) _ _ mcw7 h3
  exact List.mem_filter.mpr ⟨wordAt_in key, rfl⟩
theorem good_GT {big ws : List Cond} (hb : ∀ w ∈ GT, w ∈ big) (h : ∀ w ∈ ws, w ∈ GT) : GoodIn big ws := fun w hw => ⟨hb w (h w hw), good_of_word (List.mem_filter.mp (h w hw)).2⟩
theorem good_TS {mi mk : Nat} (hk : mk < 254) : GoodIn (TS mi) (TS mk) := good_GT (fun w h => List.mem_cons_of_mem _ h) (fun w h => by
  rcases List.mem_cons.mp h with rfl | h
  · exact mcw_in hk
  · exact h)
theorem PC.blind {D : va_G} {CA : Nat → ClassId} {B : Nat} {sa sv : Nat → Nat} {as : List Value} {r : Rr} {g : Gi} {j : Gl} : FrameBlind (PC D CA B sa sv as r g j) := fun a U gg mk h => ⟨h.1, h.2.1.same rfl, h.2.2⟩
/-- behind a call -/
theorem G_back {d mi pc : Nat} {lv : LV} {st st0 : List Value} {Q : QT} {p : Program} {l : Launch} {e : Env} {s : State} {m : MethodId} {args : Array Value} {below : List Frame} {meth : Method} {c : Code} {D : va_G} {CA : Nat → ClassId} {B : Nat} {sa sv : Nat → Nat} {H : Heap} {locs : List Loc} {ls : Array Slot} {a : Array Value}
    (hr : va_Run p l e (rmd d) s m args below meth c H locs 0 0 0 0 (F0 m pc ls st0) (trs B sa st) (QC D CA B sa (fun v r g j => G d mi (pc + 3) lv (v.toList ++ st) r g j Q) a) (AB B))
    (F : Fx p s m args meth c mi D CA B sa sv) (hS : va_S (AB B) s.heap H locs) (hl : lv_has ls (mL mi) (trl B sa lv)) : W p l e (rmd d) s m args below meth c H locs 0 0 (MQ below (QC D CA B sa Q) args s 0 0 (AB B)) (F0 m pc ls st0) := by
  intro T hT X
  obtain ⟨v, st₀, t, T', L, h0, X', hL, e1, e2, ⟨⟨v', r', g', j', hv, hG, hW'⟩, hF⟩, stp⟩ := hr T hT X
  injection hv with hv
  subst hv
  have hS' : va_S (AB B) s.heap t.heap (locs ++ L) := by
    have hz := hF.1
    rw [h0] at hz
    refine ⟨Nat.le_trans hS.1 hz, fun q h1 h2 => ?_, fun q hq => ?_⟩
    · rw [hF.2 q (by rw [h0]; exact Nat.lt_of_lt_of_le h1 hS.1) h2, h0]
      exact hS.2.1 q h1 h2
    · rcases List.mem_append.mp hq with h | h
      · exact hS.2.2 q h
      · exact hL q h
  obtain ⟨t2, a1, b1⟩ := hG p l e s m args below meth c D CA B sa sv t.heap (locs ++ L) ls F hS' hW' hl T' e1 X'
  refine ⟨t2, stp t2 ?_, b1⟩
  have ef : ((v'.map (tr B sa)).toList ++ trs B sa st) = trs B sa (v'.toList ++ st) := by cases v' <;> rfl
  rw [ef]
  exact a1
theorem rm_ok {d mk : Nat} (h : mL mk ≤ 24) : (rmd d).frames + 1 ≤ (rmd (d + 1)).frames ∧ 8 + (mL mk + 11) + (rmd d).locals ≤ (rmd (d + 1)).locals := by
  refine ⟨Nat.le_refl _, ?_⟩
  show 8 + (mL mk + 11) + 64 * d ≤ 64 * (d + 1)
  omega
theorem cat_tr {B : Nat} {sa : Nat → Nat} (st : List Value) : ((trs B sa st).map fun v => v.category).sum = (st.map fun v => v.category).sum := by
  unfold trs
  rw [List.map_map]
  congr 1
  apply List.map_congr_left
  intro v _
  exact tr_cat B sa v
theorem mk_ok {mk : Nat} (h : mk < 254) : mL mk ≤ 24 ∧ (mY mk).cls ≠ "java/lang/invoke/MethodHandle" ∧ (mY mk).cls ≠ "java/lang/invoke/VarHandle" ∧ Rn (mO mk) = (mY mk).cls := by
  have hk := mt_ok h
  simp only [mtOk, Bool.and_eq_true, decide_eq_true_eq] at hk
  exact ⟨Nat.le_of_ble_eq_true hk.2.1, hk.2.2.2.1, hk.2.2.2.2, hk.2.2.1⟩
theorem G_callV {d mi pc : Nat} {lv : LV} {st : List Value} {r : Rr} {g : Gi} {j : Gl} {Q : QT} {ix mk n a : Nat} {pl : List Nat} {as : List Value} (hd : decode (mB mi) pc = .ok (.invokevirtual ix, 3)) (hq : lk2 (mlT (mO mi)) ix = some (0, mk, n, pl)) (hn : as.length = n) (ha : SH a = some (.inl (mO mk))) (hst : (st.map fun v => v.category).sum ≤ 8)
    (h : Cm d mk (.ref a :: as) r g j (fun v r g j => G (d + 1) mi (pc + 3) lv (v.toList ++ st) r g j Q)) : G (d + 1) mi pc lv (as.reverse ++ .ref a :: st) r g j Q := by
  intro p l e s m args below meth c D CA B sa sv H locs ls F hS hW hl
  have hok := List.all_eq_true.mp (mlT_ok (mO mi)) _ (lk2_mem hq)
  unfold mlOk at hok
  match pl, hok with
  | [i0, i1, i2, i3], hok =>
    simp only [Bool.and_eq_true, decide_eq_true_eq] at hok
    obtain ⟨w0, w1, w2, w3, hp, hm, hk⟩ := hok
    have hmk : mk < 254 := Nat.le_of_ble_eq_true hk
    have hmo : mO mk < 11 := Nat.le_of_ble_eq_true hm
    obtain ⟨k1, k2, k3, k4⟩ := mk_ok hmk
    obtain ⟨cell, q1, q2, q3, q4⟩ := hW.1 a _ ha
    obtain ⟨hSl, hfc, kC, hkC, hkind⟩ := F.2.2.2.2.2.2.2.1 _ hmo
    have hts := F.2.2.2.2.2.1
    have hK := F.2.2.2.2.2.2.2
    refine G_back (a := (Value.ref (B + a) :: as.map (tr B sa)).toArray) (lv := lv) (Q := Q) (st := st) (va_runV (C := (mY mk).cls) (As := as.map (tr B sa)) (b := B + a) (rest := trs B sa st) ⟨F.1, F.2.1, F.2.2.1, F.2.2.2.2.1, hts⟩ (h l D CA B sa sv)
      ⟨callB_of n hts (good_TS hmk) rfl rfl rfl (hts _ (in_TS w3)) (hts _ (in_TS w0)) ⟨k2, k3, hp⟩ (rm_ok k1), hts _ (in_TS w1), hts _ (in_TS w2)⟩
      ⟨PC.blind, ⟨cell, q1, by rw [q3]; rfl, by rw [q2, ← k4]; exact hfc⟩, fun U hU hWm => ⟨rfl, by rw [hU]; exact hK.warm hWm (fun q h1 h2 => hS.2.1 q h1 h2), by rw [hU]; exact hW⟩⟩
      rfl (by rw [List.length_map]; exact hn) hl.1 (by show trs B sa (as.reverse ++ .ref a :: st) = _; simp [trs, List.map_reverse, tr]) (lv_room (by rw [cat_tr]; exact hst)) hd ⟨Nat.le_refl _, Nat.le_refl _⟩) F hS hl
theorem G_callS {d mi pc : Nat} {lv : LV} {st : List Value} {r : Rr} {g : Gi} {j : Gl} {Q : QT} {ix mk n : Nat} {pl : List Nat} {as : List Value} (hd : decode (mB mi) pc = .ok (.invokestatic ix, 3)) (hq : lk2 (mlT (mO mi)) ix = some (1, mk, n, pl)) (hn : as.length = n) (hst : (st.map fun v => v.category).sum ≤ 8)
    (h : Cm d mk as r g j (fun v r g j => G (d + 1) mi (pc + 3) lv (v.toList ++ st) r g j Q)) : G (d + 1) mi pc lv (as.reverse ++ st) r g j Q := by
  intro p l e s m args below meth c D CA B sa sv H locs ls F hS hW hl
  have hok := List.all_eq_true.mp (mlT_ok (mO mi)) _ (lk2_mem hq)
  unfold mlOk at hok
  match pl, hok with
  | [i0, i1, i2], hok =>
    simp only [Bool.and_eq_true, decide_eq_true_eq] at hok
    obtain ⟨w0, w1, w2, hp, hk⟩ := hok
    have hmk : mk < 254 := Nat.le_of_ble_eq_true hk
    obtain ⟨k1, k2, k3, k4⟩ := mk_ok hmk
    have hts := F.2.2.2.2.2.1
    have hK := F.2.2.2.2.2.2.2
    refine G_back (a := (as.map (tr B sa)).toArray) (lv := lv) (Q := Q) (st := st) (va_runS (As := as.map (tr B sa)) (rest := trs B sa st) ⟨F.1, F.2.1, F.2.2.1, F.2.2.2.2.1, hts⟩ (h l D CA B sa sv)
      ⟨callB_of n hts (good_TS hmk) rfl rfl rfl (hts _ (in_TS w2)) (hts _ (in_TS w0)) ⟨k2, k3, hp⟩ (rm_ok k1), hts _ (in_TS w1)⟩
      ⟨PC.blind, fun U hU hWm => ⟨rfl, by rw [hU]; exact hK.warm hWm (fun q h1 h2 => hS.2.1 q h1 h2), by rw [hU]; exact hW⟩⟩
      rfl (by rw [List.length_map]; exact hn) hl.1 (by show trs B sa (as.reverse ++ st) = _; simp [trs, List.map_reverse]) (lv_room (by rw [cat_tr]; exact hst)) hd ⟨Nat.le_refl _, Nat.le_refl _⟩) F hS hl
set_option maxRecDepth 100000 in
theorem w_max : wordOf 3183 (.static Lib.Math.max.name) = true ∧ wordOf 3184 (.code Lib.Math.max.name Lib.Math.max.code 2 (some .int)) = true ∧ wordOf 1012 (.initialized "java/lang/Math") = true := by decide +kernel
theorem G_max {d mi pc : Nat} {lv : LV} {st : List Value} {r : Rr} {g : Gi} {j : Gl} {Q : QT} {ix mk n : Nat} {pl : List Nat} {x y : Int32} (hd : decode (mB mi) pc = .ok (.invokestatic ix, 3)) (hq : lk2 (mlT (mO mi)) ix = some (2, mk, n, pl)) (hst : (st.map fun v => v.category).sum ≤ 8) (h : G (d + 1) mi (pc + 3) lv (.int (if x < y then y else x) :: st) r g j Q) : G (d + 1) mi pc lv (.int y :: .int x :: st) r g j Q := by
  intro p l e s m args below meth c D CA B sa sv H locs ls F hS hW hl
  have hok := List.all_eq_true.mp (mlT_ok (mO mi)) _ (lk2_mem hq)
  unfold mlOk at hok
  match pl, hok with
  | [i0], hok =>
    have hts := F.2.2.2.2.2.1
    exact va_mmax F.1 F.2.1 (by rw [F.2.2.1, hl.1]) F.2.2.2.2.1 (hts _ (in_TS hok)) (hts _ (in_TS w_max.1)) (hts _ (in_TS w_max.2.2)) (hts _ (in_TS w_max.2.1)) (by show 1 ≤ d + 1; omega) (by rw [show ((List.map (tr B sa) st).map fun v => v.category).sum = _ from cat_tr st]; show _ ≤ 64 * (d + 1); omega) (Nat.zero_le _) (Nat.zero_le _) hd (h p l e s m args below meth c D CA B sa sv H locs ls F hS hW hl)
set_option maxRecDepth 100000 in
theorem w_min : wordOf 2238 (.static Lib.Math.min.name) = true ∧ wordOf 2239 (.code Lib.Math.min.name Lib.Math.min.code 2 (some .int)) = true ∧ wordOf 1012 (.initialized "java/lang/Math") = true := by decide +kernel
theorem G_min {d mi pc : Nat} {lv : LV} {st : List Value} {r : Rr} {g : Gi} {j : Gl} {Q : QT} {ix mk n : Nat} {pl : List Nat} {x y : Int32} (hd : decode (mB mi) pc = .ok (.invokestatic ix, 3)) (hq : lk2 (mlT (mO mi)) ix = some (3, mk, n, pl)) (hst : (st.map fun v => v.category).sum ≤ 8) (h : G (d + 1) mi (pc + 3) lv (.int (if y < x then y else x) :: st) r g j Q) : G (d + 1) mi pc lv (.int y :: .int x :: st) r g j Q := by
  intro p l e s m args below meth c D CA B sa sv H locs ls F hS hW hl
  have hok := List.all_eq_true.mp (mlT_ok (mO mi)) _ (lk2_mem hq)
  unfold mlOk at hok
  match pl, hok with
  | [i0], hok =>
    have hts := F.2.2.2.2.2.1
    exact va_mmin F.1 F.2.1 (by rw [F.2.2.1, hl.1]) F.2.2.2.2.1 (hts _ (in_TS hok)) (hts _ (in_TS w_min.1)) (hts _ (in_TS w_min.2.2)) (hts _ (in_TS w_min.2.1)) (by show 1 ≤ d + 1; omega) (by rw [show ((List.map (tr B sa) st).map fun v => v.category).sum = _ from cat_tr st]; show _ ≤ 64 * (d + 1); omega) (Nat.zero_le _) (Nat.zero_le _) hd (h p l e s m args below meth c D CA B sa sv H locs ls F hS hW hl)
set_option maxRecDepth 100000 in
theorem w_copy : wordOf 5048 (.static arraycopyName) = true ∧ wordOf 5049 (.native arraycopyName) = true ∧ wordOf 1017 (.initialized "java/lang/System") = true := by decide +kernel
theorem w_words : nativeFrameWords "java/lang/System" "arraycopy" 5 + 11 ≤ 50 := by decide +kernel
theorem nI_nn {q : Nat} (h : q < 2 ^ 31) : ¬ nI q < 0 ∧ (nI q).toInt = (q : Int) ∧ (nI q).toNatClampNeg = q := ⟨nI_pos h, nI_toInt h, nI_clamp h⟩
def cpJ (g : Gi) (a b sp dp n : Nat) : Gi := fun a' => bif Nat.beq a' b then va_cpy (g a) (g b) sp dp n else g a'
theorem G_copyJ {d mi pc : Nat} {lv : LV} {st : List Value} {r : Rr} {g : Gi} {j : Gl} {Q : QT} {ix mk nn a b n0 n1 n2 sp2 dp2 : Nat} {pl : List Nat} {n sp dp : Int32} (hd : decode (mB mi) pc = .ok (.invokestatic ix, 3)) (hq : lk2 (mlT (mO mi)) ix = some (4, mk, nn, pl)) (hst : (st.map fun v => v.category).sum ≤ 8) (ha : SH a = some (.inr (0, n0))) (hb : SH b = some (.inr (0, n1))) (e1 : n = nI n2) (e2 : sp = nI sp2) (e3 : dp = nI dp2) (e4 : sp2 + n2 ≤ n0) (e5 : dp2 + n2 ≤ n1)
    (h : G (d + 1) mi (pc + 3) lv st r (cpJ g a b sp2 dp2 n2) j Q) : G (d + 1) mi pc lv (.int n :: .int dp :: .ref b :: .int sp :: .ref a :: st) r g j Q := by
  intro p l e s m args below meth c D CA B sa sv H locs ls F hS hW hl
  have hok := List.all_eq_true.mp (mlT_ok (mO mi)) _ (lk2_mem hq)
  unfold mlOk at hok
  match pl, hok with
  | [i0], hok =>
    have hts := F.2.2.2.2.2.1
    obtain ⟨h1, h2⟩ := sh_ok ha
    obtain ⟨h3, h4⟩ := sh_ok hb
    subst e1; subst e2; subst e3
    obtain ⟨a1, a2, a3⟩ := nI_nn (show n2 < 2 ^ 31 by omega)
    obtain ⟨b1, b2, b3⟩ := nI_nn (show sp2 < 2 ^ 31 by omega)
    obtain ⟨c1, c2, c3⟩ := nI_nn (show dp2 < 2 ^ 31 by omega)
    have hc0 : H[B + a]? = some (arrV (CA 0) n0 (fun z => Value.int (g a z))) := hW.2.1 a 0 n0 ha
    have hc1 : H[B + b]? = some (arrV (CA 0) n1 (fun z => Value.int (g b z))) := hW.2.1 b 0 n1 hb
    obtain ⟨-, k0, hk0, cm0, hkk0⟩ := (F.2.2.2.2.2.2.2.2.1 0 h1).1 n0 (fun z => Value.int (g a z))
    obtain ⟨-, k1, hk1, cm1, hkk1⟩ := (F.2.2.2.2.2.2.2.2.1 0 h1).1 n1 (fun z => Value.int (g b z))
    intro T hT X
    obtain ⟨vm', X', step⟩ := X.arraycopy F.1 F.2.2.2.2.1 (hts _ (in_TS hok)) (hts _ (in_TS w_copy.2.1)) (hts _ (in_TS w_copy.1)) (hts _ (in_TS w_copy.2.2)) (src := B + a) (dst := B + b) (srcPos := nI sp2) (destPos := nI dp2) (n := nI n2) (by rw [hT]; exact hc0) (by rw [hT]; exact hc1)
      (fun _ h => by cases h) (fun _ h => by cases h) (fun h => by cases h) (fun h => by cases h) hk0 hk1 hkk0 hkk1 (by decide +kernel) b1 c1 a1
      (by rw [b2, a2, arrV_size]; omega) (by rw [c2, a2, arrV_size]; omega)
      (fun vm₁ _ i hi => by
        rw [a3] at hi
        have e : (arrV (CA 0) n0 (fun z => Value.int (g a z))).slots.getD ((nI sp2).toNatClampNeg + i) .null = .int (g a (sp2 + i)) := by
          rw [b3, Array.getD_eq_getD_getElem?, arrV_read _ _ (by omega)]
          rfl
        exact ⟨by rw [e]; rfl, by rw [e]; exact trivial⟩)
      (g := F0 m pc ls (trs B sa (.int (nI n2) :: .int (nI dp2) :: .ref b :: .int (nI sp2) :: .ref a :: st))) rfl (by rw [F.2.2.1]; exact hl.1) (rest := trs B sa st) rfl (by rw [F.2.1]; exact hd) (by show 1 ≤ d + 1; omega) (by rw [cat_tr]; show 2 * 0 + _ + _ ≤ 64 * (d + 1); have hw := w_words; omega)
    have e1 : copied (arrV (CA 0) n0 (fun z => Value.int (g a z))) (arrV (CA 0) n1 (fun z => Value.int (g b z))) (nI sp2) (nI dp2) (nI n2) = arrV (CA 0) n1 (fun z => .int (va_cpy (g a) (g b) sp2 dp2 n2 z)) := by
      have e0 := va_copied (fun z => Value.int z) (CA 0) (CA 0) (n1 := n1) (dp := dp2) (g a) (g b) e4
      unfold copied
      rw [a3, b3, c3]
      exact e0
    rw [e1] at X' step
    have hlt : B + b < H.size := (Array.getElem?_eq_some_iff.mp hc1).1
    have hheap : ((T.setVm vm').setCell (B + b) (arrV (CA 0) n1 (fun z => .int (va_cpy (g a) (g b) sp2 dp2 n2 z)))).heap = H.setIfInBounds (B + b) (arrV (CA 0) n1 (fun z => .int (va_cpy (g a) (g b) sp2 dp2 n2 z))) := by rw [← hT]; rfl
    have oq : ∀ q : Nat, q ≠ B + b → (H.setIfInBounds (B + b) (arrV (CA 0) n1 (fun z => .int (va_cpy (g a) (g b) sp2 dp2 n2 z))))[q]? = H[q]? := fun q hq => by simp [Array.getElem?_setIfInBounds, Ne.symm hq]
    have hW' : Wd D CA B r (cpJ g a b sp2 dp2 n2) j (H.setIfInBounds (B + b) (arrV (CA 0) n1 (fun z => .int (va_cpy (g a) (g b) sp2 dp2 n2 z)))) := by
      refine hW.setA hb oq (fun _ _ => rfl) (fun z hz => by unfold cpJ; rw [beq_ne hz]; rfl) (fun _ _ => rfl) ?_ (fun z q hz => hW.2.2 b z q hz)
      have e5 : ∀ z, fv B (aT 0) (r b z) (cpJ g a b sp2 dp2 n2 b z) (j b z) = .int (va_cpy (g a) (g b) sp2 dp2 n2 z) := fun z => by
        rw [fv_0 rfl]; unfold cpJ; rw [beq_same]; rfl
      simp only [e5]
      simp [Array.getElem?_setIfInBounds, hlt]
    have hS' : va_S (AB B) s.heap (H.setIfInBounds (B + b) (arrV (CA 0) n1 (fun z => .int (va_cpy (g a) (g b) sp2 dp2 n2 z)))) (locs ++ ((arrV (CA 0) n0 (fun z => Value.int (g a z))).stretch (nI sp2).toNatClampNeg (nI n2).toNatClampNeg).zipIdx.map fun q => ⟨B + b, (nI dp2).toNatClampNeg + q.2⟩) := by
      refine ⟨by simp; exact hS.1, fun q g1 g2 => ?_, fun q hq => ?_⟩
      · rw [oq q (fun e => g2 (by rw [e]; exact Nat.le_add_right B b))]
        exact hS.2.1 q g1 g2
      · rcases List.mem_append.mp hq with h | h
        · exact hS.2.2 q h
        · obtain ⟨z, -, hz⟩ := List.mem_map.mp h
          rw [← hz]
          exact Nat.le_add_right B b
    obtain ⟨t, x1, y1⟩ := h p l e s m args below meth c D CA B sa sv _ _ ls F hS' hW' hl _ hheap X'
    exact ⟨t, step t x1, y1⟩
theorem G_iret {d mi pc : Nat} {lv : LV} {r : Rr} {g : Gi} {j : Gl} {Q : QT} {x : Int32} (hd : decode (mB mi) pc = .ok (.ireturn, 1)) (hr : mR mi = some .int) (h : Q (some (.int x)) r g j) : G d mi pc lv [.int x] r g j Q := by
  intro p l e s m args below meth c D CA B sa sv H locs ls F hS hW hl
  have hlocks := F.2.2.2.2.2.2.1
  exact W.iret (v := x) F.1 F.2.1 (by rw [F.2.2.2.1, hr]) (fun t ht _ => ⟨⟨some (.int x), r, g, j, rfl, h, by rw [ht]; exact hW⟩, hS.F ht⟩) hS.2.2 hd
theorem G_zret {d mi pc : Nat} {lv : LV} {r : Rr} {g : Gi} {j : Gl} {Q : QT} {x : Int32} (hd : decode (mB mi) pc = .ok (.ireturn, 1)) (hr : mR mi = some .boolean) (hx : x = 0 ∨ x = 1) (h : Q (some (.int x)) r g j) : G d mi pc lv [.int x] r g j Q := by
  intro p l e s m args below meth c D CA B sa sv H locs ls F hS hW hl
  have hlocks := F.2.2.2.2.2.2.1
  exact W.zret (v := x) F.1 F.2.1 (by rw [F.2.2.2.1, hr]) (narI .boolean x (Or.inr ⟨rfl, hx⟩)).1 (fun t ht _ => ⟨⟨some (.int x), r, g, j, rfl, h, by rw [ht]; exact hW⟩, hS.F ht⟩) hS.2.2 hd
theorem G_lret {d mi pc : Nat} {lv : LV} {r : Rr} {g : Gi} {j : Gl} {Q : QT} {x : Int64} (hd : decode (mB mi) pc = .ok (.lreturn, 1)) (hr : mR mi = some .long) (h : Q (some (.long x)) r g j) : G d mi pc lv [.long x] r g j Q := by
  intro p l e s m args below meth c D CA B sa sv H locs ls F hS hW hl
  have hlocks := F.2.2.2.2.2.2.1
  exact W.lret (v := x) F.1 F.2.1 (by rw [F.2.2.2.1, hr]) (fun t ht _ => ⟨⟨some (.long x), r, g, j, rfl, h, by rw [ht]; exact hW⟩, hS.F ht⟩) hS.2.2 hd
theorem G_vret {d mi pc : Nat} {lv : LV} {r : Rr} {g : Gi} {j : Gl} {Q : QT} (hd : decode (mB mi) pc = .ok (.return_, 1)) (hr : mR mi = none) (h : Q none r g j) : G d mi pc lv [] r g j Q := by
  intro p l e s m args below meth c D CA B sa sv H locs ls F hS hW hl
  have hlocks := F.2.2.2.2.2.2.1
  exact W.vret F.1 F.2.1 (by rw [F.2.2.2.1, hr]) (fun t ht _ => ⟨⟨none, r, g, j, rfl, h, by rw [ht]; exact hW⟩, hS.F ht⟩) hS.2.2 hd
theorem G_aastore {d mi pc : Nat} {lv : LV} {st : List Value} {r : Rr} {g : Gi} {j : Gl} {Q : QT} {a t n q b ci : Nat} {i : Int32} (hd : decode (mB mi) pc = .ok (.aastore, 1)) (ha : SH a = some (.inr (t, n))) (ht : aT t = .object (Rn ci)) (hci : ci < 11) (hb : SH b = some (.inl ci)) (hi : i = nI q) (hq : q < n) (hs : RS a q = none) (h : G d mi (pc + 1) lv st (uR r a q (some b)) g j Q) : G d mi pc lv (.ref b :: .int i :: .ref a :: st) r g j Q := by
  intro p l e s m args below meth c D CA B sa sv H locs ls F hS hW hl
  obtain ⟨h1, h2⟩ := sh_ok ha
  subst hi
  have hc := nI_clamp (show q < 2 ^ 31 by omega)
  have h0 : fk (aT t) = 2 := by rw [ht]; rfl
  obtain ⟨cellV, g1, g2, g3, -⟩ := hW.1 b ci hb
  obtain ⟨hSl, hfc, kC, hkC, hkind⟩ := F.2.2.2.2.2.2.2.1 ci hci
  have hRA := (F.2.2.2.2.2.2.2.2.1 _ h1).2
  rw [ht] at hRA
  obtain ⟨kA, comp, k1, k2, k3, -⟩ := hRA
  have hcomp : comp = D.1 ci := Option.some.inj (k3.symm.trans hfc)
  subst hcomp
  refine W.aast F.1 F.2.1 (hW.2.1 a _ n ha) (fun q h => by cases h) (fun h => by cases h) k1 k2 rfl hkC ⟨nI_pos (by omega), by rw [arrV_size, hc]; exact hq⟩ g1 (fun q h => by rw [g3] at h; cases h) (by rw [g2]; exact hkC) (by rw [g2]; exact va_assign ⟨hfc, kC, hkC, hkind⟩) rfl rfl hd fun H' e1 e2 e3 => ?_
  have hn : H'[B + a]? = some (arrV (CA t) n (fun i => fv B (aT t) (uR r a q (some b) a i) (g a i) (j a i))) := by
    rw [e1, hc, arrV_store]
    congr 2
    funext z
    unfold updV
    by_cases e : z = q
    · subst e; rw [if_pos rfl, uR_s, fv_2 h0]; rfl
    · rw [if_neg e, uR_n e]
  exact h p l e s m args below meth c D CA B sa sv H' _ ls F (hS.put e2 e3 (Nat.le_add_right B a)) (hW.setA ha e3 (fun b hb => uR_o hb) (fun _ _ => rfl) (fun _ _ => rfl) hn (fun z b hb => by
    have e : z ≠ q := fun e => by subst e; rw [hs] at hb; cases hb
    rw [uR_n e]; exact hW.2.2 a z b hb)) hl
