/-! the law's led, from its entry to its end -/
set_option maxRecDepth 100000 in
theorem d254 : decode (mB 254) 0 = .ok (.aload_n 2, 1) ∧ decode (mB 254) 1 = .ok (.iconst 0, 1) ∧ decode (mB 254) 2 = .ok (.aload_n 0, 1) ∧ decode (mB 254) 3 = .ok (.iload_n 1, 1) ∧ decode (mB 254) 4 = .ok (.invokevirtual 7, 3) ∧ decode (mB 254) 7 = .ok (.i2l, 1) ∧ decode (mB 254) 8 = .ok (.lastore, 1) ∧
    decode (mB 254) 9 = .ok (.goto 6, 3) ∧ decode (mB 254) 12 = .ok (.astore_n 3, 1) ∧ decode (mB 254) 13 = .ok (.iconst 1, 1) ∧ decode (mB 254) 14 = .ok (.ireturn, 1) ∧ decode (mB 254) 15 = .ok (.iconst 0, 1) ∧ decode (mB 254) 16 = .ok (.ireturn, 1) := by and_intros <;> decide +kernel
set_option maxRecDepth 100000 in
theorem w_led : wordOf 5109 (.methodLink (Rn 11) 7 (mY 118)) = true ∧ wordOf 5110 (.instanceMethod (mY 118)) = true ∧ wordOf 5111 (.selects (mY 118).cls (mY 118) (mY 118)) = true ∧ wordOf 5112 (.code (mY 118) (mB 118) 4 (some .int)) = true ∧ wordOf 5108 (.classLink (Rn 11) 13 nse) = true := by decide +kernel
section
variable {r : Rr} {g : Gi} {j : Gl} {n b q d : Nat} {Rw Y : Nat → Nat} {x : Int32}
/-- led answers -/
theorem led_cm (hV : Vw n q b Rw Y r g) (hm : ∃ k, k < Rw 5 ∧ Y (30 + k) = 1 ∧ x = nI (bkF Y k)) : Cm (d + 1) 118 [.ref 0, .int x] r g j (rkI fun v r' g' j' => (∃ k, k < Rw 5 ∧ Y (30 + k) = 1 ∧ x = nI (bkF Y k) ∧ v = nI k) ∧ r' = r ∧ g' = g ∧ j' = j) := by
  intro l D CA B sa sv
  have hk := mt_ok (show 118 < 254 by decide)
  simp only [mtOk, Bool.and_eq_true, decide_eq_true_eq] at hk
  obtain ⟨hk1, hk2, hk3, -⟩ := hk
  refine Met.ofW (cc := mB 118) (maxL := mL 118) (ret := mR 118) hk1 rfl ?_
  intro p e s m args below meth c s₁ Bd hml hv
  obtain ⟨rfl, hK, hW⟩ := hv
  have hts := atoms_spec (ws := TS 118) Bd.pre
  have hown : s.vm.findClass (Rn (mO 118)) = some m.cls := by rw [hk3]; exact findClass_of_methodNamed Bd.named
  have hl := lv_entry ([.ref 0, .int x].map (tr B sa)) (n := mL 118) (Nat.le_of_ble_eq_true rfl)
  rw [lg_entry_eq]
  have F : Fx p s m _ meth c 118 D CA B sa sv := ⟨Bd.exec, Bd.bytes, hml, Bd.returns, hown, hts, Bd.notSynchronized, hK⟩
  have hlocks := Bd.notSynchronized
  refine led_walk F.y (d := d) (R := rmd (d + 1)) ⟨Nat.le_refl _, Nat.le_refl _⟩ ⟨Nat.le_refl _, Nat.le_refl _⟩ hV ?_ ?_ va_S.rf hW hl
  · intro k H1 locs1 ls1 h1 h2 h3 hS1 hW1
    exact W.iret F.1 F.2.1 Bd.returns (fun t ht _ => ⟨⟨some (.int (nI k)), r, g, j, rfl, ⟨⟨k, h1, h2, h3, rfl⟩, rfl, rfl, rfl⟩, by rw [ht]; exact hW1⟩, hS1.F ht⟩) hS1.2.2 d118.2.2.2.2.2.1 hlocks
  · intro H1 locs1 ls1 hno
    obtain ⟨k, h1, h2, h3⟩ := hm
    exact absurd h3 (hno k h1 h2)
end
section
variable {p : Program} {l : Launch} {e : Env} {R : Room} {s : State} {m : MethodId} {args : Array Value} {below : List Frame} {meth : Method} {c : Code} {D : va_G} {CA : Nat → ClassId} {B : Nat} {sa sv : Nat → Nat} {H : Heap} {locs : List Loc} {ls : Array Slot} {cells slots : Nat} {Qw : State → Prop} {mi pc : Nat} {r : Rr} {g : Gi} {j : Gl} {st : List Value} {n b q d : Nat} {Rw Y : Nat → Nat} {x : Int32}
theorem W_last {a n' q' : Nat} {y : Int64} (F : Fy p s m args c mi D CA B sa sv) (hS : va_S (AB B) s.heap H locs) (hW : Wd D CA B r g j H) (hd : decode (mB mi) pc = .ok (.lastore, 1)) (ha : SH a = some (.inr (3, n'))) (hq : q' < n')
    (kk : ∀ (H1 : Heap) (locs1 : List Loc), va_S (AB B) s.heap H1 locs1 → Wd D CA B r g (uJ j a q' y) H1 → W p l e R s m args below meth c H1 locs1 cells slots Qw (F0 m (pc + 1) ls st)) : W p l e R s m args below meth c H locs cells slots Qw (F0 m pc ls (.long y :: .int (nI q') :: .ref (B + a) :: st)) := by
  obtain ⟨h1, h2⟩ := sh_ok ha
  have hc := nI_clamp (show q' < 2 ^ 31 by omega)
  refine W.last F.1 F.2.1 (hW.2.1 a _ n' ha) ((F.2.2.2.2.2.2.1 _ h1).1 n' _) (fun q => by cases q) (by rw [arrV_size]; exact vp_in_nI hq h2) rfl rfl hd fun H' e1 e2 e3 => ?_
  have hn : H'[B + a]? = some (arrV (CA 3) n' (fun i => fv B (aT 3) (r a i) (g a i) ((uJ j a q' y) a i))) := by
    rw [e1, hc, arrV_store]
    congr 2
    funext z
    unfold updV
    by_cases e : z = q'
    · subst e; rw [if_pos rfl, uJ_s]; rfl
    · rw [if_neg e, uJ_n e]
  exact kk H' _ (hS.put e2 e3 (Nat.le_add_right B a)) (hW.setA ha e3 (fun _ _ => rfl) (fun b hb => rfl) (fun b hb => uJ_o hb) hn (fun z b hb => hW.2.2 a z b hb))
/-- what the law's led answers -/
def LQ (Rw Y : Nat → Nat) (x : Int32) (r : Rr) (g : Gi) (j : Gl) : QT := fun v r' g' j' =>
  ((∃ k, k < Rw 5 ∧ Y (30 + k) = 1 ∧ x = nI (bkF Y k) ∧ j' = uJ j 277 0 (nI k).toInt64) ∧ v = some (.int 0) ∧ r' = r ∧ g' = g) ∨ ((∀ k, k < Rw 5 → Y (30 + k) = 1 → x ≠ nI (bkF Y k)) ∧ v = some (.int 1) ∧ r' = r ∧ g' = g ∧ j' = j)
def rmL : Room := { frames := 7, cells := 1, slots := 6, locals := 256 }
def rmX : Room := { frames := 6, cells := 1, slots := 6, locals := 128 }
set_option maxHeartbeats 2000000 in
theorem lawled_walk (F : Fy p s m args c 254 D CA B sa sv) (htr : ∀ e : Env, l.admits e → e.platform.stackTraces = false) (hlx : ∀ w ∈ lxW, w.before args s = true) {ex : ExceptionTableEntry} (hex : c.exceptionTable.toList = [ex]) (hex1 : covers ex 4 = true) (hex2 : ex.catchType = 13) (hex3 : ex.handlerPc = 12) (hlocks : meth.locks = false) (hret : meth.sig.returnType = some .int) (hB : B ≤ s.heap.size)
    (hV : Vw n q b Rw Y r g) (hW : Wd D CA B r g j s.heap) (hl : lv_has ls 4 [(0, .ref (B + 0)), (1, .int x), (2, .ref (B + 277))]) : W p l e rmL s m args below meth c s.heap [] 0 0 (MQ below (QC D CA B sa (LQ Rw Y x r g j)) args s 1 6 (AB B)) (F0 m 0 ls []) := by
  obtain ⟨d0, d1, d2, d3, d4, d7, d8, d9, d12, d13, d14, d15, d16⟩ := d254
  have hx := F.1
  have hb := F.2.1
  have hS : va_S (AB B) s.heap s.heap [] := va_S.rf
  refine lv_aload_n hx hb d0 rfl (lv_at hl 2 rfl) ?_
  refine lv_iconst (v := nI 0) hx hb d1 (by decide) ?_
  refine lv_aload_n hx hb d2 rfl (lv_at hl 0 rfl) ?_
  refine lv_iload_n hx hb d3 rfl (lv_at hl 1 rfl) ?_
  by_cases hm : ∃ k, k < Rw 5 ∧ Y (30 + k) = 1 ∧ x = nI (bkF Y k)
  · refine W_callV (as := [.int x]) (a := 0) F hS hW (d := 1) ⟨by decide, by decide⟩ ⟨by decide, by decide⟩ d4 (mk := 118) (n := 1) rfl rfl rfl (Nat.le_of_ble_eq_true rfl) hl.1 (led_cm (d := 0) hV hm) ?_
    intro v r' g' j' H1 locs1 hv hS1 hW1
    unfold rkI at hv
    split at hv
    · obtain ⟨⟨k, h1, h2, h3, rfl⟩, rfl, rfl, rfl⟩ := hv
      refine lv_i2l hx hb d7 rfl ?_
      refine W_last F hS1 hW1 d8 (a := 277) (n' := 1) rfl (by decide) ?_
      intro H2 locs2 hS2 hW2
      refine lv_goto (tgt := 15) hx hb d9 (by decide) ?_
      refine lv_iconst (v := 0) hx hb d15 (by decide) ?_
      refine W.widen (k := 1) (n := 6) (by decide) (by decide) ?_
      exact W.iret hx hb hret (fun t ht _ => ⟨⟨some (.int 0), _, _, _, rfl, Or.inl ⟨⟨k, h1, h2, h3, rfl⟩, rfl, rfl, rfl⟩, by rw [ht]; exact hW2⟩, hS2.F ht⟩) hS2.2.2 d16 hlocks
    · exact hv.elim
  · have hno : ∀ k, k < Rw 5 → Y (30 + k) = 1 → x ≠ nI (bkF Y k) := fun k h1 h2 h3 => hm ⟨k, h1, h2, h3⟩
    obtain ⟨w1, w2, w3, w4, w5⟩ := w_led
    have hts := F.2.2.2.2.1
    have hown : s.vm.findClass (Rn 11) = some m.cls := F.2.2.2.1
    have hy : (mY 118).cls ≠ "java/lang/invoke/MethodHandle" ∧ (mY 118).cls ≠ "java/lang/invoke/VarHandle" := ⟨(mk_ok (by decide)).2.1, (mk_ok (by decide)).2.2.1⟩
    intro T hT X
    obtain ⟨mk, methM, hnamed, hmethM, hstM, habM⟩ := Cond.instanceMethod_spec (hts _ (in_TS w2))
    obtain ⟨methM', cM, hmethM', hcM, hbyM, hmlM, hrM, hlkM, hexM, hsigM⟩ := Cond.code_spec hnamed (hts _ (in_TS w4))
    cases hmethM.symm.trans hmethM'
    obtain ⟨c2, r2, m2, q1, q2, q3, q4, kP, hkP, hkPi⟩ := Cond.selects_spec (hts _ (in_TS w3))
    obtain ⟨cell, z1, z2, z3, z4⟩ := hW.1 0 9 rfl
    have hcls : s.vm.findClass (mY 118).cls = some cell.cls := by
      rw [z2, ← (mk_ok (show 118 < 254 by decide)).2.2.2]
      exact (F.2.2.2.2.2.1 9 (by decide)).2.1
    cases hcls.symm.trans q1
    cases (State.methodFound?_of_named hnamed hy).symm.trans q2
    cases hnamed.symm.trans q3
    have hselP : selectMethod e.platform s.vm cell.cls mk = .method mk := by rw [Launch.admits_selectMethod X.admits]; exact q4
    have hsig1 : ([.int x] : List Value).length = methM.sig.parameters.length := by
      have h1 : (parseMethodDescriptor (mY 118).desc).map (fun d => d.parameters.length) = some 1 := by decide +kernel
      rw [hsigM] at h1
      simp only [Option.map_some, Option.some.injEq] at h1
      rw [h1]; rfl
    obtain ⟨vm₁, X₁, hstep₁⟩ := X.invokevirtual hx hown (hts _ (in_TS w1)) hnamed hmethM hstM hkP hkPi hy (a := B + 0) (cell := cell) (by rw [hT]; exact z1)
      (fun z h => by rw [z3] at h; cases h) hselP hmethM habM hkP hkPi (g := F0 m 4 ls [.int x, .ref (B + 0), .int (nI 0), .ref (B + 277)]) rfl (argsL := [.int x]) (rest := [.int (nI 0), .ref (B + 277)]) hsig1 rfl (by rw [hb]; exact d4)
    have hmk : (T.setVm vm₁).vm.method? mk = some methM := by rw [X₁.warmed.alike.method?]; exact hmethM
    have hgY : plainFor (mY 118) = true := by decide +kernel
    have hWm : s.WarmedH ((T.setVm vm₁).calling (F0 m 4 ls [.int (nI 0), .ref (B + 277)]) mk ([.ref (B + 0), .int x] : List Value).toArray).vm := X₁.warmed
    have hh2 : ((T.setVm vm₁).calling (F0 m 4 ls [.int (nI 0), .ref (B + 277)]) mk ([.ref (B + 0), .int x] : List Value).toArray).heap = s.heap := hT
    have F2 : Fy p ((T.setVm vm₁).calling (F0 m 4 ls [.int (nI 0), .ref (B + 277)]) mk ([.ref (B + 0), .int x] : List Value).toArray) mk ([.ref (B + 0), .int x] : List Value).toArray cM 118 D CA B sa sv := by
      refine ⟨hx, hbyM, hmlM, ?_, fun w hw => pay_in hts (good_TS (by decide)) w hw _ _ hWm, ?_⟩
      · rw [hWm.alike.findClass, (mk_ok (show 118 < 254 by decide)).2.2.2]; exact findClass_of_methodNamed hnamed
      · rw [hh2]; exact F.2.2.2.2.2.warm hWm (fun q _ _ => rfl)
    obtain ⟨t, hsteps, a, hend, hWm2, ⟨L, hsame, hL⟩, ⟨ce, cX, hce, hfX, hceC, hceV⟩, hWd, hVS⟩ := st_in (X₁.into (g := F0 m 4 ls [.int (nI 0), .ref (B + 277)]) rfl (hl.1.trans F.2.2.1.symm) (by rw [hb]; exact d4) (mk := mk) (methk := methM) (ck := cM) ([.ref (B + 0), .int x] : List Value).toArray (R' := rmX) hmk hcM hlkM (State.plainMethod.of_named hgY (X₁.named hnamed) hmk)
      (by decide) (by rw [hmlM]; exact Nat.le_of_ble_eq_true rfl) (by decide) (by decide)) (H := (T.setVm vm₁).heap) rfl (Q1 := ThQ (.java (F0 m 4 ls [.int (nI 0), .ref (B + 277)]) :: below) ((T.setVm vm₁).calling (F0 m 4 ls [.int (nI 0), .ref (B + 277)]) mk ([.ref (B + 0), .int x] : List Value).toArray) D CA B r g j 1 6) (by
        have hl2 := lv_entry ([.ref (B + 0), .int x]) (n := 4) (Nat.le_of_ble_eq_true rfl)
        rw [hmlM, lg_entry_eq]
        refine led_walk F2 (d := 0) (j := j) (R := rmX) ⟨by decide, by decide⟩ ⟨by decide, by decide⟩ hV ?_ ?_ ?_ ?_ hl2
        · intro k H1 locs1 ls1 h1 h2 h3
          exact absurd h3 (hno k h1 h2)
        · intro H1 locs1 ls1 _ hS1 hW1 hz
          exact led_thr F2 htr (lx_move hlx hWm (fun a _ => by rw [hh2])) (by simpa using hexM) hlkM (by decide) (by decide) (by decide) (by decide) (by rw [hh2]; exact hB) hS1 hW1 hz
        · rw [hh2, show (T.setVm vm₁).heap = s.heap from hT]; exact va_S.rf
        · rw [show (T.setVm vm₁).heap = s.heap from hT]; exact hW)
    obtain ⟨T', X', -, -, ht⟩ := X₁.outOfThrown (g := F0 m 4 ls [.int (nI 0), .ref (B + 277)]) rfl hend hWm2 hsame
    have hT' : t.heap = T'.heap := by rw [ht]; exact throwing_heap T' _ a
    obtain ⟨vm₂, X₂, hstep₂⟩ := catch_in X' (g := F0 m 4 ls [.int (nI 0), .ref (B + 277)]) rfl hex hex1 (by rw [hex2]; decide) hown (by rw [hex2]; exact hts _ (in_TS w5)) (a := a) (ce := ce) (by rw [← hT']; exact hce) hceV (by rw [← hWm.alike.findClass, hceC]; exact hfX)
    have hS3 : va_S (AB B) s.heap t.heap ([] ++ L) := by
      rw [hh2] at hVS
      exact ⟨hVS.1, hVS.2.1, fun q hq => hL q (by simpa using hq)⟩
    have fin : W p l e rmL s m args below meth c t.heap ([] ++ L) 1 6 (MQ below (QC D CA B sa (LQ Rw Y x r g j)) args s 1 6 (AB B)) (F0 m 12 ls [.ref a]) := by
      refine lv_astore_n (lv' := [(3, .ref a), (0, .ref (B + 0)), (1, .int x), (2, .ref (B + 277))]) hx hb d12 rfl hl (by decide) rfl (fun ls hl => ?_)
      refine lv_iconst (v := 1) hx hb d13 (by decide) ?_
      exact W.iret hx hb hret (fun t' ht' _ => ⟨⟨some (.int 1), _, _, _, rfl, Or.inr ⟨hno, rfl, rfl, rfl, rfl⟩, by rw [ht']; exact hWd⟩, hS3.F ht'⟩) hS3.2.2 d14 hlocks
    obtain ⟨t2, f1, f2⟩ := fin (T'.setVm vm₂) hT'.symm X₂
    refine ⟨t2, hstep₁ t2 (fun acts => (hsteps acts).trans ?_), f2⟩
    rw [ht]
    refine hstep₂ t2 ?_
    rw [hex3]
    exact f1
end
