/-! the law's case of led -/
theorem bkF_mono (Y : Nat → Nat) {a b : Nat} (h : a ≤ b) : bkF Y a ≤ bkF Y b := by
  induction b with
  | zero =>
    have : a = 0 := by omega
    subst this; exact Nat.le_refl _
  | succ b ih =>
    by_cases z : a = b + 1
    · subst z; exact Nat.le_refl _
    · exact Nat.le_trans (ih (by omega)) (by show bkF Y b ≤ bkF Y b + _; omega)
theorem bkF_lt (Y : Nat → Nat) {a b : Nat} (h : a < b) (hy : Y (30 + a) = 1) : bkF Y a < bkF Y b := by
  have h1 : bkF Y (a + 1) = bkF Y a + 1 := by
    show bkF Y a + (if Y (30 + a) = 0 then 0 else 1) = _
    rw [if_neg (by omega)]
  have := bkF_mono Y (show a + 1 ≤ b from h)
  omega
theorem bkF_inj {Y : Nat → Nat} {a b : Nat} (ha : Y (30 + a) = 1) (hb : Y (30 + b) = 1) (ha' : a < 15) (hb' : b < 15) (h : nI (bkF Y a) = nI (bkF Y b)) : a = b := by
  have l1 := bkF_le Y a
  have l2 := bkF_le Y b
  have h1 : bkF Y a = bkF Y b := by
    have := congrArg Int32.toNatClampNeg h
    rw [nI_clamp (by omega), nI_clamp (by omega)] at this
    exact this
  rcases Nat.lt_trichotomy a b with z | z | z
  · have := bkF_lt Y z ha; omega
  · exact z
  · have := bkF_lt Y z hb; omega
set_option maxRecDepth 100000 in
theorem w_lled : wordOf 5105 (.methodLink (Rn 11) 209 (mY 254)) = true ∧ wordOf 5106 (.static (mY 254)) = true ∧ wordOf 5107 (.codeWith (mY 254) (mB 254) 4 (some .int) [(0, 9, 12, 13)]) = true ∧ wordOf 1000 (.initialized (mY 254).cls) = true := by decide +kernel
section
variable {p : Program} {l : Launch} {e : Env} {R : Room} {s : State} {m : MethodId} {below : List Frame} {meth : Method} {c : Code} {D : va_G} {CA : Nat → ClassId} {B : Nat} {sa sv : Nat → Nat} {H : Heap} {locs : List Loc} {ls : Array Slot} {cells slots : Nat} {Qw : State → Prop} {mi pc : Nat} {r : Rr} {g : Gi} {j : Gl} {st : List Value} {n d b q L i : Nat} {xs : Nat → Int32} {Rw Y : Nat → Nat} {x : Int32} {args : Array Value}
theorem W_lald {a n' q' : Nat} (F : Fy p s m args c mi D CA B sa sv) (hW : Wd D CA B r g j H) (hd : decode (mB mi) pc = .ok (.laload, 1)) (ha : SH a = some (.inr (3, n'))) (hq : q' < n')
    (kk : W p l e R s m args below meth c H locs cells slots Qw (F0 m (pc + 1) ls (.long (j a q') :: st))) : W p l e R s m args below meth c H locs cells slots Qw (F0 m pc ls (.int (nI q') :: .ref (B + a) :: st)) := by
  obtain ⟨h1, h2⟩ := sh_ok ha
  have hc := nI_clamp (show q' < 2 ^ 31 by omega)
  exact W.lald (v := .long (j a q')) F.1 F.2.1 (hW.2.1 a _ n' ha) ((F.2.2.2.2.2.2.1 _ h1).1 n' _) (fun q => by cases q) (by rw [arrV_size]; exact vp_in_nI hq h2) (by rw [hc, arrV_read _ _ hq]; rfl) rfl rfl hd kk
set_option maxHeartbeats 2000000 in
/-- the law calls its led -/
theorem W_lawled (F : Fy p s m args c 255 D CA B sa sv) (htr : ∀ e : Env, l.admits e → e.platform.stackTraces = false) (hlx : ∀ w ∈ lxW, w.before args s = true) (hB : s.heap.size = B) (hS : va_S (AB B) s.heap H locs) (hW : Wd D CA B r g j H) (hV : Vw n q b Rw Y r g) (hR : 8 ≤ R.frames ∧ 512 ≤ R.locals) (hc : cells + 1 ≤ R.cells ∧ slots + 6 ≤ R.slots) (hsz : ls.size = 7) (hd : decode (mB 255) pc = .ok (.invokestatic 209, 3))
    (kk : ∀ (v : Option Value) (r' : Rr) (g' : Gi) (j' : Gl) (H1 : Heap) (locs1 : List Loc), LQ Rw Y x r g j v r' g' j' → va_S (AB B) s.heap H1 locs1 → Wd D CA B r' g' j' H1 → W p l e R s m args below meth c H1 locs1 (cells + 1) (slots + 6) Qw (F0 m (pc + 3) ls ((v.map (tr B sa)).toList))) :
    W p l e R s m args below meth c H locs cells slots Qw (F0 m pc ls [.ref (B + 277), .int x, .ref (B + 0)]) := by
  obtain ⟨w1, w2, w3, w4⟩ := w_lled
  have hx := F.1
  have hts := F.2.2.2.2.1
  have hown : s.vm.findClass (Rn 11) = some m.cls := F.2.2.2.1
  have hy : (mY 254).cls ≠ "java/lang/invoke/MethodHandle" ∧ (mY 254).cls ≠ "java/lang/invoke/VarHandle" := by constructor <;> decide +kernel
  have hgY : plainFor (mY 254) = true := by decide +kernel
  have hRn : Rn 11 = (mY 254).cls := by decide +kernel
  obtain ⟨mk, methM, cM, hnamed, hmethM, hcM, hbyM, hmlM, hexM, hrM, hlkM, hsigM⟩ := Cond.codeWith_spec (hts _ (in_TS w3))
  obtain ⟨kP, hkP, -⟩ := className_of_methodNamed hnamed
  have hinitP : kP.init = .initialized := Cond.initialized_spec (findClass_of_methodNamed hnamed) hkP (hts _ (in_TS w4))
  have hsig1 : ([.ref (B + 0), .int x, .ref (B + 277)] : List Value).length = methM.sig.parameters.length := by
    have h1 : (parseMethodDescriptor (mY 254).desc).map (fun d => d.parameters.length) = some 3 := by decide +kernel
    rw [hsigM] at h1
    simp only [Option.map_some, Option.some.injEq] at h1
    rw [h1]; rfl
  obtain ⟨ex, hex, hex0, hex1, hex3, hex2⟩ : ∃ ex : ExceptionTableEntry, cM.exceptionTable.toList = [ex] ∧ ex.startPc = 0 ∧ ex.endPc = 9 ∧ ex.handlerPc = 12 ∧ ex.catchType = 13 := by
    match hq : cM.exceptionTable.toList, hexM with
    | [ex], h =>
      simp only [List.map_cons, List.map_nil, List.cons.injEq, Prod.mk.injEq, and_true] at h
      exact ⟨ex, rfl, h.1, h.2.1, h.2.2.1, h.2.2.2⟩
    | [], h => simp at h
    | _ :: _ :: _, h => simp at h
  intro T hT X
  obtain ⟨vm₁, X₁, hstep₁⟩ := X.invokestatic hx hown (hts _ (in_TS w1)) hnamed hmethM (Cond.static_spec hnamed hmethM (hts _ (in_TS w2))) hkP hinitP hy (g := F0 m pc ls [.ref (B + 277), .int x, .ref (B + 0)]) rfl (argsL := [.ref (B + 0), .int x, .ref (B + 277)]) (rest := []) hsig1 rfl (by rw [F.2.1]; exact hd)
  have hmk : (T.setVm vm₁).vm.method? mk = some methM := by rw [X₁.warmed.alike.method?]; exact hmethM
  have hWm : s.WarmedH ((T.setVm vm₁).calling (F0 m pc ls []) mk ([.ref (B + 0), .int x, .ref (B + 277)] : List Value).toArray).vm := X₁.warmed
  have hh2 : ((T.setVm vm₁).calling (F0 m pc ls []) mk ([.ref (B + 0), .int x, .ref (B + 277)] : List Value).toArray).heap = H := hT
  have F2 : Fy p ((T.setVm vm₁).calling (F0 m pc ls []) mk ([.ref (B + 0), .int x, .ref (B + 277)] : List Value).toArray) mk ([.ref (B + 0), .int x, .ref (B + 277)] : List Value).toArray cM 254 D CA B sa sv := by
    refine ⟨hx, hbyM, hmlM, ?_, fun w hw => pay_in hts (good_TS (by decide)) w hw _ _ hWm, ?_⟩
    · rw [hWm.alike.findClass]
      show s.vm.findClass (Rn 11) = _
      rw [hRn]; exact findClass_of_methodNamed hnamed
    · rw [hh2]; exact F.2.2.2.2.2.warm hWm (fun q h1 h2 => hS.2.1 q h1 h2)
  obtain ⟨t, hsteps, o, -, hend, ⟨⟨v, r', g', j', rfl, hq, hWd⟩, hF⟩, L, ⟨-, hWm2, hsame⟩, hL⟩ := st_in (X₁.into (g := F0 m pc ls []) rfl (hsz.trans F.2.2.1.symm) (by rw [F.2.1]; exact hd) (mk := mk) (methk := methM) (ck := cM) ([.ref (B + 0), .int x, .ref (B + 277)] : List Value).toArray (R' := rmL) hmk hcM hlkM (State.plainMethod.of_named hgY (X₁.named hnamed) hmk)
    hR.1 (by rw [hmlM]; show 2 * 0 + 0 + (4 + 11) + 256 ≤ R.locals; omega) hc.1 hc.2) (H := (T.setVm vm₁).heap) rfl
    (Q1 := MQ (.java (F0 m pc ls []) :: below) (QC D CA B sa (LQ Rw Y x r g j)) ([.ref (B + 0), .int x, .ref (B + 277)] : List Value).toArray ((T.setVm vm₁).calling (F0 m pc ls []) mk ([.ref (B + 0), .int x, .ref (B + 277)] : List Value).toArray) 1 6 (AB B)) (by
      have hl2 := lv_entry ([.ref (B + 0), .int x, .ref (B + 277)]) (n := 4) (Nat.le_of_ble_eq_true rfl)
      rw [hmlM, lg_entry_eq, show (T.setVm vm₁).heap = ((T.setVm vm₁).calling (F0 m pc ls []) mk ([.ref (B + 0), .int x, .ref (B + 277)] : List Value).toArray).heap from rfl]
      exact lawled_walk F2 htr (lx_move hlx hWm (fun a ha => by rw [hh2]; exact hS.2.1 a ha (by show ¬ B ≤ a; omega))) hex (by simp [covers, hex0, hex1]) hex2 hex3 hlkM hrM (by rw [hh2, ← hB]; exact hS.1) hV (by rw [hh2]; exact hW) hl2)
  obtain ⟨T', X', -, -, ht⟩ := X₁.outOf (g := F0 m pc ls []) rfl (len := 3) (by rw [F.2.1]; exact hd) hend hWm2 hsame
  have hT' : T'.heap = t.heap := by rw [ht]; simp [State.setTop, State.modifyTopJava]
  have hS' : va_S (AB B) s.heap t.heap (locs ++ L) := by
    have hz := hF.1
    rw [hh2] at hz
    refine ⟨Nat.le_trans hS.1 hz, fun q h1 h2 => ?_, fun q hq => ?_⟩
    · rw [hF.2 q (by rw [hh2]; exact Nat.lt_of_lt_of_le h1 hS.1) h2, hh2]
      exact hS.2.1 q h1 h2
    · rcases List.mem_append.mp hq with h | h
      · exact hS.2.2 q h
      · exact hL q h
  obtain ⟨t2, f1, f2⟩ := kk v r' g' j' t.heap (locs ++ L) hq hS' hWd T' hT' X'
  refine ⟨t2, hstep₁ t2 (fun acts => (hsteps acts).trans ?_), f2⟩
  rw [ht]
  simpa using f1
end
