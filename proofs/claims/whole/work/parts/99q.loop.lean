/-! THE CLAIM OUT OF ONE WALK OF THE LAW'S BODY. Your part is whole_start (and what it stands on); all else here is the same for every law, but numbers. -/
def R_law : String := "DayPortLaw"
def lw_P (b : Addr) (xs : List Int32) (args : Array Value) (s : State) : Prop := args = #[.ref b] ∧ s.IntsAt b xs ∧ xs.length ≤ 3072 ∧ (Jvm.Cond.and given_1 narrow_1).before args s = true
def lw_Q (_ : Array Value) (s : State) (o : Outcome) (t : State) : Prop := o = .returned (some (.int 1)) ∧ Framed s o t [] 601024 7293034
def lw_Z (below : List Frame) (a : Array Value) (s : State) : State → Prop := fun t => ∃ o, t.status = .running ∧ Ended t below o ∧ lw_Q a s o t
/-- the law's own end, with 1 on the stack, nothing written that was there before, its room as the claim has it -/
theorem lw_ret {p : Program} {l : Launch} {e : Env} {s : State} {m : MethodId} {below : List Frame} {meth : Method} {c : Code} {b : Nat} (hx : p.tables.exec = Jvm.exec) (hb : c.code = code) (hr : meth.sig.returnType = ret) (hlocks : meth.locks = false) {pc : Nat} {H : Heap} {ls : Array Slot} (hdg : decode code pc = .ok (.ireturn, 1)) : W p l e room_1 s m #[Value.ref b] below meth c H [] 601024 7293034 (lw_Z below #[Value.ref b] s) (F0 m pc ls [.int 1]) := by
  intro T hT X
  obtain ⟨fs, hret, hrun, hended, hW, hframe⟩ := X.leave (v := some (.int 1)) (hlocks := hlocks) (fun h => by rw [hr] at h; cases h)
  have hmeth' : T.vm.method? m = some meth := X.method'
  refine ⟨T.setFrames fs, ?_, .returned (some (.int 1)), hrun, hended, rfl, ⟨_, rfl⟩, hW, hframe⟩
  jvm_step X.here [X.here.top, hx, hb, hdg, hmeth', hr, ret, narrow_b1]
  (try refine ⟨rfl, ?_⟩); (try refine ⟨rfl, ?_⟩)
  first | (intro acts; rw [hret _ acts rfl rfl rfl]) | rw [hret _ _ rfl rfl rfl]
  exact Steps.refl _
/-- what holds at the law's entry: the machine, the code, the tables' words (any of lw_tbl by 'hts w (by decide +kernel)'), the script of L ints xs at the cell b, what the Statement gives of the start (any of its parts by flat_of_before) -/
def lw_At (p : Program) (s : State) (m : MethodId) (meth : Method) (c : Code) (b L : Nat) (xs : Nat → Int32) : Prop :=
  p.tables.exec = Jvm.exec ∧ c.code = code ∧ meth.sig.returnType = ret ∧ c.maxLocals = 7 ∧ s.vm.findClass R_law = some m.cls ∧ (∀ w ∈ lw_tbl, w.before #[Value.ref b] s = true) ∧ va_X b L xs s s.heap ∧ b < s.heap.size ∧ meth.locks = false ∧ (Jvm.Cond.and given_1 narrow_1).before #[Value.ref b] s = true
/-! the law's case of led; the law's loop -/
set_option maxRecDepth 100000 in
theorem dlaw : (decode (mB 255) 1552 = .ok (.aload_n 1, 1) ∧ decode (mB 255) 1559 = .ok (.aload_n 3, 1) ∧ decode (mB 255) 1560 = .ok (.invokestatic 209, 3) ∧ decode (mB 255) 1563 = .ok (.istore 5, 2) ∧ decode (mB 255) 1565 = .ok (.aload_n 2, 1) ∧ decode (mB 255) 1572 = .ok (.invokevirtual 214, 3) ∧ decode (mB 255) 1575 = .ok (.istore 6, 2)) ∧
    (decode (mB 255) 1577 = .ok (.aload_n 2, 1) ∧ decode (mB 255) 1578 = .ok (.invokevirtual 215, 3) ∧ decode (mB 255) 1581 = .ok (.iload 5, 2) ∧ decode (mB 255) 1583 = .ok (.if_icmp .eq 5, 3) ∧ decode (mB 255) 1588 = .ok (.iload 5, 2) ∧ decode (mB 255) 1590 = .ok (.ifCond .ne 15, 3)) ∧
    (decode (mB 255) 1593 = .ok (.aload_n 3, 1) ∧ decode (mB 255) 1594 = .ok (.iconst 0, 1) ∧ decode (mB 255) 1595 = .ok (.laload, 1) ∧ decode (mB 255) 1596 = .ok (.iload 6, 2) ∧ decode (mB 255) 1598 = .ok (.i2l, 1) ∧ decode (mB 255) 1599 = .ok (.lcmp, 1) ∧ decode (mB 255) 1600 = .ok (.ifCond .eq 5, 3) ∧ decode (mB 255) 1605 = .ok (.goto 41, 3)) ∧
    (decode (mB 255) 23 = .ok (.iload 4, 2) ∧ decode (mB 255) 25 = .ok (.aload_n 0, 1) ∧ decode (mB 255) 26 = .ok (.arraylength, 1) ∧ decode (mB 255) 27 = .ok (.bipush 6, 2) ∧ decode (mB 255) 29 = .ok (.isub, 1) ∧ decode (mB 255) 30 = .ok (.if_icmp .gt 1622, 3) ∧ decode (mB 255) 33 = .ok (.aload_n 0, 1) ∧ decode (mB 255) 34 = .ok (.iload 4, 2) ∧ decode (mB 255) 36 = .ok (.iaload, 1) ∧ decode (mB 255) 37 = .ok (.bipush 63, 2) ∧ decode (mB 255) 39 = .ok (.iand, 1)) ∧
    (decode (mB 255) 1646 = .ok (.iinc 4 6, 3) ∧ decode (mB 255) 1649 = .ok (.goto (-1626), 3) ∧ decode (mB 255) 1652 = .ok (.iconst 1, 1) ∧ decode (mB 255) 1653 = .ok (.ireturn, 1)) := by and_intros <;> decide +kernel
set_option maxRecDepth 100000 in
theorem ok_a45 : okArg 1553 1 = true ∧ okArg 1566 1 = true := by decide +kernel
section
variable {p : Program} {l : Launch} {e : Env} {s : State} {m : MethodId} {below : List Frame} {meth : Method} {c : Code} {D : va_G} {CA : Nat → ClassId} {B : Nat} {sa sv : Nat → Nat} {H : Heap} {locs : List Loc} {ls : Array Slot} {cells slots : Nat} {Qw : State → Prop} {r : Rr} {g : Gi} {j : Gl} {n b L i : Nat} {xs : Nat → Int32}
theorem J_t1 {v : Int32} (hn : n + 1 ≤ 512) (h : J n r g) : J (n + 1) r (uI g 263 0 v) := J_same hn h (Ag.rf.u rfl) rfl (uI_n (by decide))
theorem nI_1' : nI 1 = 1 := by decide +kernel
set_option maxHeartbeats 1000000 in
theorem L_45 (C : LC p s m c b L xs D CA B sa sv) (htr : ∀ e : Env, l.admits e → e.platform.stackTraces = false) (hlx : ∀ w ∈ lxW, w.before #[Value.ref b] s = true) (hS : va_S (AB B) s.heap H locs) (hW : Wd D CA B r g j H) (hl : lv_has ls 7 (lvL b B i)) (hi : i + 6 ≤ L) (hn : n + 1 ≤ 512) (hJ : J n r g) (hc : cells + 1 ≤ room_1.cells ∧ slots + 6 ≤ room_1.slots) (kk : KK p l e s m below meth c D CA B cells slots Qw n b i) : W p l e room_1 s m #[Value.ref b] below meth c H locs cells slots Qw (F0 m 40 ls [.int (nI 45)]) := by
  obtain ⟨⟨e1, e2, e3, e4, e5, e6, e7⟩, ⟨e8, e9, e10, e11, e12, e13⟩, ⟨e14, e15, e16, e17, e18, e19, e20, e21⟩, -⟩ := dlaw
  obtain ⟨p0, p', b0, kc, ic, T, Rw, Y, σ, KY, IY, τ, hj⟩ := id hJ
  have hV := hj.1
  have F := C.1
  have hx := F.1
  have hb := F.2.1
  have hbr : ∀ k, k < Rw 5 → Y (30 + k) ≤ 1 := fun k hk => by
    have hy := (hV.yo.2.2.2.2.2.2.2.1 k hk).2
    rw [hy.2.1]; split <;> omega
  have h15 := hV.b5
  refine L_in C (k := 45) (off := 1512) (tgt := 1552) (by decide) rfl (by decide) ?_
  refine lv_aload_n hx hb e1 rfl (lv_at hl 1 rfl) ?_
  refine L_arg C hS hl hi ok_a45.1 ?_
  refine lv_aload_n hx hb e2 rfl (lv_at hl 3 rfl) ?_
  refine W_lawled F htr hlx C.2.2.2.1 hS hW hV ⟨by decide, by decide⟩ hc hl.1 e3 ?_
  intro v r' g' j' H1 locs1 hq hS1 hW1
  rcases hq with ⟨⟨k, k1, k2, k3, rfl⟩, rfl, rfl, rfl⟩ | ⟨hno, rfl, rfl, rfl, rfl⟩
  · refine lv_istore (lv' := [(5, .int 0), (0, .ref b), (1, .ref (B + 0)), (2, .ref (B + 263)), (3, .ref (B + 277)), (4, .int (nI i))]) hx hb e4 hl (by decide) rfl (fun ls hl => ?_)
    refine lv_aload_n hx hb e5 rfl (lv_at hl 3 rfl) ?_
    refine L_arg C hS1 (lv_sub hl [1, 2, 3, 4, 5] rfl) hi ok_a45.2 ?_
    refine W_callV (as := [.int (xs (i + 1))]) (a := 263) F hS1 hW1 (d := 1) ⟨by decide, by decide⟩ hc e6 (mk := 250) (n := 1) rfl rfl rfl (Nat.le_of_ble_eq_true rfl) hl.1 (M_led (x := xs (i + 1)) (K := fun v r2 g2 j2 => v = nI k ∧ r2 = r' ∧ g2 = uI g' 263 0 (nI 0) ∧ j2 = uJ j 277 0 (nI k).toInt64) h15 (fun z => by rcases hV.z 5 with y | y; exact y.2; omega) hV.tm hV.b01 (fun k hk => hV.mr hk) (fun k hk => hV.ms hk) hbr
      (fun c c1 c2 c3 => ⟨by rw [bkF_inj (Y := Y) c2 k2 (by omega) (by omega) (by rw [← c3, ← k3])], rfl, rfl, rfl⟩) (fun h0 => absurd k3 (h0 k k1 k2))) ?_
    intro v r2 g2 j2 H2 locs2 hv hS2 hW2
    unfold rkI at hv
    split at hv
    · obtain ⟨rfl, rfl, rfl, rfl⟩ := hv
      refine lv_istore (lv' := [(6, .int (nI k)), (5, .int 0), (0, .ref b), (1, .ref (B + 0)), (2, .ref (B + 263)), (3, .ref (B + 277)), (4, .int (nI i))]) hx hb e7 hl (by decide) rfl (fun ls hl => ?_)
      refine lv_aload_n hx hb e8 rfl (lv_at hl 4 rfl) ?_
      refine W_callV (as := []) (a := 263) F hS2 hW2 (d := 1) ⟨by decide, by decide⟩ hc e9 (mk := 140) (n := 0) rfl rfl rfl (Nat.zero_le _) hl.1 (vX10_thrown_0 (Q := rkI fun v r3 g3 j3 => v = nI 0 ∧ r3 = r2 ∧ g3 = uI g' 263 0 (nI 0) ∧ j3 = uJ j 277 0 (nI k).toInt64) ⟨uI_s, rfl, rfl, rfl⟩) ?_
      intro v r3 g3 j3 H3 locs3 hv hS3 hW3
      unfold rkI at hv
      split at hv
      · obtain ⟨rfl, rfl, rfl, rfl⟩ := hv
        refine lv_iload hx hb e10 (lv_at hl 1 rfl) ?_
        refine lv_icmp_eq (tgt := 1588) hx hb e11 (by decide) (fun _ => ?_) (fun z => absurd nI_0 z)
        refine lv_iload hx hb e12 (lv_at hl 1 rfl) ?_
        refine lv_if_ne (tgt := 1605) hx hb e13 (by decide) (fun z => absurd rfl z) (fun _ => ?_)
        refine lv_aload_n hx hb e14 rfl (lv_at hl 5 rfl) ?_
        refine lv_iconst (v := nI 0) hx hb e15 (by decide) ?_
        refine W_lald F hW3 e16 (a := 277) (n' := 1) rfl (by decide) ?_
        refine lv_iload hx hb e17 (lv_at hl 0 rfl) ?_
        refine lv_i2l hx hb e18 rfl ?_
        refine W.lcmp hx hb e19 ?_
        refine lv_if_eq (tgt := 1605) hx hb e20 (by decide) (fun _ => ?_) (fun z => absurd ((lg_cmp_eq _ _).mpr uJ_s) z)
        refine lv_goto (tgt := 1646) hx hb e21 (by decide) ?_
        exact kk _ _ _ H3 locs3 ls (J_t1 hn hJ) hS3 hW3 (lv_sub hl [2, 3, 4, 5, 6] rfl)
      · exact hv.elim
    · exact hv.elim
  · refine lv_istore (lv' := [(5, .int 1), (0, .ref b), (1, .ref (B + 0)), (2, .ref (B + 263)), (3, .ref (B + 277)), (4, .int (nI i))]) hx hb e4 hl (by decide) rfl (fun ls hl => ?_)
    refine lv_aload_n hx hb e5 rfl (lv_at hl 3 rfl) ?_
    refine L_arg C hS1 (lv_sub hl [1, 2, 3, 4, 5] rfl) hi ok_a45.2 ?_
    refine W_callV (as := [.int (xs (i + 1))]) (a := 263) F hS1 hW1 (d := 1) ⟨by decide, by decide⟩ hc e6 (mk := 250) (n := 1) rfl rfl rfl (Nat.le_of_ble_eq_true rfl) hl.1 (M_led (x := xs (i + 1)) (K := fun v r2 g2 j2 => r2 = r' ∧ g2 = uI g' 263 0 (nI 1) ∧ j2 = j') h15 (fun z => by rcases hV.z 5 with y | y; exact y.2; omega) hV.tm hV.b01 (fun k hk => hV.mr hk) (fun k hk => hV.ms hk) hbr
      (fun c c1 c2 c3 => absurd c3 (hno c c1 c2)) (fun _ => ⟨rfl, rfl, rfl⟩)) ?_
    intro v r2 g2 j2 H2 locs2 hv hS2 hW2
    unfold rkI at hv
    split at hv
    · obtain ⟨rfl, rfl, rfl⟩ := hv
      refine lv_istore (lv' := (6, _) :: [(5, .int 1), (0, .ref b), (1, .ref (B + 0)), (2, .ref (B + 263)), (3, .ref (B + 277)), (4, .int (nI i))]) hx hb e7 hl (by decide) rfl (fun ls hl => ?_)
      refine lv_aload_n hx hb e8 rfl (lv_at hl 4 rfl) ?_
      refine W_callV (as := []) (a := 263) F hS2 hW2 (d := 1) ⟨by decide, by decide⟩ hc e9 (mk := 140) (n := 0) rfl rfl rfl (Nat.zero_le _) hl.1 (vX10_thrown_0 (Q := rkI fun v r3 g3 j3 => v = nI 1 ∧ r3 = r2 ∧ g3 = uI g' 263 0 (nI 1) ∧ j3 = j2) ⟨uI_s, rfl, rfl, rfl⟩) ?_
      intro v r3 g3 j3 H3 locs3 hv hS3 hW3
      unfold rkI at hv
      split at hv
      · obtain ⟨rfl, rfl, rfl, rfl⟩ := hv
        refine lv_iload hx hb e10 (lv_at hl 1 rfl) ?_
        refine lv_icmp_eq (tgt := 1588) hx hb e11 (by decide) (fun _ => ?_) (fun z => absurd nI_1' z)
        refine lv_iload hx hb e12 (lv_at hl 1 rfl) ?_
        refine lv_if_ne (tgt := 1605) hx hb e13 (by decide) (fun _ => ?_) (fun z => absurd z (by decide))
        refine lv_goto (tgt := 1646) hx hb e21 (by decide) ?_
        exact kk _ _ _ H3 locs3 ls (J_t1 hn hJ) hS3 hW3 (lv_sub hl [2, 3, 4, 5, 6] rfl)
      · exact hv.elim
    · exact hv.elim
end
