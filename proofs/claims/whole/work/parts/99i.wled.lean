/-! rows over the world for any room and any end; the walk of the class's led, to its answer or to where it throws -/
/-- what a walk knows of its method: as Fx, without the method's own word (a method with a handler has another) -/
def Fy (p : Program) (s : State) (m : MethodId) (args : Array Value) (c : Code) (mi : Nat) (D : va_G) (CA : Nat → ClassId) (B : Nat) (sa sv : Nat → Nat) : Prop :=
  p.tables.exec = Jvm.exec ∧ c.code = mB mi ∧ c.maxLocals = mL mi ∧ s.vm.findClass (Rn (mO mi)) = some m.cls ∧ (∀ w ∈ TS 0, w.before args s = true) ∧ Kw D CA B sa sv s s.heap
theorem Fx.y {p : Program} {s : State} {m : MethodId} {args : Array Value} {meth : Method} {c : Code} {mi : Nat} {D : va_G} {CA : Nat → ClassId} {B : Nat} {sa sv : Nat → Nat} (F : Fx p s m args meth c mi D CA B sa sv) : Fy p s m args c mi D CA B sa sv :=
  ⟨F.1, F.2.1, F.2.2.1, F.2.2.2.2.1, fun w h => F.2.2.2.2.2.1 w (by
    rcases List.mem_cons.mp h with rfl | h
    · exact List.mem_cons_of_mem _ (mcw_in (by decide))
    · exact List.mem_cons_of_mem _ h), F.2.2.2.2.2.2.2⟩
section
variable {p : Program} {l : Launch} {e : Env} {R : Room} {s : State} {m : MethodId} {args : Array Value} {below : List Frame} {meth : Method} {c : Code} {D : va_G} {CA : Nat → ClassId} {B : Nat} {sa sv : Nat → Nat} {H : Heap} {locs : List Loc} {ls : Array Slot} {cells slots : Nat} {Qw : State → Prop} {mi pc : Nat} {r : Rr} {g : Gi} {j : Gl} {st : List Value}
theorem W_get {ix ci k i a : Nat} (F : Fy p s m args c mi D CA B sa sv) (hW : Wd D CA B r g j H) (hd : decode (mB mi) pc = .ok (.getfield ix, 3)) (hq : lk2 (flT (mO mi)) ix = some (ci, k, i)) (ha : SH a = some (.inl ci)) {v : Value} (hv : fv B (tyn ci k) (r a k) (g a k) (j a k) = v)
    (kk : W p l e R s m args below meth c H locs cells slots Qw (F0 m (pc + 3) ls (v :: st))) : W p l e R s m args below meth c H locs cells slots Qw (F0 m pc ls (.ref (B + a) :: st)) := by
  obtain ⟨f1, f2, f3⟩ := fl_ok hq
  obtain ⟨cell, q1, q2, q3, q4⟩ := hW.1 a ci ha
  obtain ⟨hSl, hfc, kC, hkC, hkind⟩ := F.2.2.2.2.2.1 ci f3
  obtain ⟨cf, kf, fi, f, hi, hsl⟩ := hSl k f2
  refine W.getf F.1 F.2.1 F.2.2.2.1 (F.2.2.2.2.1 _ (in_TS f1)) hi (u_facts hfc hkC (u_lays F.2.2.2.2.1 (ly_in f3) f2) hi).1 q1 (by rw [q3]; exact fun h => by cases h) (v := v) ?_ rfl rfl hd kk
  rw [hsl, q4 k f2]
  exact congrArg some hv
theorem W_callV {d ix mk n a : Nat} {pl : List Nat} {as : List Value} {Qm : QT} (F : Fy p s m args c mi D CA B sa sv) (hS : va_S (AB B) s.heap H locs) (hW : Wd D CA B r g j H) (hR : d + 1 ≤ R.frames ∧ 64 * (d + 1) ≤ R.locals) (hc : cells ≤ R.cells ∧ slots ≤ R.slots)
    (hd : decode (mB mi) pc = .ok (.invokevirtual ix, 3)) (hq : lk2 (mlT (mO mi)) ix = some (0, mk, n, pl)) (hn : as.length = n) (ha : SH a = some (.inl (mO mk))) (hst : (st.map fun v => v.category).sum ≤ 8) (hsz : ls.size = mL mi) (h : Cm d mk (.ref a :: as) r g j Qm)
    (kk : ∀ (v : Option Value) (r' : Rr) (g' : Gi) (j' : Gl) (H1 : Heap) (locs1 : List Loc), Qm v r' g' j' → va_S (AB B) s.heap H1 locs1 → Wd D CA B r' g' j' H1 → W p l e R s m args below meth c H1 locs1 cells slots Qw (F0 m (pc + 3) ls ((v.map (tr B sa)).toList ++ st))) :
    W p l e R s m args below meth c H locs cells slots Qw (F0 m pc ls ((as.map (tr B sa)).reverse ++ .ref (B + a) :: st)) := by
  have hok := List.all_eq_true.mp (mlT_ok (mO mi)) _ (lk2_mem hq)
  unfold mlOk at hok
  match pl, hok with
  | [i0, i1, i2, i3], hok =>
    simp only [Bool.and_eq_true, decide_eq_true_eq] at hok
    obtain ⟨w0, w1, w2, w3, hp, hm, hk⟩ := hok
    have hmk : mk < 254 := Nat.le_of_ble_eq_true hk
    have hmo : mO mk < 11 := Nat.le_of_ble_eq_true hm
    obtain ⟨k1, k2, k3, k4⟩ := mk_ok hmk
    obtain ⟨cell, q1, q2, q3, q4⟩ := hW.1 a _ ha
    obtain ⟨hSl, hfc, kC, hkC, hkind⟩ := F.2.2.2.2.2.1 _ hmo
    have hts := F.2.2.2.2.1
    have hK := F.2.2.2.2.2
    have hr := va_runV (e := e) (below := below) (meth := meth) (locs := locs) (cells := cells) (slots := slots) (C := (mY mk).cls) (As := as.map (tr B sa)) (b := B + a) (rest := st) (g := F0 m pc ls ((as.map (tr B sa)).reverse ++ .ref (B + a) :: st)) ⟨F.1, F.2.1, F.2.2.1, F.2.2.2.1, hts⟩ (h l D CA B sa sv)
      ⟨callB_of (R := R) n hts (good_TS hmk) rfl rfl rfl (hts _ (in_TS w3)) (hts _ (in_TS w0)) ⟨k2, k3, hp⟩ ⟨hR.1, by show 8 + (mL mk + 11) + 64 * d ≤ R.locals; omega⟩, hts _ (in_TS w1), hts _ (in_TS w2)⟩
      ⟨PC.blind, ⟨cell, q1, by rw [q3]; rfl, by rw [q2, ← k4]; exact hfc⟩, fun U hU hWm => ⟨rfl, by rw [hU]; exact hK.warm hWm (fun q h1 h2 => hS.2.1 q h1 h2), by rw [hU]; exact hW⟩⟩
      rfl (by rw [List.length_map]; exact hn) hsz rfl (lv_room hst) hd ⟨hc.1, hc.2⟩
    intro T hT X
    obtain ⟨v, st₀, t, T', L, h0, X', hL, e1, e2, ⟨⟨v', r', g', j', hv, hG, hW'⟩, hF⟩, stp⟩ := hr T hT X
    injection hv with hv
    subst hv
    have hS' : va_S (AB B) s.heap t.heap (locs ++ L) := by
      have hz := hF.1
      rw [h0] at hz
      refine ⟨Nat.le_trans hS.1 hz, fun q h1 h2 => ?_, fun q hq => ?_⟩
      · rw [hF.2 q (by rw [h0]; exact Nat.lt_of_lt_of_le h1 hS.1) h2, h0]
        exact hS.2.1 q h1 h2
      · rcases List.mem_append.mp hq with h | h
        · exact hS.2.2 q h
        · exact hL q h
    obtain ⟨t2, a1, b1⟩ := kk v' r' g' j' t.heap (locs ++ L) hG hS' hW' T' e1 X'
    exact ⟨t2, stp t2 a1, b1⟩
end
set_option maxRecDepth 100000 in
theorem d118 : (decode (mB 118) 0 = .ok (.iconst 0, 1) ∧ decode (mB 118) 1 = .ok (.istore_n 2, 1) ∧ decode (mB 118) 2 = .ok (.iconst 0, 1) ∧ decode (mB 118) 3 = .ok (.istore_n 3, 1)) ∧
    (decode (mB 118) 4 = .ok (.iload_n 3, 1) ∧ decode (mB 118) 5 = .ok (.aload_n 0, 1) ∧ decode (mB 118) 6 = .ok (.getfield 20, 3) ∧ decode (mB 118) 9 = .ok (.getfield 117, 3) ∧ decode (mB 118) 12 = .ok (.if_icmp .ge 34, 3)) ∧
    (decode (mB 118) 15 = .ok (.aload_n 0, 1) ∧ decode (mB 118) 16 = .ok (.getfield 49, 3) ∧ decode (mB 118) 19 = .ok (.aload_n 0, 1) ∧ decode (mB 118) 20 = .ok (.getfield 20, 3) ∧ decode (mB 118) 23 = .ok (.iload_n 3, 1) ∧ decode (mB 118) 24 = .ok (.invokevirtual 155, 3)) ∧
    (decode (mB 118) 27 = .ok (.ifCond .eq 13, 3) ∧ decode (mB 118) 30 = .ok (.iload_n 2, 1) ∧ decode (mB 118) 31 = .ok (.iload_n 1, 1) ∧ decode (mB 118) 32 = .ok (.if_icmp .ne 5, 3) ∧ decode (mB 118) 35 = .ok (.iload_n 3, 1)) ∧
    (decode (mB 118) 37 = .ok (.iinc 2 1, 3) ∧ decode (mB 118) 40 = .ok (.iinc 3 1, 3) ∧ decode (mB 118) 43 = .ok (.goto (-39), 3)) ∧
    (decode (mB 118) 36 = .ok (.ireturn, 1) ∧ decode (mB 118) 46 = .ok (.new 353, 3) ∧ decode (mB 118) 49 = .ok (.dup, 1) ∧ decode (mB 118) 50 = .ok (.ldc_w 355, 3) ∧ decode (mB 118) 53 = .ok (.invokespecial 357, 3) ∧ decode (mB 118) 56 = .ok (.athrow, 1)) := by and_intros <;> decide +kernel
section
variable {p : Program} {l : Launch} {e : Env} {R : Room} {s : State} {m : MethodId} {args : Array Value} {below : List Frame} {meth : Method} {c : Code} {D : va_G} {CA : Nat → ClassId} {B : Nat} {sa sv : Nat → Nat} {H : Heap} {locs : List Loc} {ls : Array Slot} {cells slots : Nat} {Qw : State → Prop} {r : Rr} {g : Gi} {j : Gl} {n b q d : Nat} {Rw Y : Nat → Nat} {x : Int32}
set_option maxHeartbeats 1000000 in
/-- led from its entry: where it answers, and where it throws -/
theorem led_walk (F : Fy p s m args c 118 D CA B sa sv) (hR : d + 1 ≤ R.frames ∧ 64 * (d + 1) ≤ R.locals) (hc : cells ≤ R.cells ∧ slots ≤ R.slots) (hV : Vw n q b Rw Y r g)
    (kr : ∀ (k : Nat) (H1 : Heap) (locs1 : List Loc) (ls1 : Array Slot), k < Rw 5 → Y (30 + k) = 1 → x = nI (bkF Y k) → va_S (AB B) s.heap H1 locs1 → Wd D CA B r g j H1 → W p l e R s m args below meth c H1 locs1 cells slots Qw (F0 m 36 ls1 [.int (nI k)]))
    (kt : ∀ (H1 : Heap) (locs1 : List Loc) (ls1 : Array Slot), (∀ k, k < Rw 5 → Y (30 + k) = 1 → x ≠ nI (bkF Y k)) → va_S (AB B) s.heap H1 locs1 → Wd D CA B r g j H1 → ls1.size = 4 → W p l e R s m args below meth c H1 locs1 cells slots Qw (F0 m 46 ls1 []))
    (hS : va_S (AB B) s.heap H locs) (hW : Wd D CA B r g j H) (hl : lv_has ls 4 [(0, .ref (B + 0)), (1, .int x)]) : W p l e R s m args below meth c H locs cells slots Qw (F0 m 0 ls []) := by
  obtain ⟨⟨d0, d1, d2, d3⟩, ⟨d4, d5, d6, d9, d12⟩, ⟨d15, d16, d19, d20, d23, d24⟩, ⟨d27, d30, d31, d32, d35⟩, ⟨d37, d40, d43⟩, -⟩ := d118
  have hx := F.1
  have hb := F.2.1
  have h5 := hV.b5
  have hp : r 0 2 = some q := hV.1
  have hq := hV.2.1
  have hbr : ∀ k, k < Rw 5 → Y (30 + k) ≤ 1 := fun k hk => by
    have hy := (hV.yo.2.2.2.2.2.2.2.1 k hk).2
    rw [hy.2.1]; split <;> omega
  have loop : ∀ w k, k + w = Rw 5 → (∀ k', k' < k → Y (30 + k') = 1 → x ≠ nI (bkF Y k')) → ∀ (H : Heap) (locs : List Loc) (ls : Array Slot), va_S (AB B) s.heap H locs → Wd D CA B r g j H → lv_has ls 4 [(0, .ref (B + 0)), (1, .int x), (2, .int (nI (bkF Y k))), (3, .int (nI k))] →
      W p l e R s m args below meth c H locs cells slots Qw (F0 m 4 ls []) := by
    intro w
    induction w with
    | zero =>
      intro k hk hno H locs ls hS hW hl
      have hk' : k = Rw 5 := hk
      subst hk'
      refine lv_iload_n hx hb d4 rfl (lv_at hl 3 rfl) ?_
      refine lv_aload_n hx hb d5 rfl (lv_at hl 0 rfl) ?_
      refine W_get F hW d6 (ci := 9) (k := 2) rfl rfl (v := .ref (B + q)) (by rw [hp]; rfl) ?_
      refine W_get F hW d9 (ci := 4) (k := 7) rfl (by rcases hq with e | e <;> rw [e] <;> rfl) (v := .int (nI (Rw 5))) (by show Value.int (g q 7) = _; rw [hV.px.1.2.2.2.2.2.1]) ?_
      refine lv_icmp_ge (tgt := 46) hx hb d12 (by decide) (fun _ => ?_) (fun z => absurd (Int32.le_refl _) z)
      exact kt H locs ls hno hS hW hl.1
    | succ w ih =>
      intro k hk hno H locs ls hS hW hl
      have bl := bkF_le Y k
      refine lv_iload_n hx hb d4 rfl (lv_at hl 3 rfl) ?_
      refine lv_aload_n hx hb d5 rfl (lv_at hl 0 rfl) ?_
      refine W_get F hW d6 (ci := 9) (k := 2) rfl rfl (v := .ref (B + q)) (by rw [hp]; rfl) ?_
      refine W_get F hW d9 (ci := 4) (k := 7) rfl (by rcases hq with e | e <;> rw [e] <;> rfl) (v := .int (nI (Rw 5))) (by show Value.int (g q 7) = _; rw [hV.px.1.2.2.2.2.2.1]) ?_
      refine lv_icmp_ge (tgt := 46) hx hb d12 (by decide) (fun z => ?_) (fun _ => ?_)
      · rw [nI_leI (by omega) (by omega)] at z; omega
      · refine lv_aload_n hx hb d15 rfl (lv_at hl 0 rfl) ?_
        refine W_get F hW d16 (ci := 9) (k := 8) rfl rfl (v := .ref (B + 62)) (by rw [hW.2.2 0 8 62 rfl]; rfl) ?_
        refine lv_aload_n hx hb d19 rfl (lv_at hl 0 rfl) ?_
        refine W_get F hW d20 (ci := 9) (k := 2) rfl rfl (v := .ref (B + q)) (by rw [hp]; rfl) ?_
        refine lv_iload_n hx hb d23 rfl (lv_at hl 3 rfl) ?_
        refine W_callV (as := [.ref q, .int (nI k)]) (a := 62) F hS hW hR hc d24 (mk := 62) (n := 2) rfl rfl rfl (by decide) hl.1 (X_isBroken (K := fun v r' g' j' => v = nI (Y (30 + k)) ∧ r' = r ∧ g' = g ∧ j' = j) hV (by omega) ⟨rfl, rfl, rfl, rfl⟩) ?_
        intro v r' g' j' H1 locs1 hv hS1 hW1
        unfold rkI at hv
        split at hv
        · obtain ⟨rfl, rfl, rfl, rfl⟩ := hv
          have next : (Y (30 + k) = 1 → x ≠ nI (bkF Y k)) → ∀ (ls : Array Slot), lv_has ls 4 [(0, .ref (B + 0)), (1, .int x), (2, .int (nI (bkF Y (k + 1)))), (3, .int (nI k))] → W p l e R s m args below meth c H1 locs1 cells slots Qw (F0 m 40 ls []) := by
            intro hn ls hl
            refine lv_iinc (v := nI (k + 1)) (lv' := [(3, .int (nI (k + 1))), (0, .ref (B + 0)), (1, .int x), (2, .int (nI (bkF Y (k + 1))))]) hx hb d40 hl (k := 3) rfl (by rw [← nI_add]; rfl) (by decide) rfl (fun ls hl => ?_)
            refine lv_goto (tgt := 4) hx hb d43 (by decide) ?_
            refine ih (k + 1) (by omega) (fun k' hk' => ?_) H1 locs1 ls hS1 hW1 (lv_sub hl [1, 2, 3, 0] rfl)
            by_cases z : k' = k
            · subst z; exact hn
            · exact hno k' (by omega)
          refine lv_if_eq (tgt := 40) hx hb d27 (by decide) (fun z => ?_) (fun z => ?_)
          · have z0 : Y (30 + k) = 0 := by
              rcases Nat.lt_or_ge 0 (Y (30 + k)) with y | y
              · have := hbr k (by omega)
                rw [show Y (30 + k) = 1 by omega] at z
                exact absurd z n10
              · omega
            refine next (fun y => by omega) ls ?_
            have : bkF Y (k + 1) = bkF Y k := by
              show bkF Y k + (if Y (30 + k) = 0 then 0 else 1) = _
              rw [if_pos z0]; rfl
            rw [this]; exact hl
          · have z1 : Y (30 + k) = 1 := by
              have := hbr k (by omega)
              rcases Nat.lt_or_ge 0 (Y (30 + k)) with y | y
              · omega
              · rw [show Y (30 + k) = 0 by omega] at z
                exact absurd n00 z
            refine lv_iload_n hx hb d30 rfl (lv_at hl 2 rfl) ?_
            refine lv_iload_n hx hb d31 rfl (lv_at hl 1 rfl) ?_
            refine lv_icmp_ne (tgt := 37) hx hb d32 (by decide) (fun y => ?_) (fun y => ?_)
            · refine lv_iinc (v := nI (bkF Y (k + 1))) (lv' := [(2, .int (nI (bkF Y (k + 1)))), (0, .ref (B + 0)), (1, .int x), (3, .int (nI k))]) hx hb d37 hl (k := 2) rfl ?_ (by decide) rfl (fun ls hl => ?_)
              · show nI (bkF Y k) + nI 1 = nI (bkF Y k + (if Y (30 + k) = 0 then 0 else 1))
                rw [if_neg (by omega), nI_add]
              · exact next (fun _ e => y e.symm) ls (lv_sub hl [1, 2, 0, 3] rfl)
            · refine lv_iload_n hx hb d35 rfl (lv_at hl 3 rfl) ?_
              exact kr k H1 locs1 ls (by omega) z1 y.symm hS1 hW1
        · exact hv.elim
  refine lv_iconst (v := 0) hx hb d0 (by decide) ?_
  refine lv_istore_n (lv' := [(2, .int 0), (0, .ref (B + 0)), (1, .int x)]) hx hb d1 rfl hl (by decide) rfl (fun ls hl => ?_)
  refine lv_iconst (v := 0) hx hb d2 (by decide) ?_
  refine lv_istore_n (lv' := [(3, .int 0), (2, .int 0), (0, .ref (B + 0)), (1, .int x)]) hx hb d3 rfl hl (by decide) rfl (fun ls hl => ?_)
  refine loop (Rw 5) 0 (by omega) (fun k' hk' => by omega) H locs ls hS hW ?_
  have : nI (bkF Y 0) = 0 := nI_0
  rw [this, nI_0]
  exact lv_sub hl [2, 3, 1, 0] rfl
end
