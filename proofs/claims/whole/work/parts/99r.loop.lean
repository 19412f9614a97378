/-! the law's loop -/
theorem xnI (x : Int32) : x = nI x.toBitVec.toNat := by
  apply Int32.toBitVec_inj.mp
  show x.toBitVec = BitVec.ofNat 32 x.toBitVec.toNat
  rw [BitVec.ofNat_toNat, BitVec.setWidth_eq]
theorem and63 (x : Int32) : x &&& 63 = nI (x.toBitVec.toNat % 64) := by
  have h := pk_andN (n := x.toBitVec.toNat) x.toBitVec.isLt (m := 63) 6 (by decide)
  rw [← xnI x] at h
  exact h
theorem sub6 {L : Nat} (h : 6 ≤ L) : Int32.ofNat L - nI 6 = nI (L - 6) := by
  have : nI L = nI (L - 6) + nI 6 := by rw [nI_add]; congr 1; omega
  show nI L - nI 6 = _
  rw [this, Int32.add_sub_cancel]
theorem sub6lt : ∀ L : Nat, L < 6 → Int32.ofNat L - nI 6 < nI (6 * 0) := by decide
section
variable {p : Program} {l : Launch} {e : Env} {s : State} {m : MethodId} {below : List Frame} {meth : Method} {c : Code} {D : va_G} {CA : Nat → ClassId} {B : Nat} {sa sv : Nat → Nat} {b L : Nat} {xs : Nat → Int32}
theorem L_sw {H : Heap} {locs : List Loc} {ls : Array Slot} {cells slots : Nat} {Qw : State → Prop} {r : Rr} {g : Gi} {j : Gl} {n i : Nat} (C : LC p s m c b L xs D CA B sa sv) (htr : ∀ e : Env, l.admits e → e.platform.stackTraces = false) (hlx : ∀ w ∈ lxW, w.before #[Value.ref b] s = true) (hS : va_S (AB B) s.heap H locs) (hW : Wd D CA B r g j H) (hl : lv_has ls 7 (lvL b B i)) (hi : i + 6 ≤ L) (hn : n + 1 ≤ 512) (hJ : J n r g) (hc : cells + 1 ≤ room_1.cells ∧ slots + 6 ≤ room_1.slots) (kk : KK p l e s m below meth c D CA B cells slots Qw n b i) : ∀ k, k < 48 → W p l e room_1 s m #[Value.ref b] below meth c H locs cells slots Qw (F0 m 40 ls [.int (nI k)]) := by
  intro k hk
  match k, hk with
  | 0, _ => exact L_0 C hS hW hl hi hn hJ hc kk
  | 1, _ => exact L_1 C hS hW hl hi hn hJ hc kk
  | 2, _ => exact L_2 C hS hW hl hi hn hJ hc kk
  | 3, _ => exact L_3 C hS hW hl hi hn hJ hc kk
  | 4, _ => exact L_4 C hS hW hl hi hn hJ hc kk
  | 5, _ => exact L_5 C hS hW hl hi hn hJ hc kk
  | 6, _ => exact L_6 C hS hW hl hi hn hJ hc kk
  | 7, _ => exact L_7 C hS hW hl hi hn hJ hc kk
  | 8, _ => exact L_8 C hS hW hl hi hn hJ hc kk
  | 9, _ => exact L_9 C hS hW hl hi hn hJ hc kk
  | 10, _ => exact L_10 C hS hW hl hi hn hJ hc kk
  | 11, _ => exact L_11 C hS hW hl hi hn hJ hc kk
  | 12, _ => exact L_12 C hS hW hl hi hn hJ hc kk
  | 13, _ => exact L_13 C hS hW hl hi hn hJ hc kk
  | 14, _ => exact L_14 C hS hW hl hi hn hJ hc kk
  | 15, _ => exact L_15 C hS hW hl hi hn hJ hc kk
  | 16, _ => exact L_16 C hS hW hl hi hn hJ hc kk
  | 17, _ => exact L_17 C hS hW hl hi hn hJ hc kk
  | 18, _ => exact L_18 C hS hW hl hi hn hJ hc kk
  | 19, _ => exact L_19 C hS hW hl hi hn hJ hc kk
  | 20, _ => exact L_20 C hS hW hl hi hn hJ hc kk
  | 21, _ => exact L_21 C hS hW hl hi hn hJ hc kk
  | 22, _ => exact L_22 C hS hW hl hi hn hJ hc kk
  | 23, _ => exact L_23 C hS hW hl hi hn hJ hc kk
  | 24, _ => exact L_24 C hS hW hl hi hn hJ hc kk
  | 25, _ => exact L_25 C hS hW hl hi hn hJ hc kk
  | 26, _ => exact L_26 C hS hW hl hi hn hJ hc kk
  | 27, _ => exact L_27 C hS hW hl hi hn hJ hc kk
  | 28, _ => exact L_28 C hS hW hl hi hn hJ hc kk
  | 29, _ => exact L_29 C hS hW hl hi hn hJ hc kk
  | 30, _ => exact L_30 C hS hW hl hi hn hJ hc kk
  | 31, _ => exact L_31 C hS hW hl hi hn hJ hc kk
  | 32, _ => exact L_32 C hS hW hl hi hn hJ hc kk
  | 33, _ => exact L_33 C hS hW hl hi hn hJ hc kk
  | 34, _ => exact L_34 C hS hW hl hi hn hJ hc kk
  | 35, _ => exact L_35 C hS hW hl hi hn hJ hc kk
  | 36, _ => exact L_36 C hS hW hl hi hn hJ hc kk
  | 37, _ => exact L_37 C hS hW hl hi hn hJ hc kk
  | 38, _ => exact L_38 C hS hW hl hi hn hJ hc kk
  | 39, _ => exact L_39 C hS hW hl hi hn hJ hc kk
  | 40, _ => exact L_40 C hS hW hl hi hn hJ hc kk
  | 41, _ => exact L_41 C hS hW hl hi hn hJ hc kk
  | 42, _ => exact L_42 C hS hW hl hi hn hJ hc kk
  | 43, _ => exact L_43 C hS hW hl hi hn hJ hc kk
  | 44, _ => exact L_44 C hS hW hl hi hn hJ hc kk
  | 45, _ => exact L_45 C htr hlx hS hW hl hi hn hJ hc kk
  | 46, _ => exact L_46 C hS hW hl hi hn hJ hc kk
  | 47, _ => exact L_47 C hS hW hl hi hn hJ hc kk
  | k + 48, h => exact absurd h (by omega)
set_option maxHeartbeats 1000000 in
theorem law_loop (C : LC p s m c b L xs D CA B sa sv) (htr : ∀ e : Env, l.admits e → e.platform.stackTraces = false) (hlx : ∀ w ∈ lxW, w.before #[Value.ref b] s = true) (hret : meth.sig.returnType = ret) (hlocks : meth.locks = false) {c0 s0 : Nat} (hc0 : c0 + 513 ≤ 601024) (hs0 : s0 + 6 * 513 ≤ 7293034) :
    ∀ (w n : Nat), n + w = 513 → 6 * n ≤ L → ∀ (H : Heap) (locs : List Loc) (ls : Array Slot) (r : Rr) (g : Gi) (j : Gl), J n r g → va_S (AB B) s.heap H locs → Wd D CA B r g j H → lv_has ls 7 (lvL b B (6 * n)) →
      W p l e room_1 s m #[Value.ref b] below meth c H locs (c0 + n) (s0 + 6 * n) (lw_Z below #[Value.ref b] s) (F0 m 23 ls []) := by
  obtain ⟨-, -, -, ⟨f1, f2, f3, f4, f5, f6, f7, f8, f9, f10, f11⟩, ⟨f12, f13, f14, f15⟩⟩ := dlaw
  obtain ⟨F, hX, hbl, hB, hL⟩ := id C
  have hx := F.1
  have hb := F.2.1
  have hbA : ¬ AB B b := by show ¬ B ≤ b; omega
  intro w
  induction w with
  | zero => intro n hn h6; omega
  | succ w ih =>
    intro n hn h6 H locs ls r g j hJ hS hW hl
    refine lv_iload hx hb f1 (lv_at hl 4 rfl) ?_
    refine lv_aload_n hx hb f2 rfl (lv_at hl 0 rfl) ?_
    refine va_slen hx hb hX hbl hbA hS f3 ?_
    refine lv_bipush (v := nI 6) hx hb f4 (by decide) ?_
    refine lv_isub hx hb f5 ?_
    refine lv_icmp_gt (tgt := 1652) hx hb f6 (by decide) (fun _ => ?_) (fun hlt => ?_)
    · refine lv_iconst (v := 1) hx hb f14 (by decide) ?_
      refine va_forget (fun q hq => ?_) ?_
      · rw [hB]; exact hS.2.2 q hq
      · refine W.widen (k := 601024) (n := 7293034) (by omega) (by omega) ?_
        exact lw_ret hx hb hret hlocks f15
    · have hi : 6 * n + 6 ≤ L := by
        rcases Nat.lt_or_ge L 6 with z | z
        · have hn0 : n = 0 := by omega
          subst hn0
          exact absurd (sub6lt L z) hlt
        · rw [sub6 z, nI_ltI (by omega) (by omega)] at hlt
          omega
      have hc : (c0 + n) + 1 ≤ room_1.cells ∧ (s0 + 6 * n) + 6 ≤ room_1.slots := ⟨by show _ ≤ 601024; omega, by show _ ≤ 7293034; omega⟩
      have kk : KK p l e s m below meth c D CA B (c0 + n) (s0 + 6 * n) (lw_Z below #[Value.ref b] s) n b (6 * n) := by
        intro r' g' j' H1 locs1 ls1 hJ1 hS1 hW1 hl1
        refine lv_iinc (v := nI (6 * (n + 1))) (lv' := [(4, .int (nI (6 * (n + 1)))), (0, .ref b), (1, .ref (B + 0)), (2, .ref (B + 263)), (3, .ref (B + 277))]) hx hb f12 hl1 (k := 4) rfl ?_ (by decide) rfl (fun ls hl => ?_)
        · show nI (6 * n) + nI 6 = _
          rw [nI_add]; rfl
        · refine lv_goto (tgt := 23) hx hb f13 (by decide) ?_
          exact ih (n + 1) (by omega) (by omega) H1 locs1 ls r' g' j' hJ1 hS1 hW1 (lv_sub hl [1, 2, 3, 4, 0] rfl)
      refine lv_aload_n hx hb f7 rfl (lv_at hl 0 rfl) ?_
      refine lv_iload hx hb f8 (lv_at hl 4 rfl) ?_
      refine va_sld hx hb hX hbl hbA hS (vp_in_nI (by omega) (by omega)) f9 ?_
      refine lv_bipush (v := 63) hx hb f10 (by decide) ?_
      refine lv_iand hx hb f11 ?_
      rw [and63]
      generalize hk : (xs (nI (6 * n)).toNatClampNeg).toBitVec.toNat % 64 = k
      have hk64 : k < 64 := by rw [← hk]; exact Nat.mod_lt _ (by decide)
      clear hk
      rcases Nat.lt_or_ge k 48 with z | z
      · exact L_sw C htr hlx hS hW hl hi (by omega) hJ hc kk k z
      · have h1 : (nI k).toInt = (k : Int) := nI_toInt (by omega)
        refine lv_tableOut (tgt := 1646) hx hb d_sw (Or.inr (by rw [h1]; omega)) (by decide) ?_
        refine W.widen (k := (c0 + n) + 1) (n := (s0 + 6 * n) + 6) (Nat.le_add_right _ _) (Nat.le_add_right _ _) ?_
        exact kk r g j H locs ls (J_same (by omega) hJ Ag.rf rfl rfl) hS hW hl
end
