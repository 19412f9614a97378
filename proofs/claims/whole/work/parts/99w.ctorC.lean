/-! the constructor of the class (written by a program out of the listing, the loops by hand) -/
def zR : Rr := fun _ _ => none
def zG : Gi := fun _ _ => 0
def dR1 : Rr := (uR (portR 2 (uR zR 0 0 (some 1))) 0 2 (some 2))
def dR2 : Rr := (uR (portR 30 dR1) 0 3 (some 30))
def dR3 : Rr := (uR (readR 58 1 30 dR2) 0 4 (some 58))
def dR4 : Rr := (uR (yardR 62 dR3) 0 8 (some 62))
def dR5 : Rr := (uR (outR 73 (uR (uR dR4 0 9 (some 71)) 0 11 (some 72))) 0 13 (some 73))
def dR6 : Rr := (uR (nightR 79 dR5) 0 14 (some 79))
def dR7 : Rr := (uR (inlR 81 dR6) 0 15 (some 81))
def dR8 : Rr := (uR (strR 88 dR7) 0 16 (some 88))
def dG : Gi := (uI (uI zG 79 1 (-2)) 79 2 (-2))
def kpR : Nat → Rr → Rr
  | 0, r => r
  | i + 1, r => uR (yardR (92 + 9 * i) (kpR i r)) 71 i (some (92 + 9 * i))
def imR : Nat → Rr → Rr
  | 0, r => r
  | i + 1, r => uR (yardR (236 + 9 * i) (imR i r)) 72 i (some (236 + 9 * i))
def dayR : Rr := imR 3 (kpR 16 dR8)
theorem yardR_o {a b : Nat} (r : Rr) (h : b ≠ a) : yardR a r b = r b := by
  unfold yardR
  rw [uR_o h, uR_o h, uR_o h, uR_o h, uR_o h, uR_o h, uR_o h, uR_o h]
theorem kpR_o (r : Rr) {b : Nat} (h : b < 71) : ∀ i, kpR i r b = r b
  | 0 => rfl
  | i + 1 => by show uR (yardR (92 + 9 * i) (kpR i r)) 71 i _ b = _; rw [uR_o (by omega), yardR_o _ (by omega)]; exact kpR_o r h i
theorem imR_o (r : Rr) {b : Nat} (h : b < 71) : ∀ i, imR i r b = r b
  | 0 => rfl
  | i + 1 => by show uR (yardR (236 + 9 * i) (imR i r)) 72 i _ b = _; rw [uR_o (by omega), yardR_o _ (by omega)]; exact imR_o r h i
theorem sh_kp : ∀ i, i < 16 → ∀ j, j < 9 → SH (92 + 9 * i + j) = shYard[j]? := by decide +kernel
theorem sh_im : ∀ i, i < 3 → ∀ j, j < 9 → SH (236 + 9 * i + j) = shYard[j]? := by decide +kernel
set_option maxRecDepth 100000 in
set_option maxHeartbeats 8000000 in
theorem k_Day : CmC 3 72 [.ref 0] 262 5225 1 263 zR dayR zG dG := by
  refine CmC.of (by decide) (by decide +kernel) (by decide +kernel) (Nat.le_of_ble_eq_true rfl) ?_
  intro p l e s m args below meth c D CA B sa sv ls F hK hin hret hlocks hW hl
  have hx := F.1
  have hb := F.2.1
  have hS : va_S (AB B) s.heap s.heap [] := va_S.rf
  have hl : lv_has ls 2 [(0, .ref (B + 0))] := hl
  have loopI : ∀ w i, i + w = 3 → ∀ (H : Heap) (locs : List Loc) (ls : Array Slot), va_S (AB B) s.heap H locs → Wc D CA B (imR i (kpR 16 dR8)) dG (236 + 9 * i) H → lv_has ls 2 [(0, .ref (B + 0)), (1, .int (nI i))] → W p l e (rmC 3 262 5225) s m args below meth c H locs (235 + 9 * i) (4760 + 155 * i) (MQ below (QK D CA B dayR dG 263) args s 262 5225 (AB B)) (F0 m 185 ls []) := by
    intro w
    induction w with
    | zero =>
      intro i hi H locs ls hS hW hl
      have hin3 : i = 3 := hi
      rw [hin3] at hW hl ⊢
      refine lv_iload_n hx hb (show decode (mB 72) 185 = .ok (.iload_n 1, 1) by decide +kernel) rfl (lv_at hl 1 rfl) ?_
      refine lv_iconst (v := nI 3) hx hb (show decode (mB 72) 186 = .ok (.iconst 3, 1) by decide +kernel) (by decide) ?_
      refine lv_icmp_ge (tgt := 209) hx hb (show decode (mB 72) 187 = .ok (.if_icmp .ge 22, 3) by decide +kernel) (by decide) (fun _ => ?_) (fun z => absurd (Int32.le_refl _) z)
      exact W.vret hx hb hret (fun t ht _ => ⟨rfl, by rw [ht]; exact hW, hS.F ht⟩) hS.2.2 (show decode (mB 72) 209 = .ok (.return_, 1) by decide +kernel) hlocks
    | succ w ih =>
      intro i hi H locs ls hS hW hl
      refine lv_iload_n hx hb (show decode (mB 72) 185 = .ok (.iload_n 1, 1) by decide +kernel) rfl (lv_at hl 1 rfl) ?_
      refine lv_iconst (v := nI 3) hx hb (show decode (mB 72) 186 = .ok (.iconst 3, 1) by decide +kernel) (by decide) ?_
      refine lv_icmp_ge (tgt := 209) hx hb (show decode (mB 72) 187 = .ok (.if_icmp .ge 22, 3) by decide +kernel) (by decide) (fun z => ?_) (fun _ => ?_)
      · rw [nI_leI (by omega) (by omega)] at z; omega
      · refine lv_aload_n hx hb (show decode (mB 72) 190 = .ok (.aload_n 0, 1) by decide +kernel) rfl (lv_at hl 0 rfl) ?_
        refine C_getR (ci := 9) (k := 11) (b := 72) F hW (by omega) rfl (show decode (mB 72) 191 = .ok (.getfield 60, 3) by decide +kernel) rfl rfl (by rw [imR_o _ (by decide), kpR_o _ (by decide)]; rfl) ?_
        refine lv_iload_n hx hb (show decode (mB 72) 194 = .ok (.iload_n 1, 1) by decide +kernel) rfl (lv_at hl 1 rfl) ?_
        have hzn := hW.2.2.2
        refine C_new (ci := 8) (i1 := 2015) (i2 := 2016) (i3 := 1006) F hS hW (sh_im i (by omega) 0 (by decide)) (by decide) (by decide +kernel) (show decode (mB 72) 195 = .ok (.new 46, 3) by decide +kernel) (by show 235 + 9 * i + 1 ≤ 262; omega) (by show 4760 + 155 * i + 11 ≤ 5225; omega) (fun H1 hS hW => ?_)
        refine lv_dup hx hb (show decode (mB 72) 198 = .ok (.dup, 1) by decide +kernel) rfl ?_
        refine C_init (d := 1) (mk := 56) (a := 236 + 9 * i) (as := []) (mc := 8) (ms := 144) (i0 := 0) (i1 := 2018) (i2 := 1006) (n := 0) F hK hS hW (by decide) (by decide +kernel) (by decide +kernel) (by decide +kernel) (Or.inr (by decide +kernel)) (by decide +kernel) rfl (show decode (mB 72) 199 = .ok (.invokespecial 48, 3) by decide +kernel) hl.1 (Nat.le_of_ble_eq_true rfl) ⟨by decide, by decide⟩ ⟨by show 235 + 9 * i + 1 + 8 ≤ 262; omega, by show 4760 + 155 * i + 11 + 144 ≤ 5225; omega⟩ (k_Yard (fun q hq => sh_im i (by omega) q hq) (fun k => hzn _ k (Nat.le_refl _))) (fun H1 locs1 hS hW => ?_)
        refine C_aast (a := 72) (t := 6) (n := 3) (k := i) (b := 236 + 9 * i) (ci := 8) F hS hW (by omega) rfl rfl (by decide) (by omega) (sh_im i (by omega) 0 (by decide)) (by omega) (show decode (mB 72) 202 = .ok (.aastore, 1) by decide +kernel) (fun H1 locs1 hS hW => ?_)
        refine lv_iinc (v := nI (i + 1)) (lv' := [(1, .int (nI (i + 1))), (0, .ref (B + 0))]) hx hb (show decode (mB 72) 203 = .ok (.iinc 1 1, 3) by decide +kernel) hl (k := 1) rfl (by rw [← nI_add]; rfl) (by decide) rfl (fun ls hl => ?_)
        refine lv_goto (tgt := 185) hx hb (show decode (mB 72) 206 = .ok (.goto (-21), 3) by decide +kernel) (by decide) ?_
        have e1 : 236 + 9 * i + 9 = 236 + 9 * (i + 1) := by omega
        have e2 : 235 + 9 * i + 1 + 8 = 235 + 9 * (i + 1) := by omega
        have e3 : 4760 + 155 * i + 11 + 144 = 4760 + 155 * (i + 1) := by omega
        rw [e1] at hW
        rw [show nf 8 = 11 from rfl, e2, e3]
        exact ih (i + 1) (by omega) H1 locs1 ls hS hW (lv_sub hl [1, 0] rfl)
  have loopK : ∀ w i, i + w = 16 → ∀ (H : Heap) (locs : List Loc) (ls : Array Slot), va_S (AB B) s.heap H locs → Wc D CA B (kpR i dR8) dG (92 + 9 * i) H → lv_has ls 2 [(0, .ref (B + 0)), (1, .int (nI i))] → W p l e (rmC 3 262 5225) s m args below meth c H locs (91 + 9 * i) (2280 + 155 * i) (MQ below (QK D CA B dayR dG 263) args s 262 5225 (AB B)) (F0 m 158 ls []) := by
    intro w
    induction w with
    | zero =>
      intro i hi H locs ls hS hW hl
      have hin16 : i = 16 := hi
      rw [hin16] at hW hl ⊢
      refine lv_iload_n hx hb (show decode (mB 72) 158 = .ok (.iload_n 1, 1) by decide +kernel) rfl (lv_at hl 1 rfl) ?_
      refine lv_bipush (v := nI 16) hx hb (show decode (mB 72) 159 = .ok (.bipush 16, 2) by decide +kernel) (by decide) ?_
      refine lv_icmp_ge (tgt := 183) hx hb (show decode (mB 72) 161 = .ok (.if_icmp .ge 22, 3) by decide +kernel) (by decide) (fun _ => ?_) (fun z => absurd (Int32.le_refl _) z)
      refine lv_iconst (v := nI 0) hx hb (show decode (mB 72) 183 = .ok (.iconst 0, 1) by decide +kernel) (by decide) ?_
      refine lv_istore_n (lv' := [(1, .int (nI 0)), (0, .ref (B + 0))]) hx hb (show decode (mB 72) 184 = .ok (.istore_n 1, 1) by decide +kernel) rfl hl (by decide) rfl (fun ls hl => ?_)
      exact loopI 3 0 rfl H locs ls hS hW (lv_sub hl [1, 0] rfl)
    | succ w ih =>
      intro i hi H locs ls hS hW hl
      refine lv_iload_n hx hb (show decode (mB 72) 158 = .ok (.iload_n 1, 1) by decide +kernel) rfl (lv_at hl 1 rfl) ?_
      refine lv_bipush (v := nI 16) hx hb (show decode (mB 72) 159 = .ok (.bipush 16, 2) by decide +kernel) (by decide) ?_
      refine lv_icmp_ge (tgt := 183) hx hb (show decode (mB 72) 161 = .ok (.if_icmp .ge 22, 3) by decide +kernel) (by decide) (fun z => ?_) (fun _ => ?_)
      · rw [nI_leI (by omega) (by omega)] at z; omega
      · refine lv_aload_n hx hb (show decode (mB 72) 164 = .ok (.aload_n 0, 1) by decide +kernel) rfl (lv_at hl 0 rfl) ?_
        refine C_getR (ci := 9) (k := 9) (b := 71) F hW (by omega) rfl (show decode (mB 72) 165 = .ok (.getfield 53, 3) by decide +kernel) rfl rfl (by rw [kpR_o _ (by decide)]; rfl) ?_
        refine lv_iload_n hx hb (show decode (mB 72) 168 = .ok (.iload_n 1, 1) by decide +kernel) rfl (lv_at hl 1 rfl) ?_
        have hzn := hW.2.2.2
        refine C_new (ci := 8) (i1 := 2015) (i2 := 2016) (i3 := 1006) F hS hW (sh_kp i (by omega) 0 (by decide)) (by decide) (by decide +kernel) (show decode (mB 72) 169 = .ok (.new 46, 3) by decide +kernel) (by show 91 + 9 * i + 1 ≤ 262; omega) (by show 2280 + 155 * i + 11 ≤ 5225; omega) (fun H1 hS hW => ?_)
        refine lv_dup hx hb (show decode (mB 72) 172 = .ok (.dup, 1) by decide +kernel) rfl ?_
        refine C_init (d := 1) (mk := 56) (a := 92 + 9 * i) (as := []) (mc := 8) (ms := 144) (i0 := 0) (i1 := 2018) (i2 := 1006) (n := 0) F hK hS hW (by decide) (by decide +kernel) (by decide +kernel) (by decide +kernel) (Or.inr (by decide +kernel)) (by decide +kernel) rfl (show decode (mB 72) 173 = .ok (.invokespecial 48, 3) by decide +kernel) hl.1 (Nat.le_of_ble_eq_true rfl) ⟨by decide, by decide⟩ ⟨by show 91 + 9 * i + 1 + 8 ≤ 262; omega, by show 2280 + 155 * i + 11 + 144 ≤ 5225; omega⟩ (k_Yard (fun q hq => sh_kp i (by omega) q hq) (fun k => hzn _ k (Nat.le_refl _))) (fun H1 locs1 hS hW => ?_)
        refine C_aast (a := 71) (t := 6) (n := 16) (k := i) (b := 92 + 9 * i) (ci := 8) F hS hW (by omega) rfl rfl (by decide) (by omega) (sh_kp i (by omega) 0 (by decide)) (by omega) (show decode (mB 72) 176 = .ok (.aastore, 1) by decide +kernel) (fun H1 locs1 hS hW => ?_)
        refine lv_iinc (v := nI (i + 1)) (lv' := [(1, .int (nI (i + 1))), (0, .ref (B + 0))]) hx hb (show decode (mB 72) 177 = .ok (.iinc 1 1, 3) by decide +kernel) hl (k := 1) rfl (by rw [← nI_add]; rfl) (by decide) rfl (fun ls hl => ?_)
        refine lv_goto (tgt := 158) hx hb (show decode (mB 72) 180 = .ok (.goto (-22), 3) by decide +kernel) (by decide) ?_
        have e1 : 92 + 9 * i + 9 = 92 + 9 * (i + 1) := by omega
        have e2 : 91 + 9 * i + 1 + 8 = 91 + 9 * (i + 1) := by omega
        have e3 : 2280 + 155 * i + 11 + 144 = 2280 + 155 * (i + 1) := by omega
        rw [e1] at hW
        rw [show nf 8 = 11 from rfl, e2, e3]
        exact ih (i + 1) (by omega) H1 locs1 ls hS hW (lv_sub hl [1, 0] rfl)
  refine lv_aload_n hx hb (show decode (mB 72) 0 = .ok (.aload_n 0, 1) by decide +kernel) rfl (lv_at hl 0 rfl) ?_
  refine C_obj (i1 := 1027) F hl.1 (by decide +kernel) (show decode (mB 72) 1 = .ok (.invokespecial 3, 3) by decide +kernel) (Nat.le_of_ble_eq_true rfl) (Nat.le_of_ble_eq_true rfl) ?_
  refine lv_aload_n hx hb (show decode (mB 72) 4 = .ok (.aload_n 0, 1) by decide +kernel) rfl (lv_at hl 0 rfl) ?_
  refine lv_sipush (v := nI 1000) hx hb (show decode (mB 72) 5 = .ok (.sipush 1000, 3) by decide +kernel) (by decide) ?_
  refine C_newa (t := 1) (n := 1000) (i1 := 1073) F hK hS hW rfl rfl (by decide +kernel) (show decode (mB 72) 8 = .ok (.newarray .byte, 2) by decide +kernel) (by decide) (Nat.le_of_ble_eq_true rfl) (Nat.le_of_ble_eq_true rfl) (fun H1 hS hW => ?_)
  refine C_putR (ix := 9) (ci := 9) (k := 0) (b := 1) F hin hS hW (by decide) rfl (by decide +kernel) (fun H1 locs1 hS hW => ?_)
  refine lv_aload_n hx hb (show decode (mB 72) 13 = .ok (.aload_n 0, 1) by decide +kernel) rfl (lv_at hl 0 rfl) ?_
  refine lv_iconst (v := 0) hx hb (show decode (mB 72) 14 = .ok (.iconst 0, 1) by decide +kernel) (by decide) ?_
  refine C_put0 (ix := 13) (ci := 9) (k := 1) F hin hS hW (by decide) rfl rfl (by decide +kernel) (fun H1 locs1 hS hW => ?_)
  refine lv_aload_n hx hb (show decode (mB 72) 18 = .ok (.aload_n 0, 1) by decide +kernel) rfl (lv_at hl 0 rfl) ?_
  have hzn := hW.2.2.2
  refine C_new (ci := 4) (i1 := 1030) (i2 := 1031) (i3 := 1002) F hS hW rfl (by decide) (by decide +kernel) (show decode (mB 72) 19 = .ok (.new 17, 3) by decide +kernel) (Nat.le_of_ble_eq_true rfl) (Nat.le_of_ble_eq_true rfl) (fun H1 hS hW => ?_)
  refine lv_dup hx hb (show decode (mB 72) 22 = .ok (.dup, 1) by decide +kernel) rfl ?_
  refine C_init (d := 2) (mk := 23) (a := 2) (as := []) (mc := 27) (ms := 158) (i0 := 1032) (i1 := 1033) (i2 := 1002) (n := 0) F hK hS hW (by decide) (by decide +kernel) (by decide +kernel) (by decide +kernel) (Or.inl (by decide +kernel)) (by decide +kernel) rfl (show decode (mB 72) 23 = .ok (.invokespecial 19, 3) by decide +kernel) hl.1 (Nat.le_of_ble_eq_true rfl) ⟨by decide, by decide⟩ ⟨(Nat.le_of_ble_eq_true rfl), (Nat.le_of_ble_eq_true rfl)⟩ (k_Port (a := 2) (by decide +kernel) (fun k => hzn _ k (Nat.le_refl _))) (fun H1 locs1 hS hW => ?_)
  refine C_putR (ix := 20) (ci := 9) (k := 2) (b := 2) F hin hS hW (by decide) rfl (by decide +kernel) (fun H1 locs1 hS hW => ?_)
  have hW : Wc D CA B dR1 zG 30 H1 := hW
  refine lv_aload_n hx hb (show decode (mB 72) 29 = .ok (.aload_n 0, 1) by decide +kernel) rfl (lv_at hl 0 rfl) ?_
  have hzn := hW.2.2.2
  refine C_new (ci := 4) (i1 := 1030) (i2 := 1031) (i3 := 1002) F hS hW rfl (by decide) (by decide +kernel) (show decode (mB 72) 30 = .ok (.new 17, 3) by decide +kernel) (Nat.le_of_ble_eq_true rfl) (Nat.le_of_ble_eq_true rfl) (fun H1 hS hW => ?_)
  refine lv_dup hx hb (show decode (mB 72) 33 = .ok (.dup, 1) by decide +kernel) rfl ?_
  refine C_init (d := 2) (mk := 23) (a := 30) (as := []) (mc := 27) (ms := 158) (i0 := 1032) (i1 := 1033) (i2 := 1002) (n := 0) F hK hS hW (by decide) (by decide +kernel) (by decide +kernel) (by decide +kernel) (Or.inl (by decide +kernel)) (by decide +kernel) rfl (show decode (mB 72) 34 = .ok (.invokespecial 19, 3) by decide +kernel) hl.1 (Nat.le_of_ble_eq_true rfl) ⟨by decide, by decide⟩ ⟨(Nat.le_of_ble_eq_true rfl), (Nat.le_of_ble_eq_true rfl)⟩ (k_Port (a := 30) (by decide +kernel) (fun k => hzn _ k (Nat.le_refl _))) (fun H1 locs1 hS hW => ?_)
  refine C_putR (ix := 24) (ci := 9) (k := 3) (b := 30) F hin hS hW (by decide) rfl (by decide +kernel) (fun H1 locs1 hS hW => ?_)
  have hW : Wc D CA B dR2 zG 58 H1 := hW
  refine lv_aload_n hx hb (show decode (mB 72) 40 = .ok (.aload_n 0, 1) by decide +kernel) rfl (lv_at hl 0 rfl) ?_
  have hzn := hW.2.2.2
  refine C_new (ci := 5) (i1 := 1191) (i2 := 1192) (i3 := 1005) F hS hW rfl (by decide) (by decide +kernel) (show decode (mB 72) 41 = .ok (.new 27, 3) by decide +kernel) (Nat.le_of_ble_eq_true rfl) (Nat.le_of_ble_eq_true rfl) (fun H1 hS hW => ?_)
  refine lv_dup hx hb (show decode (mB 72) 44 = .ok (.dup, 1) by decide +kernel) rfl ?_
  refine lv_aload_n hx hb (show decode (mB 72) 45 = .ok (.aload_n 0, 1) by decide +kernel) rfl (lv_at hl 0 rfl) ?_
  refine C_getR (ci := 9) (k := 0) (b := 1) F hW (by decide) rfl (show decode (mB 72) 46 = .ok (.getfield 9, 3) by decide +kernel) rfl rfl rfl ?_
  refine lv_aload_n hx hb (show decode (mB 72) 49 = .ok (.aload_n 0, 1) by decide +kernel) rfl (lv_at hl 0 rfl) ?_
  refine C_getR (ci := 9) (k := 3) (b := 30) F hW (by decide) rfl (show decode (mB 72) 50 = .ok (.getfield 24, 3) by decide +kernel) rfl rfl rfl ?_
  refine C_init (d := 1) (mk := 27) (a := 58) (as := [.ref 1, .ref 30]) (mc := 3) (ms := 69) (i0 := 1193) (i1 := 1194) (i2 := 1005) (n := 2) F hK hS hW (by decide) (by decide +kernel) (by decide +kernel) (by decide +kernel) (Or.inl (by decide +kernel)) (by decide +kernel) rfl (show decode (mB 72) 53 = .ok (.invokespecial 29, 3) by decide +kernel) hl.1 (Nat.le_of_ble_eq_true rfl) ⟨by decide, by decide⟩ ⟨(Nat.le_of_ble_eq_true rfl), (Nat.le_of_ble_eq_true rfl)⟩ (k_Reader (a := 58) (t := 1) (q := 30) (by decide +kernel) (fun k => hzn _ k (Nat.le_refl _))) (fun H1 locs1 hS hW => ?_)
  refine C_putR (ix := 32) (ci := 9) (k := 4) (b := 58) F hin hS hW (by decide) rfl (by decide +kernel) (fun H1 locs1 hS hW => ?_)
  have hW : Wc D CA B dR3 zG 62 H1 := hW
  refine lv_aload_n hx hb (show decode (mB 72) 59 = .ok (.aload_n 0, 1) by decide +kernel) rfl (lv_at hl 0 rfl) ?_
  refine lv_iconst (v := 0) hx hb (show decode (mB 72) 60 = .ok (.iconst 0, 1) by decide +kernel) (by decide) ?_
  refine C_put0 (ix := 36) (ci := 9) (k := 5) F hin hS hW (by decide) rfl rfl (by decide +kernel) (fun H1 locs1 hS hW => ?_)
  refine lv_aload_n hx hb (show decode (mB 72) 64 = .ok (.aload_n 0, 1) by decide +kernel) rfl (lv_at hl 0 rfl) ?_
  refine lv_iconst (v := 0) hx hb (show decode (mB 72) 65 = .ok (.iconst 0, 1) by decide +kernel) (by decide) ?_
  refine C_put0 (ix := 40) (ci := 9) (k := 6) F hin hS hW (by decide) rfl rfl (by decide +kernel) (fun H1 locs1 hS hW => ?_)
  refine lv_aload_n hx hb (show decode (mB 72) 69 = .ok (.aload_n 0, 1) by decide +kernel) rfl (lv_at hl 0 rfl) ?_
  refine lv_iconst (v := 0) hx hb (show decode (mB 72) 70 = .ok (.iconst 0, 1) by decide +kernel) (by decide) ?_
  refine C_put0 (ix := 43) (ci := 9) (k := 7) F hin hS hW (by decide) rfl rfl (by decide +kernel) (fun H1 locs1 hS hW => ?_)
  refine lv_aload_n hx hb (show decode (mB 72) 74 = .ok (.aload_n 0, 1) by decide +kernel) rfl (lv_at hl 0 rfl) ?_
  have hzn := hW.2.2.2
  refine C_new (ci := 8) (i1 := 2015) (i2 := 2016) (i3 := 1006) F hS hW rfl (by decide) (by decide +kernel) (show decode (mB 72) 75 = .ok (.new 46, 3) by decide +kernel) (Nat.le_of_ble_eq_true rfl) (Nat.le_of_ble_eq_true rfl) (fun H1 hS hW => ?_)
  refine lv_dup hx hb (show decode (mB 72) 78 = .ok (.dup, 1) by decide +kernel) rfl ?_
  refine C_init (d := 1) (mk := 56) (a := 62) (as := []) (mc := 8) (ms := 144) (i0 := 0) (i1 := 2018) (i2 := 1006) (n := 0) F hK hS hW (by decide) (by decide +kernel) (by decide +kernel) (by decide +kernel) (Or.inr (by decide +kernel)) (by decide +kernel) rfl (show decode (mB 72) 79 = .ok (.invokespecial 48, 3) by decide +kernel) hl.1 (Nat.le_of_ble_eq_true rfl) ⟨by decide, by decide⟩ ⟨(Nat.le_of_ble_eq_true rfl), (Nat.le_of_ble_eq_true rfl)⟩ (k_Yard (a := 62) (by decide +kernel) (fun k => hzn _ k (Nat.le_refl _))) (fun H1 locs1 hS hW => ?_)
  refine C_putR (ix := 49) (ci := 9) (k := 8) (b := 62) F hin hS hW (by decide) rfl (by decide +kernel) (fun H1 locs1 hS hW => ?_)
  have hW : Wc D CA B dR4 zG 71 H1 := hW
  refine lv_aload_n hx hb (show decode (mB 72) 85 = .ok (.aload_n 0, 1) by decide +kernel) rfl (lv_at hl 0 rfl) ?_
  refine lv_bipush (v := nI 16) hx hb (show decode (mB 72) 86 = .ok (.bipush 16, 2) by decide +kernel) (by decide) ?_
  refine C_anew (t := 6) (n := 16) (i1 := 2015) (C := "DayPort$Yard") F hK hS hW rfl rfl hK.1.2.2.1 (by decide +kernel) (show decode (mB 72) 88 = .ok (.anewarray 46, 3) by decide +kernel) (by decide) (Nat.le_of_ble_eq_true rfl) (Nat.le_of_ble_eq_true rfl) (fun H1 hS hW => ?_)
  refine C_putR (ix := 53) (ci := 9) (k := 9) (b := 71) F hin hS hW (by decide) rfl (by decide +kernel) (fun H1 locs1 hS hW => ?_)
  refine lv_aload_n hx hb (show decode (mB 72) 94 = .ok (.aload_n 0, 1) by decide +kernel) rfl (lv_at hl 0 rfl) ?_
  refine lv_iconst (v := 0) hx hb (show decode (mB 72) 95 = .ok (.iconst 0, 1) by decide +kernel) (by decide) ?_
  refine C_put0 (ix := 57) (ci := 9) (k := 10) F hin hS hW (by decide) rfl rfl (by decide +kernel) (fun H1 locs1 hS hW => ?_)
  refine lv_aload_n hx hb (show decode (mB 72) 99 = .ok (.aload_n 0, 1) by decide +kernel) rfl (lv_at hl 0 rfl) ?_
  refine lv_iconst (v := nI 3) hx hb (show decode (mB 72) 100 = .ok (.iconst 3, 1) by decide +kernel) (by decide) ?_
  refine C_anew (t := 6) (n := 3) (i1 := 2015) (C := "DayPort$Yard") F hK hS hW rfl rfl hK.1.2.2.1 (by decide +kernel) (show decode (mB 72) 101 = .ok (.anewarray 46, 3) by decide +kernel) (by decide) (Nat.le_of_ble_eq_true rfl) (Nat.le_of_ble_eq_true rfl) (fun H1 hS hW => ?_)
  refine C_putR (ix := 60) (ci := 9) (k := 11) (b := 72) F hin hS hW (by decide) rfl (by decide +kernel) (fun H1 locs1 hS hW => ?_)
  refine lv_aload_n hx hb (show decode (mB 72) 107 = .ok (.aload_n 0, 1) by decide +kernel) rfl (lv_at hl 0 rfl) ?_
  refine lv_iconst (v := 0) hx hb (show decode (mB 72) 108 = .ok (.iconst 0, 1) by decide +kernel) (by decide) ?_
  refine C_put0 (ix := 63) (ci := 9) (k := 12) F hin hS hW (by decide) rfl rfl (by decide +kernel) (fun H1 locs1 hS hW => ?_)
  refine lv_aload_n hx hb (show decode (mB 72) 112 = .ok (.aload_n 0, 1) by decide +kernel) rfl (lv_at hl 0 rfl) ?_
  have hzn := hW.2.2.2
  refine C_new (ci := 3) (i1 := 2066) (i2 := 2067) (i3 := 1007) F hS hW rfl (by decide) (by decide +kernel) (show decode (mB 72) 113 = .ok (.new 66, 3) by decide +kernel) (Nat.le_of_ble_eq_true rfl) (Nat.le_of_ble_eq_true rfl) (fun H1 hS hW => ?_)
  refine lv_dup hx hb (show decode (mB 72) 116 = .ok (.dup, 1) by decide +kernel) rfl ?_
  refine C_init (d := 1) (mk := 14) (a := 73) (as := []) (mc := 5) (ms := 58) (i0 := 0) (i1 := 2069) (i2 := 1007) (n := 0) F hK hS hW (by decide) (by decide +kernel) (by decide +kernel) (by decide +kernel) (Or.inr (by decide +kernel)) (by decide +kernel) rfl (show decode (mB 72) 117 = .ok (.invokespecial 68, 3) by decide +kernel) hl.1 (Nat.le_of_ble_eq_true rfl) ⟨by decide, by decide⟩ ⟨(Nat.le_of_ble_eq_true rfl), (Nat.le_of_ble_eq_true rfl)⟩ (k_Outing (a := 73) (by decide +kernel) (fun k => hzn _ k (Nat.le_refl _))) (fun H1 locs1 hS hW => ?_)
  refine C_putR (ix := 69) (ci := 9) (k := 13) (b := 73) F hin hS hW (by decide) rfl (by decide +kernel) (fun H1 locs1 hS hW => ?_)
  have hW : Wc D CA B dR5 zG 79 H1 := hW
  refine lv_aload_n hx hb (show decode (mB 72) 123 = .ok (.aload_n 0, 1) by decide +kernel) rfl (lv_at hl 0 rfl) ?_
  have hzn := hW.2.2.2
  refine C_new (ci := 2) (i1 := 2108) (i2 := 2109) (i3 := 1008) F hS hW rfl (by decide) (by decide +kernel) (show decode (mB 72) 124 = .ok (.new 73, 3) by decide +kernel) (Nat.le_of_ble_eq_true rfl) (Nat.le_of_ble_eq_true rfl) (fun H1 hS hW => ?_)
  refine lv_dup hx hb (show decode (mB 72) 127 = .ok (.dup, 1) by decide +kernel) rfl ?_
  refine C_init (d := 1) (mk := 8) (a := 79) (as := []) (mc := 1) (ms := 451) (i0 := 0) (i1 := 2111) (i2 := 1008) (n := 0) F hK hS hW (by decide) (by decide +kernel) (by decide +kernel) (by decide +kernel) (Or.inr (by decide +kernel)) (by decide +kernel) rfl (show decode (mB 72) 128 = .ok (.invokespecial 75, 3) by decide +kernel) hl.1 (Nat.le_of_ble_eq_true rfl) ⟨by decide, by decide⟩ ⟨(Nat.le_of_ble_eq_true rfl), (Nat.le_of_ble_eq_true rfl)⟩ (k_Night (a := 79) (by decide +kernel) (fun k => hzn _ k (Nat.le_refl _))) (fun H1 locs1 hS hW => ?_)
  refine C_putR (ix := 76) (ci := 9) (k := 14) (b := 79) F hin hS hW (by decide) rfl (by decide +kernel) (fun H1 locs1 hS hW => ?_)
  have hW : Wc D CA B dR6 (uI (uI zG 79 1 (-2)) 79 2 (-2)) 81 H1 := hW
  refine lv_aload_n hx hb (show decode (mB 72) 134 = .ok (.aload_n 0, 1) by decide +kernel) rfl (lv_at hl 0 rfl) ?_
  have hzn := hW.2.2.2
  refine C_new (ci := 1) (i1 := 2133) (i2 := 2134) (i3 := 1009) F hS hW rfl (by decide) (by decide +kernel) (show decode (mB 72) 135 = .ok (.new 80, 3) by decide +kernel) (Nat.le_of_ble_eq_true rfl) (Nat.le_of_ble_eq_true rfl) (fun H1 hS hW => ?_)
  refine lv_dup hx hb (show decode (mB 72) 138 = .ok (.dup, 1) by decide +kernel) rfl ?_
  refine C_init (d := 1) (mk := 2) (a := 81) (as := []) (mc := 6) (ms := 30) (i0 := 0) (i1 := 2136) (i2 := 1009) (n := 0) F hK hS hW (by decide) (by decide +kernel) (by decide +kernel) (by decide +kernel) (Or.inr (by decide +kernel)) (by decide +kernel) rfl (show decode (mB 72) 139 = .ok (.invokespecial 82, 3) by decide +kernel) hl.1 (Nat.le_of_ble_eq_true rfl) ⟨by decide, by decide⟩ ⟨(Nat.le_of_ble_eq_true rfl), (Nat.le_of_ble_eq_true rfl)⟩ (k_Inland (a := 81) (by decide +kernel) (fun k => hzn _ k (Nat.le_refl _))) (fun H1 locs1 hS hW => ?_)
  refine C_putR (ix := 83) (ci := 9) (k := 15) (b := 81) F hin hS hW (by decide) rfl (by decide +kernel) (fun H1 locs1 hS hW => ?_)
  have hW : Wc D CA B dR7 (uI (uI zG 79 1 (-2)) 79 2 (-2)) 88 H1 := hW
  refine lv_aload_n hx hb (show decode (mB 72) 145 = .ok (.aload_n 0, 1) by decide +kernel) rfl (lv_at hl 0 rfl) ?_
  have hzn := hW.2.2.2
  refine C_new (ci := 7) (i1 := 2144) (i2 := 2145) (i3 := 1010) F hS hW rfl (by decide) (by decide +kernel) (show decode (mB 72) 146 = .ok (.new 87, 3) by decide +kernel) (Nat.le_of_ble_eq_true rfl) (Nat.le_of_ble_eq_true rfl) (fun H1 hS hW => ?_)
  refine lv_dup hx hb (show decode (mB 72) 149 = .ok (.dup, 1) by decide +kernel) rfl ?_
  refine C_init (d := 1) (mk := 52) (a := 88) (as := []) (mc := 3) (ms := 120) (i0 := 0) (i1 := 2147) (i2 := 1010) (n := 0) F hK hS hW (by decide) (by decide +kernel) (by decide +kernel) (by decide +kernel) (Or.inr (by decide +kernel)) (by decide +kernel) rfl (show decode (mB 72) 150 = .ok (.invokespecial 89, 3) by decide +kernel) hl.1 (Nat.le_of_ble_eq_true rfl) ⟨by decide, by decide⟩ ⟨(Nat.le_of_ble_eq_true rfl), (Nat.le_of_ble_eq_true rfl)⟩ (k_Strike (a := 88) (by decide +kernel) (fun k => hzn _ k (Nat.le_refl _))) (fun H1 locs1 hS hW => ?_)
  refine C_putR (ix := 90) (ci := 9) (k := 16) (b := 88) F hin hS hW (by decide) rfl (by decide +kernel) (fun H1 locs1 hS hW => ?_)
  have hW : Wc D CA B dR8 (uI (uI zG 79 1 (-2)) 79 2 (-2)) 92 H1 := hW
  have hW : Wc D CA B dR8 dG 92 H1 := hW
  refine lv_iconst (v := nI 0) hx hb (show decode (mB 72) 156 = .ok (.iconst 0, 1) by decide +kernel) (by decide) ?_
  refine lv_istore_n (lv' := [(1, .int (nI 0)), (0, .ref (B + 0))]) hx hb (show decode (mB 72) 157 = .ok (.istore_n 1, 1) by decide +kernel) rfl hl (by decide) rfl (fun ls hl => ?_)
  exact loopK 16 0 rfl _ _ ls hS hW (lv_sub hl [1, 0] rfl)
