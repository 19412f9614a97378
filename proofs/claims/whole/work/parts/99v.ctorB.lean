/-! the other constructors (written by a program out of the listing, the loops by hand) -/
def readR (a t q : Nat) (r : Rr) : Rr := uR (uR (uR (uR (uR r a 12 (some (a + 1))) a 13 (some (a + 2))) a 14 (some (a + 3))) a 0 (some t)) a 2 (some q)
def shReader : List KD := [.inl 5, .inr (3, 23), .inr (0, 23), .inr (0, 23)]
set_option maxRecDepth 100000 in
set_option maxHeartbeats 4000000 in
theorem k_Reader {a t q : Nat} {r : Rr} {g : Gi} (hs : ∀ i, i < 4 → SH (a + i) = shReader[i]?) (hz : ∀ k, r a k = none ∧ g a k = 0) : CmC 1 27 [.ref a, .ref t, .ref q] 3 69 (a + 1) (a + 4) r (readR a t q r) g g := by
  refine CmC.of (by decide) (by decide +kernel) (by decide +kernel) (Nat.le_of_ble_eq_true rfl) ?_
  intro p l e s m args below meth c D CA B sa sv ls F hK hin hret hlocks hW hl
  have hx := F.1
  have hb := F.2.1
  have hS : va_S (AB B) s.heap s.heap [] := va_S.rf
  have hl : lv_has ls 3 [(0, .ref (B + a)), (1, .ref (B + t)), (2, .ref (B + q))] := hl
  have hsa : SH a = some (.inl 5) := hs 0 (by decide)
  refine lv_aload_n hx hb (show decode (mB 27) 0 = .ok (.aload_n 0, 1) by decide +kernel) rfl (lv_at hl 0 rfl) ?_
  refine C_obj (i1 := 1196) F hl.1 (by decide +kernel) (show decode (mB 27) 1 = .ok (.invokespecial 3, 3) by decide +kernel) (Nat.le_of_ble_eq_true rfl) (Nat.le_of_ble_eq_true rfl) ?_
  refine lv_aload_n hx hb (show decode (mB 27) 4 = .ok (.aload_n 0, 1) by decide +kernel) rfl (lv_at hl 0 rfl) ?_
  refine lv_iconst (v := 0) hx hb (show decode (mB 27) 5 = .ok (.iconst 0, 1) by decide +kernel) (by decide) ?_
  refine C_put0 (ix := 9) (ci := 5) (k := 1) F hin hS hW (by omega) hsa (hz 1).2 (by decide +kernel) (fun H1 locs1 hS hW => ?_)
  refine lv_aload_n hx hb (show decode (mB 27) 9 = .ok (.aload_n 0, 1) by decide +kernel) rfl (lv_at hl 0 rfl) ?_
  refine lv_iconst (v := 0) hx hb (show decode (mB 27) 10 = .ok (.iconst 0, 1) by decide +kernel) (by decide) ?_
  refine C_put0 (ix := 15) (ci := 5) (k := 3) F hin hS hW (by omega) hsa (hz 3).2 (by decide +kernel) (fun H1 locs1 hS hW => ?_)
  refine lv_aload_n hx hb (show decode (mB 27) 14 = .ok (.aload_n 0, 1) by decide +kernel) rfl (lv_at hl 0 rfl) ?_
  refine lv_iconst (v := 0) hx hb (show decode (mB 27) 15 = .ok (.iconst 0, 1) by decide +kernel) (by decide) ?_
  refine C_put0 (ix := 19) (ci := 5) (k := 4) F hin hS hW (by omega) hsa (hz 4).2 (by decide +kernel) (fun H1 locs1 hS hW => ?_)
  refine lv_aload_n hx hb (show decode (mB 27) 19 = .ok (.aload_n 0, 1) by decide +kernel) rfl (lv_at hl 0 rfl) ?_
  refine lv_iconst (v := 0) hx hb (show decode (mB 27) 20 = .ok (.iconst 0, 1) by decide +kernel) (by decide) ?_
  refine C_put0 (ix := 22) (ci := 5) (k := 5) F hin hS hW (by omega) hsa (hz 5).2 (by decide +kernel) (fun H1 locs1 hS hW => ?_)
  refine lv_aload_n hx hb (show decode (mB 27) 24 = .ok (.aload_n 0, 1) by decide +kernel) rfl (lv_at hl 0 rfl) ?_
  refine lv_iconst (v := 0) hx hb (show decode (mB 27) 25 = .ok (.iconst 0, 1) by decide +kernel) (by decide) ?_
  refine C_put0 (ix := 25) (ci := 5) (k := 6) F hin hS hW (by omega) hsa (hz 6).2 (by decide +kernel) (fun H1 locs1 hS hW => ?_)
  refine lv_aload_n hx hb (show decode (mB 27) 29 = .ok (.aload_n 0, 1) by decide +kernel) rfl (lv_at hl 0 rfl) ?_
  refine lv_lconst (v := 0) hx hb (show decode (mB 27) 30 = .ok (.lconst 0, 1) by decide +kernel) (by decide) ?_
  refine C_putL (ix := 28) (ci := 5) (k := 7) F hin hS hW (by omega) hsa (by decide +kernel) (fun H1 locs1 hS hW => ?_)
  refine lv_aload_n hx hb (show decode (mB 27) 34 = .ok (.aload_n 0, 1) by decide +kernel) rfl (lv_at hl 0 rfl) ?_
  refine lv_iconst (v := 0) hx hb (show decode (mB 27) 35 = .ok (.iconst 0, 1) by decide +kernel) (by decide) ?_
  refine C_put0 (ix := 32) (ci := 5) (k := 8) F hin hS hW (by omega) hsa (hz 8).2 (by decide +kernel) (fun H1 locs1 hS hW => ?_)
  refine lv_aload_n hx hb (show decode (mB 27) 39 = .ok (.aload_n 0, 1) by decide +kernel) rfl (lv_at hl 0 rfl) ?_
  refine lv_iconst (v := 0) hx hb (show decode (mB 27) 40 = .ok (.iconst 0, 1) by decide +kernel) (by decide) ?_
  refine C_put0 (ix := 35) (ci := 5) (k := 9) F hin hS hW (by omega) hsa (hz 9).2 (by decide +kernel) (fun H1 locs1 hS hW => ?_)
  refine lv_aload_n hx hb (show decode (mB 27) 44 = .ok (.aload_n 0, 1) by decide +kernel) rfl (lv_at hl 0 rfl) ?_
  refine lv_iconst (v := 0) hx hb (show decode (mB 27) 45 = .ok (.iconst 0, 1) by decide +kernel) (by decide) ?_
  refine C_put0 (ix := 38) (ci := 5) (k := 10) F hin hS hW (by omega) hsa (hz 10).2 (by decide +kernel) (fun H1 locs1 hS hW => ?_)
  refine lv_aload_n hx hb (show decode (mB 27) 49 = .ok (.aload_n 0, 1) by decide +kernel) rfl (lv_at hl 0 rfl) ?_
  refine lv_iconst (v := 0) hx hb (show decode (mB 27) 50 = .ok (.iconst 0, 1) by decide +kernel) (by decide) ?_
  refine C_put0 (ix := 41) (ci := 5) (k := 11) F hin hS hW (by omega) hsa (hz 11).2 (by decide +kernel) (fun H1 locs1 hS hW => ?_)
  refine lv_aload_n hx hb (show decode (mB 27) 54 = .ok (.aload_n 0, 1) by decide +kernel) rfl (lv_at hl 0 rfl) ?_
  refine lv_bipush (v := nI 23) hx hb (show decode (mB 27) 55 = .ok (.bipush 23, 2) by decide +kernel) (by decide) ?_
  refine C_newa (t := 3) (n := 23) (i1 := 2014) F hK hS hW (hs 1 (by decide)) rfl (by decide +kernel) (show decode (mB 27) 57 = .ok (.newarray .long, 2) by decide +kernel) (by decide) (Nat.le_of_ble_eq_true rfl) (Nat.le_of_ble_eq_true rfl) (fun H1 hS hW => ?_)
  refine C_putR (ix := 44) (ci := 5) (k := 12) F hin hS hW (by omega) hsa (by decide +kernel) (fun H1 locs1 hS hW => ?_)
  refine lv_aload_n hx hb (show decode (mB 27) 62 = .ok (.aload_n 0, 1) by decide +kernel) rfl (lv_at hl 0 rfl) ?_
  refine lv_bipush (v := nI 23) hx hb (show decode (mB 27) 63 = .ok (.bipush 23, 2) by decide +kernel) (by decide) ?_
  refine C_newa (t := 0) (n := 23) (i1 := 1074) F hK hS hW (hs 2 (by decide)) rfl (by decide +kernel) (show decode (mB 27) 65 = .ok (.newarray .int, 2) by decide +kernel) (by decide) (Nat.le_of_ble_eq_true rfl) (Nat.le_of_ble_eq_true rfl) (fun H1 hS hW => ?_)
  refine C_putR (ix := 48) (ci := 5) (k := 13) F hin hS hW (by omega) hsa (by decide +kernel) (fun H1 locs1 hS hW => ?_)
  refine lv_aload_n hx hb (show decode (mB 27) 70 = .ok (.aload_n 0, 1) by decide +kernel) rfl (lv_at hl 0 rfl) ?_
  refine lv_bipush (v := nI 23) hx hb (show decode (mB 27) 71 = .ok (.bipush 23, 2) by decide +kernel) (by decide) ?_
  refine C_newa (t := 0) (n := 23) (i1 := 1074) F hK hS hW (hs 3 (by decide)) rfl (by decide +kernel) (show decode (mB 27) 73 = .ok (.newarray .int, 2) by decide +kernel) (by decide) (Nat.le_of_ble_eq_true rfl) (Nat.le_of_ble_eq_true rfl) (fun H1 hS hW => ?_)
  refine C_putR (ix := 52) (ci := 5) (k := 14) F hin hS hW (by omega) hsa (by decide +kernel) (fun H1 locs1 hS hW => ?_)
  refine lv_aload_n hx hb (show decode (mB 27) 78 = .ok (.aload_n 0, 1) by decide +kernel) rfl (lv_at hl 0 rfl) ?_
  refine lv_iconst (v := 0) hx hb (show decode (mB 27) 79 = .ok (.iconst 0, 1) by decide +kernel) (by decide) ?_
  refine C_put0 (ix := 55) (ci := 5) (k := 15) F hin hS hW (by omega) hsa (hz 15).2 (by decide +kernel) (fun H1 locs1 hS hW => ?_)
  refine lv_aload_n hx hb (show decode (mB 27) 83 = .ok (.aload_n 0, 1) by decide +kernel) rfl (lv_at hl 0 rfl) ?_
  refine lv_iconst (v := 0) hx hb (show decode (mB 27) 84 = .ok (.iconst 0, 1) by decide +kernel) (by decide) ?_
  refine C_put0 (ix := 58) (ci := 5) (k := 16) F hin hS hW (by omega) hsa (hz 16).2 (by decide +kernel) (fun H1 locs1 hS hW => ?_)
  refine lv_aload_n hx hb (show decode (mB 27) 88 = .ok (.aload_n 0, 1) by decide +kernel) rfl (lv_at hl 0 rfl) ?_
  refine lv_iconst (v := 0) hx hb (show decode (mB 27) 89 = .ok (.iconst 0, 1) by decide +kernel) (by decide) ?_
  refine C_put0 (ix := 61) (ci := 5) (k := 17) F hin hS hW (by omega) hsa (hz 17).2 (by decide +kernel) (fun H1 locs1 hS hW => ?_)
  refine lv_aload_n hx hb (show decode (mB 27) 93 = .ok (.aload_n 0, 1) by decide +kernel) rfl (lv_at hl 0 rfl) ?_
  refine lv_aload_n hx hb (show decode (mB 27) 94 = .ok (.aload_n 1, 1) by decide +kernel) rfl (lv_at hl 1 rfl) ?_
  refine C_putR (ix := 64) (ci := 5) (k := 0) F hin hS hW (by omega) hsa (by decide +kernel) (fun H1 locs1 hS hW => ?_)
  refine lv_aload_n hx hb (show decode (mB 27) 98 = .ok (.aload_n 0, 1) by decide +kernel) rfl (lv_at hl 0 rfl) ?_
  refine lv_aload_n hx hb (show decode (mB 27) 99 = .ok (.aload_n 2, 1) by decide +kernel) rfl (lv_at hl 2 rfl) ?_
  refine C_putR (ix := 68) (ci := 5) (k := 2) F hin hS hW (by omega) hsa (by decide +kernel) (fun H1 locs1 hS hW => ?_)
  exact W.vret hx hb hret (fun t ht _ => ⟨rfl, by rw [ht]; exact hW, hS.F ht⟩) hS.2.2 (show decode (mB 27) 103 = .ok (.return_, 1) by decide +kernel) hlocks
def modR (a : Nat) (r : Rr) : Rr := uR (uR (uR (uR (uR (uR (uR (uR (uR (uR (uR (uR (uR r a 1 (some (a + 1))) a 12 (some (a + 2))) a 15 (some (a + 3))) a 16 (some (a + 4))) a 17 (some (a + 5))) a 18 (some (a + 6))) a 19 (some (a + 7))) a 22 (some (a + 8))) a 23 (some (a + 9))) a 24 (some (a + 10))) a 25 (some (a + 11))) a 29 (some (a + 12))) a 31 (some (a + 13))
def shModel : List KD := [.inl 10, .inr (0, 1000), .inr (0, 8), .inr (0, 348), .inr (0, 348), .inr (0, 246), .inr (0, 3936), .inr (0, 738), .inr (3, 8192), .inr (0, 8192), .inr (0, 3200), .inr (0, 5), .inr (0, 15), .inr (0, 5)]
set_option maxRecDepth 100000 in
set_option maxHeartbeats 4000000 in
theorem k_Model {a : Nat} {r : Rr} {g : Gi} (hs : ∀ i, i < 14 → SH (a + i) = shModel[i]?) (hz : ∀ k, r a k = none ∧ g a k = 0) : CmC 1 139 [.ref a] 13 26233 (a + 1) (a + 14) r (modR a r) g (uI g a 10 (-1)) := by
  refine CmC.of (by decide) (by decide +kernel) (by decide +kernel) (Nat.le_of_ble_eq_true rfl) ?_
  intro p l e s m args below meth c D CA B sa sv ls F hK hin hret hlocks hW hl
  have hx := F.1
  have hb := F.2.1
  have hS : va_S (AB B) s.heap s.heap [] := va_S.rf
  have hl : lv_has ls 1 [(0, .ref (B + a))] := hl
  have hsa : SH a = some (.inl 10) := hs 0 (by decide)
  refine lv_aload_n hx hb (show decode (mB 139) 0 = .ok (.aload_n 0, 1) by decide +kernel) rfl (lv_at hl 0 rfl) ?_
  refine C_obj (i1 := 5183) F hl.1 (by decide +kernel) (show decode (mB 139) 1 = .ok (.invokespecial 1, 3) by decide +kernel) (Nat.le_of_ble_eq_true rfl) (Nat.le_of_ble_eq_true rfl) ?_
  refine lv_aload_n hx hb (show decode (mB 139) 4 = .ok (.aload_n 0, 1) by decide +kernel) rfl (lv_at hl 0 rfl) ?_
  refine lv_sipush (v := nI 1000) hx hb (show decode (mB 139) 5 = .ok (.sipush 1000, 3) by decide +kernel) (by decide) ?_
  refine C_newa (t := 0) (n := 1000) (i1 := 1074) F hK hS hW (hs 1 (by decide)) rfl (by decide +kernel) (show decode (mB 139) 8 = .ok (.newarray .int, 2) by decide +kernel) (by decide) (Nat.le_of_ble_eq_true rfl) (Nat.le_of_ble_eq_true rfl) (fun H1 hS hW => ?_)
  refine C_putR (ix := 7) (ci := 10) (k := 1) F hin hS hW (by omega) hsa (by decide +kernel) (fun H1 locs1 hS hW => ?_)
  refine lv_aload_n hx hb (show decode (mB 139) 13 = .ok (.aload_n 0, 1) by decide +kernel) rfl (lv_at hl 0 rfl) ?_
  refine lv_iconst (v := -1) hx hb (show decode (mB 139) 14 = .ok (.iconst (-1), 1) by decide +kernel) (by decide) ?_
  refine C_putI (ix := 13) (ci := 10) (k := 10) F hin hS hW (by omega) hsa (by decide +kernel) (Or.inl rfl) (fun H1 locs1 hS hW => ?_)
  refine lv_aload_n hx hb (show decode (mB 139) 18 = .ok (.aload_n 0, 1) by decide +kernel) rfl (lv_at hl 0 rfl) ?_
  refine lv_bipush (v := nI 8) hx hb (show decode (mB 139) 19 = .ok (.bipush 8, 2) by decide +kernel) (by decide) ?_
  refine C_newa (t := 0) (n := 8) (i1 := 1074) F hK hS hW (hs 2 (by decide)) rfl (by decide +kernel) (show decode (mB 139) 21 = .ok (.newarray .int, 2) by decide +kernel) (by decide) (Nat.le_of_ble_eq_true rfl) (Nat.le_of_ble_eq_true rfl) (fun H1 hS hW => ?_)
  refine C_putR (ix := 17) (ci := 10) (k := 12) F hin hS hW (by omega) hsa (by decide +kernel) (fun H1 locs1 hS hW => ?_)
  refine lv_aload_n hx hb (show decode (mB 139) 26 = .ok (.aload_n 0, 1) by decide +kernel) rfl (lv_at hl 0 rfl) ?_
  refine lv_sipush (v := nI 348) hx hb (show decode (mB 139) 27 = .ok (.sipush 348, 3) by decide +kernel) (by decide) ?_
  refine C_newa (t := 0) (n := 348) (i1 := 1074) F hK hS hW (hs 3 (by decide)) rfl (by decide +kernel) (show decode (mB 139) 30 = .ok (.newarray .int, 2) by decide +kernel) (by decide) (Nat.le_of_ble_eq_true rfl) (Nat.le_of_ble_eq_true rfl) (fun H1 hS hW => ?_)
  refine C_putR (ix := 20) (ci := 10) (k := 15) F hin hS hW (by omega) hsa (by decide +kernel) (fun H1 locs1 hS hW => ?_)
  refine lv_aload_n hx hb (show decode (mB 139) 35 = .ok (.aload_n 0, 1) by decide +kernel) rfl (lv_at hl 0 rfl) ?_
  refine lv_sipush (v := nI 348) hx hb (show decode (mB 139) 36 = .ok (.sipush 348, 3) by decide +kernel) (by decide) ?_
  refine C_newa (t := 0) (n := 348) (i1 := 1074) F hK hS hW (hs 4 (by decide)) rfl (by decide +kernel) (show decode (mB 139) 39 = .ok (.newarray .int, 2) by decide +kernel) (by decide) (Nat.le_of_ble_eq_true rfl) (Nat.le_of_ble_eq_true rfl) (fun H1 hS hW => ?_)
  refine C_putR (ix := 23) (ci := 10) (k := 16) F hin hS hW (by omega) hsa (by decide +kernel) (fun H1 locs1 hS hW => ?_)
  refine lv_aload_n hx hb (show decode (mB 139) 44 = .ok (.aload_n 0, 1) by decide +kernel) rfl (lv_at hl 0 rfl) ?_
  refine lv_sipush (v := nI 246) hx hb (show decode (mB 139) 45 = .ok (.sipush 246, 3) by decide +kernel) (by decide) ?_
  refine C_newa (t := 0) (n := 246) (i1 := 1074) F hK hS hW (hs 5 (by decide)) rfl (by decide +kernel) (show decode (mB 139) 48 = .ok (.newarray .int, 2) by decide +kernel) (by decide) (Nat.le_of_ble_eq_true rfl) (Nat.le_of_ble_eq_true rfl) (fun H1 hS hW => ?_)
  refine C_putR (ix := 26) (ci := 10) (k := 17) F hin hS hW (by omega) hsa (by decide +kernel) (fun H1 locs1 hS hW => ?_)
  refine lv_aload_n hx hb (show decode (mB 139) 53 = .ok (.aload_n 0, 1) by decide +kernel) rfl (lv_at hl 0 rfl) ?_
  refine lv_sipush (v := nI 3936) hx hb (show decode (mB 139) 54 = .ok (.sipush 3936, 3) by decide +kernel) (by decide) ?_
  refine C_newa (t := 0) (n := 3936) (i1 := 1074) F hK hS hW (hs 6 (by decide)) rfl (by decide +kernel) (show decode (mB 139) 57 = .ok (.newarray .int, 2) by decide +kernel) (by decide) (Nat.le_of_ble_eq_true rfl) (Nat.le_of_ble_eq_true rfl) (fun H1 hS hW => ?_)
  refine C_putR (ix := 29) (ci := 10) (k := 18) F hin hS hW (by omega) hsa (by decide +kernel) (fun H1 locs1 hS hW => ?_)
  refine lv_aload_n hx hb (show decode (mB 139) 62 = .ok (.aload_n 0, 1) by decide +kernel) rfl (lv_at hl 0 rfl) ?_
  refine lv_sipush (v := nI 738) hx hb (show decode (mB 139) 63 = .ok (.sipush 738, 3) by decide +kernel) (by decide) ?_
  refine C_newa (t := 0) (n := 738) (i1 := 1074) F hK hS hW (hs 7 (by decide)) rfl (by decide +kernel) (show decode (mB 139) 66 = .ok (.newarray .int, 2) by decide +kernel) (by decide) (Nat.le_of_ble_eq_true rfl) (Nat.le_of_ble_eq_true rfl) (fun H1 hS hW => ?_)
  refine C_putR (ix := 32) (ci := 10) (k := 19) F hin hS hW (by omega) hsa (by decide +kernel) (fun H1 locs1 hS hW => ?_)
  refine lv_aload_n hx hb (show decode (mB 139) 71 = .ok (.aload_n 0, 1) by decide +kernel) rfl (lv_at hl 0 rfl) ?_
  refine lv_sipush (v := nI 8192) hx hb (show decode (mB 139) 72 = .ok (.sipush 8192, 3) by decide +kernel) (by decide) ?_
  refine C_newa (t := 3) (n := 8192) (i1 := 2014) F hK hS hW (hs 8 (by decide)) rfl (by decide +kernel) (show decode (mB 139) 75 = .ok (.newarray .long, 2) by decide +kernel) (by decide) (Nat.le_of_ble_eq_true rfl) (Nat.le_of_ble_eq_true rfl) (fun H1 hS hW => ?_)
  refine C_putR (ix := 35) (ci := 10) (k := 22) F hin hS hW (by omega) hsa (by decide +kernel) (fun H1 locs1 hS hW => ?_)
  refine lv_aload_n hx hb (show decode (mB 139) 80 = .ok (.aload_n 0, 1) by decide +kernel) rfl (lv_at hl 0 rfl) ?_
  refine lv_sipush (v := nI 8192) hx hb (show decode (mB 139) 81 = .ok (.sipush 8192, 3) by decide +kernel) (by decide) ?_
  refine C_newa (t := 0) (n := 8192) (i1 := 1074) F hK hS hW (hs 9 (by decide)) rfl (by decide +kernel) (show decode (mB 139) 84 = .ok (.newarray .int, 2) by decide +kernel) (by decide) (Nat.le_of_ble_eq_true rfl) (Nat.le_of_ble_eq_true rfl) (fun H1 hS hW => ?_)
  refine C_putR (ix := 39) (ci := 10) (k := 23) F hin hS hW (by omega) hsa (by decide +kernel) (fun H1 locs1 hS hW => ?_)
  refine lv_aload_n hx hb (show decode (mB 139) 89 = .ok (.aload_n 0, 1) by decide +kernel) rfl (lv_at hl 0 rfl) ?_
  refine lv_sipush (v := nI 3200) hx hb (show decode (mB 139) 90 = .ok (.sipush 3200, 3) by decide +kernel) (by decide) ?_
  refine C_newa (t := 0) (n := 3200) (i1 := 1074) F hK hS hW (hs 10 (by decide)) rfl (by decide +kernel) (show decode (mB 139) 93 = .ok (.newarray .int, 2) by decide +kernel) (by decide) (Nat.le_of_ble_eq_true rfl) (Nat.le_of_ble_eq_true rfl) (fun H1 hS hW => ?_)
  refine C_putR (ix := 42) (ci := 10) (k := 24) F hin hS hW (by omega) hsa (by decide +kernel) (fun H1 locs1 hS hW => ?_)
  refine lv_aload_n hx hb (show decode (mB 139) 98 = .ok (.aload_n 0, 1) by decide +kernel) rfl (lv_at hl 0 rfl) ?_
  refine lv_iconst (v := nI 5) hx hb (show decode (mB 139) 99 = .ok (.iconst 5, 1) by decide +kernel) (by decide) ?_
  refine C_newa (t := 0) (n := 5) (i1 := 1074) F hK hS hW (hs 11 (by decide)) rfl (by decide +kernel) (show decode (mB 139) 100 = .ok (.newarray .int, 2) by decide +kernel) (by decide) (Nat.le_of_ble_eq_true rfl) (Nat.le_of_ble_eq_true rfl) (fun H1 hS hW => ?_)
  refine C_putR (ix := 45) (ci := 10) (k := 25) F hin hS hW (by omega) hsa (by decide +kernel) (fun H1 locs1 hS hW => ?_)
  refine lv_aload_n hx hb (show decode (mB 139) 105 = .ok (.aload_n 0, 1) by decide +kernel) rfl (lv_at hl 0 rfl) ?_
  refine lv_bipush (v := nI 15) hx hb (show decode (mB 139) 106 = .ok (.bipush 15, 2) by decide +kernel) (by decide) ?_
  refine C_newa (t := 0) (n := 15) (i1 := 1074) F hK hS hW (hs 12 (by decide)) rfl (by decide +kernel) (show decode (mB 139) 108 = .ok (.newarray .int, 2) by decide +kernel) (by decide) (Nat.le_of_ble_eq_true rfl) (Nat.le_of_ble_eq_true rfl) (fun H1 hS hW => ?_)
  refine C_putR (ix := 48) (ci := 10) (k := 29) F hin hS hW (by omega) hsa (by decide +kernel) (fun H1 locs1 hS hW => ?_)
  refine lv_aload_n hx hb (show decode (mB 139) 113 = .ok (.aload_n 0, 1) by decide +kernel) rfl (lv_at hl 0 rfl) ?_
  refine lv_iconst (v := nI 5) hx hb (show decode (mB 139) 114 = .ok (.iconst 5, 1) by decide +kernel) (by decide) ?_
  refine C_newa (t := 0) (n := 5) (i1 := 1074) F hK hS hW (hs 13 (by decide)) rfl (by decide +kernel) (show decode (mB 139) 115 = .ok (.newarray .int, 2) by decide +kernel) (by decide) (Nat.le_of_ble_eq_true rfl) (Nat.le_of_ble_eq_true rfl) (fun H1 hS hW => ?_)
  refine C_putR (ix := 51) (ci := 10) (k := 31) F hin hS hW (by omega) hsa (by decide +kernel) (fun H1 locs1 hS hW => ?_)
  exact W.vret hx hb hret (fun t ht _ => ⟨rfl, by rw [ht]; exact hW, hS.F ht⟩) hS.2.2 (show decode (mB 139) 120 = .ok (.return_, 1) by decide +kernel) hlocks
def shPort : List KD := [.inl 4, .inr (4, 3), .inr (5, 15), .inr (0, 5), .inr (7, 5), .inr (0, 5), .inr (0, 5), .inr (0, 5), .inr (0, 5), .inr (0, 5), .inl 6, .inl 6, .inl 6, .inl 0, .inl 0, .inl 0, .inl 0, .inl 0, .inl 0, .inl 0, .inl 0, .inl 0, .inl 0, .inl 0, .inl 0, .inl 0, .inl 0, .inl 0]
def pR0 (a : Nat) (r : Rr) : Rr := uR (gridR (a + 4) (uR (uR (uR r a 4 (some (a + 1))) a 6 (some (a + 2))) a 8 (some (a + 3)))) a 10 (some (a + 4))
def shR (a : Nat) : Nat → Rr → Rr
  | 0, r => r
  | i + 1, r => uR (shR a i r) (a + 1) i (some (a + 10 + i))
def crR (a : Nat) : Nat → Rr → Rr
  | 0, r => r
  | i + 1, r => uR (crR a i r) (a + 2) i (some (a + 13 + i))
def portR (a : Nat) (r : Rr) : Rr := crR a 15 (shR a 3 (pR0 a r))
theorem shR_o {a b : Nat} (r : Rr) (h : b ≠ a + 1) : ∀ i, shR a i r b = r b
  | 0 => rfl
  | i + 1 => by show uR (shR a i r) (a + 1) i _ b = _; rw [uR_o h]; exact shR_o r h i
theorem crR_o {a b : Nat} (r : Rr) (h : b ≠ a + 2) : ∀ i, crR a i r b = r b
  | 0 => rfl
  | i + 1 => by show uR (crR a i r) (a + 2) i _ b = _; rw [uR_o h]; exact crR_o r h i
theorem pR0_4 (a : Nat) (r : Rr) : pR0 a r a 4 = some (a + 1) := by
  unfold pR0
  rw [uR_n (by decide), gridR_o _ (by omega), uR_n (by decide), uR_n (by decide), uR_s]
theorem pR0_6 (a : Nat) (r : Rr) : pR0 a r a 6 = some (a + 2) := by
  unfold pR0
  rw [uR_n (by decide), gridR_o _ (by omega), uR_n (by decide), uR_s]
set_option maxRecDepth 100000 in
set_option maxHeartbeats 4000000 in
theorem k_Port {a : Nat} {r : Rr} {g : Gi} (hs : ∀ i, i < 28 → SH (a + i) = shPort[i]?) (hz : ∀ k, r a k = none ∧ g a k = 0) : CmC 2 23 [.ref a] 27 158 (a + 1) (a + 28) r (portR a r) g g := by
  refine CmC.of (by decide) (by decide +kernel) (by decide +kernel) (Nat.le_of_ble_eq_true rfl) ?_
  intro p l e s m args below meth c D CA B sa sv ls F hK hin hret hlocks hW hl
  have hx := F.1
  have hb := F.2.1
  have hS : va_S (AB B) s.heap s.heap [] := va_S.rf
  have hl : lv_has ls 2 [(0, .ref (B + a))] := hl
  have hsa : SH a = some (.inl 4) := hs 0 (by decide)
  have hs1 : SH (a + 1) = some (.inr (4, 3)) := hs 1 (by decide)
  have hs2 : SH (a + 2) = some (.inr (5, 15)) := hs 2 (by decide)
  have hsh : ∀ i, i < 3 → SH (a + 10 + i) = some (.inl 6) := by
    intro i hi
    match i, hi with
    | 0, _ => exact hs 10 (by decide)
    | 1, _ => exact hs 11 (by decide)
    | 2, _ => exact hs 12 (by decide)
  have hcr : ∀ i, i < 15 → SH (a + 13 + i) = some (.inl 0) := by
    intro i hi
    match i, hi with
    | 0, _ => exact hs 13 (by decide)
    | 1, _ => exact hs 14 (by decide)
    | 2, _ => exact hs 15 (by decide)
    | 3, _ => exact hs 16 (by decide)
    | 4, _ => exact hs 17 (by decide)
    | 5, _ => exact hs 18 (by decide)
    | 6, _ => exact hs 19 (by decide)
    | 7, _ => exact hs 20 (by decide)
    | 8, _ => exact hs 21 (by decide)
    | 9, _ => exact hs 22 (by decide)
    | 10, _ => exact hs 23 (by decide)
    | 11, _ => exact hs 24 (by decide)
    | 12, _ => exact hs 25 (by decide)
    | 13, _ => exact hs 26 (by decide)
    | 14, _ => exact hs 27 (by decide)
  have loop2 : ∀ w i, i + w = 15 → ∀ (H : Heap) (locs : List Loc) (ls : Array Slot), va_S (AB B) s.heap H locs → Wc D CA B (crR a i (shR a 3 (pR0 a r))) g (a + 13 + i) H → lv_has ls 2 [(0, .ref (B + a)), (1, .int (nI i))] → W p l e (rmC 2 27 158) s m args below meth c H locs (12 + i) (68 + 6 * i) (MQ below (QK D CA B (portR a r) g (a + 28)) args s 27 158 (AB B)) (F0 m 106 ls []) := by
    intro w
    induction w with
    | zero =>
      intro i hi H locs ls hS hW hl
      have hi15 : i = 15 := hi
      rw [hi15] at hW hl ⊢
      refine lv_iload_n hx hb (show decode (mB 23) 106 = .ok (.iload_n 1, 1) by decide +kernel) rfl (lv_at hl 1 rfl) ?_
      refine lv_bipush (v := nI 15) hx hb (show decode (mB 23) 107 = .ok (.bipush 15, 2) by decide +kernel) (by decide) ?_
      refine lv_icmp_ge (tgt := 131) hx hb (show decode (mB 23) 109 = .ok (.if_icmp .ge 22, 3) by decide +kernel) (by decide) (fun _ => ?_) (fun z => absurd (Int32.le_refl _) z)
      exact W.vret hx hb hret (fun t ht _ => ⟨rfl, by rw [ht]; exact hW, hS.F ht⟩) hS.2.2 (show decode (mB 23) 131 = .ok (.return_, 1) by decide +kernel) hlocks
    | succ w ih =>
      intro i hi H locs ls hS hW hl
      refine lv_iload_n hx hb (show decode (mB 23) 106 = .ok (.iload_n 1, 1) by decide +kernel) rfl (lv_at hl 1 rfl) ?_
      refine lv_bipush (v := nI 15) hx hb (show decode (mB 23) 107 = .ok (.bipush 15, 2) by decide +kernel) (by decide) ?_
      refine lv_icmp_ge (tgt := 131) hx hb (show decode (mB 23) 109 = .ok (.if_icmp .ge 22, 3) by decide +kernel) (by decide) (fun z => ?_) (fun _ => ?_)
      · rw [nI_leI (by omega) (by omega)] at z; omega
      · refine lv_aload_n hx hb (show decode (mB 23) 112 = .ok (.aload_n 0, 1) by decide +kernel) rfl (lv_at hl 0 rfl) ?_
        refine C_getR (ci := 4) (k := 6) (b := a + 2) F hW (by omega) hsa (show decode (mB 23) 113 = .ok (.getfield 35, 3) by decide +kernel) rfl rfl (by rw [crR_o _ (by omega), shR_o _ (by omega)]; exact pR0_6 a r) ?_
        refine lv_iload_n hx hb (show decode (mB 23) 116 = .ok (.iload_n 1, 1) by decide +kernel) rfl (lv_at hl 1 rfl) ?_
        have hzn := hW.2.2.2
        refine C_new (ci := 0) (i1 := 1038) (i2 := 1075) (i3 := 1004) F hS hW (hcr i (by omega)) (by decide) (by decide +kernel) (show decode (mB 23) 117 = .ok (.new 33, 3) by decide +kernel) (by show 12 + i + 1 ≤ 27; omega) (by show 68 + 6 * i + 6 ≤ 158; omega) (fun H1 hS hW => ?_)
        refine lv_dup hx hb (show decode (mB 23) 120 = .ok (.dup, 1) by decide +kernel) rfl ?_
        refine C_init (d := 1) (mk := 0) (a := a + 13 + i) (as := []) (mc := 0) (ms := 0) (i0 := 0) (i1 := 1077) (i2 := 1004) (n := 0) F hK hS hW (by decide) (by decide +kernel) (by decide +kernel) (by decide +kernel) (Or.inr (by decide +kernel)) (by decide +kernel) rfl (show decode (mB 23) 121 = .ok (.invokespecial 58, 3) by decide +kernel) hl.1 (Nat.le_of_ble_eq_true rfl) ⟨by decide, by decide⟩ ⟨by show 12 + i + 1 + 0 ≤ 27; omega, by show 68 + 6 * i + 6 + 0 ≤ 158; omega⟩ (k_Crate (fun q hq => by rw [show q = 0 by omega]; exact hcr i (by omega)) (fun k => hzn _ k (Nat.le_refl _))) (fun H1 locs1 hS hW => ?_)
        refine C_aast (a := a + 2) (t := 5) (n := 15) (k := i) (b := a + 13 + i) (ci := 0) F hS hW (by omega) hs2 rfl (by decide) (by omega) (hcr i (by omega)) (by omega) (show decode (mB 23) 124 = .ok (.aastore, 1) by decide +kernel) (fun H1 locs1 hS hW => ?_)
        refine lv_iinc (v := nI (i + 1)) (lv' := [(1, .int (nI (i + 1))), (0, .ref (B + a))]) hx hb (show decode (mB 23) 125 = .ok (.iinc 1 1, 3) by decide +kernel) hl (k := 1) rfl (by rw [← nI_add]; rfl) (by decide) rfl (fun ls hl => ?_)
        refine lv_goto (tgt := 106) hx hb (show decode (mB 23) 128 = .ok (.goto (-22), 3) by decide +kernel) (by decide) ?_
        exact ih (i + 1) (by omega) H1 locs1 ls hS hW (lv_sub hl [1, 0] rfl)
  have loop1 : ∀ w i, i + w = 3 → ∀ (H : Heap) (locs : List Loc) (ls : Array Slot), va_S (AB B) s.heap H locs → Wc D CA B (shR a i (pR0 a r)) g (a + 10 + i) H → lv_has ls 2 [(0, .ref (B + a)), (1, .int (nI i))] → W p l e (rmC 2 27 158) s m args below meth c H locs (9 + i) (53 + 5 * i) (MQ below (QK D CA B (portR a r) g (a + 28)) args s 27 158 (AB B)) (F0 m 80 ls []) := by
    intro w
    induction w with
    | zero =>
      intro i hi H locs ls hS hW hl
      have hi3 : i = 3 := hi
      rw [hi3] at hW hl ⊢
      refine lv_iload_n hx hb (show decode (mB 23) 80 = .ok (.iload_n 1, 1) by decide +kernel) rfl (lv_at hl 1 rfl) ?_
      refine lv_iconst (v := nI 3) hx hb (show decode (mB 23) 81 = .ok (.iconst 3, 1) by decide +kernel) (by decide) ?_
      refine lv_icmp_ge (tgt := 104) hx hb (show decode (mB 23) 82 = .ok (.if_icmp .ge 22, 3) by decide +kernel) (by decide) (fun _ => ?_) (fun z => absurd (Int32.le_refl _) z)
      refine lv_iconst (v := nI 0) hx hb (show decode (mB 23) 104 = .ok (.iconst 0, 1) by decide +kernel) (by decide) ?_
      refine lv_istore_n (lv' := [(1, .int (nI 0)), (0, .ref (B + a))]) hx hb (show decode (mB 23) 105 = .ok (.istore_n 1, 1) by decide +kernel) rfl hl (by decide) rfl (fun ls hl => ?_)
      exact loop2 15 0 rfl H locs ls hS hW (lv_sub hl [1, 0] rfl)
    | succ w ih =>
      intro i hi H locs ls hS hW hl
      refine lv_iload_n hx hb (show decode (mB 23) 80 = .ok (.iload_n 1, 1) by decide +kernel) rfl (lv_at hl 1 rfl) ?_
      refine lv_iconst (v := nI 3) hx hb (show decode (mB 23) 81 = .ok (.iconst 3, 1) by decide +kernel) (by decide) ?_
      refine lv_icmp_ge (tgt := 104) hx hb (show decode (mB 23) 82 = .ok (.if_icmp .ge 22, 3) by decide +kernel) (by decide) (fun z => ?_) (fun _ => ?_)
      · rw [nI_leI (by omega) (by omega)] at z; omega
      · refine lv_aload_n hx hb (show decode (mB 23) 85 = .ok (.aload_n 0, 1) by decide +kernel) rfl (lv_at hl 0 rfl) ?_
        refine C_getR (ci := 4) (k := 4) (b := a + 1) F hW (by omega) hsa (show decode (mB 23) 86 = .ok (.getfield 26, 3) by decide +kernel) rfl rfl (by rw [shR_o _ (by omega)]; exact pR0_4 a r) ?_
        refine lv_iload_n hx hb (show decode (mB 23) 89 = .ok (.iload_n 1, 1) by decide +kernel) rfl (lv_at hl 1 rfl) ?_
        have hzn := hW.2.2.2
        refine C_new (ci := 6) (i1 := 1036) (i2 := 1042) (i3 := 1003) F hS hW (hsh i (by omega)) (by decide) (by decide +kernel) (show decode (mB 23) 90 = .ok (.new 24, 3) by decide +kernel) (by show 9 + i + 1 ≤ 27; omega) (by show 53 + 5 * i + 5 ≤ 158; omega) (fun H1 hS hW => ?_)
        refine lv_dup hx hb (show decode (mB 23) 93 = .ok (.dup, 1) by decide +kernel) rfl ?_
        refine C_init (d := 1) (mk := 48) (a := a + 10 + i) (as := []) (mc := 0) (ms := 0) (i0 := 0) (i1 := 1044) (i2 := 1003) (n := 0) F hK hS hW (by decide) (by decide +kernel) (by decide +kernel) (by decide +kernel) (Or.inr (by decide +kernel)) (by decide +kernel) rfl (show decode (mB 23) 94 = .ok (.invokespecial 57, 3) by decide +kernel) hl.1 (Nat.le_of_ble_eq_true rfl) ⟨by decide, by decide⟩ ⟨by show 9 + i + 1 + 0 ≤ 27; omega, by show 53 + 5 * i + 5 + 0 ≤ 158; omega⟩ (k_Ship (fun q hq => by rw [show q = 0 by omega]; exact hsh i (by omega)) (fun k => hzn _ k (Nat.le_refl _))) (fun H1 locs1 hS hW => ?_)
        refine C_aast (a := a + 1) (t := 4) (n := 3) (k := i) (b := a + 10 + i) (ci := 6) F hS hW (by omega) hs1 rfl (by decide) (by omega) (hsh i (by omega)) (by omega) (show decode (mB 23) 97 = .ok (.aastore, 1) by decide +kernel) (fun H1 locs1 hS hW => ?_)
        refine lv_iinc (v := nI (i + 1)) (lv' := [(1, .int (nI (i + 1))), (0, .ref (B + a))]) hx hb (show decode (mB 23) 98 = .ok (.iinc 1 1, 3) by decide +kernel) hl (k := 1) rfl (by rw [← nI_add]; rfl) (by decide) rfl (fun ls hl => ?_)
        refine lv_goto (tgt := 80) hx hb (show decode (mB 23) 101 = .ok (.goto (-21), 3) by decide +kernel) (by decide) ?_
        exact ih (i + 1) (by omega) H1 locs1 ls hS hW (lv_sub hl [1, 0] rfl)
  refine lv_aload_n hx hb (show decode (mB 23) 0 = .ok (.aload_n 0, 1) by decide +kernel) rfl (lv_at hl 0 rfl) ?_
  refine C_obj (i1 := 1035) F hl.1 (by decide +kernel) (show decode (mB 23) 1 = .ok (.invokespecial 3, 3) by decide +kernel) (Nat.le_of_ble_eq_true rfl) (Nat.le_of_ble_eq_true rfl) ?_
  refine lv_aload_n hx hb (show decode (mB 23) 4 = .ok (.aload_n 0, 1) by decide +kernel) rfl (lv_at hl 0 rfl) ?_
  refine lv_iconst (v := 0) hx hb (show decode (mB 23) 5 = .ok (.iconst 0, 1) by decide +kernel) (by decide) ?_
  refine C_put0 (ix := 9) (ci := 4) (k := 0) F hin hS hW (by omega) hsa (hz 0).2 (by decide +kernel) (fun H1 locs1 hS hW => ?_)
  refine lv_aload_n hx hb (show decode (mB 23) 9 = .ok (.aload_n 0, 1) by decide +kernel) rfl (lv_at hl 0 rfl) ?_
  refine lv_iconst (v := 0) hx hb (show decode (mB 23) 10 = .ok (.iconst 0, 1) by decide +kernel) (by decide) ?_
  refine C_put0 (ix := 15) (ci := 4) (k := 1) F hin hS hW (by omega) hsa (hz 1).2 (by decide +kernel) (fun H1 locs1 hS hW => ?_)
  refine lv_aload_n hx hb (show decode (mB 23) 14 = .ok (.aload_n 0, 1) by decide +kernel) rfl (lv_at hl 0 rfl) ?_
  refine lv_iconst (v := 0) hx hb (show decode (mB 23) 15 = .ok (.iconst 0, 1) by decide +kernel) (by decide) ?_
  refine C_put0 (ix := 18) (ci := 4) (k := 2) F hin hS hW (by omega) hsa (hz 2).2 (by decide +kernel) (fun H1 locs1 hS hW => ?_)
  refine lv_aload_n hx hb (show decode (mB 23) 19 = .ok (.aload_n 0, 1) by decide +kernel) rfl (lv_at hl 0 rfl) ?_
  refine lv_iconst (v := 0) hx hb (show decode (mB 23) 20 = .ok (.iconst 0, 1) by decide +kernel) (by decide) ?_
  refine C_put0 (ix := 21) (ci := 4) (k := 3) F hin hS hW (by omega) hsa (hz 3).2 (by decide +kernel) (fun H1 locs1 hS hW => ?_)
  refine lv_aload_n hx hb (show decode (mB 23) 24 = .ok (.aload_n 0, 1) by decide +kernel) rfl (lv_at hl 0 rfl) ?_
  refine lv_iconst (v := nI 3) hx hb (show decode (mB 23) 25 = .ok (.iconst 3, 1) by decide +kernel) (by decide) ?_
  refine C_anew (t := 4) (n := 3) (i1 := 1036) (C := "DayPort$Ship") F hK hS hW (hs 1 (by decide)) rfl hK.1.1 (by decide +kernel) (show decode (mB 23) 26 = .ok (.anewarray 24, 3) by decide +kernel) (by decide) (Nat.le_of_ble_eq_true rfl) (Nat.le_of_ble_eq_true rfl) (fun H1 hS hW => ?_)
  refine C_putR (ix := 26) (ci := 4) (k := 4) F hin hS hW (by omega) hsa (by decide +kernel) (fun H1 locs1 hS hW => ?_)
  refine lv_aload_n hx hb (show decode (mB 23) 32 = .ok (.aload_n 0, 1) by decide +kernel) rfl (lv_at hl 0 rfl) ?_
  refine lv_iconst (v := 0) hx hb (show decode (mB 23) 33 = .ok (.iconst 0, 1) by decide +kernel) (by decide) ?_
  refine C_put0 (ix := 30) (ci := 4) (k := 5) F hin hS hW (by omega) hsa (hz 5).2 (by decide +kernel) (fun H1 locs1 hS hW => ?_)
  refine lv_aload_n hx hb (show decode (mB 23) 37 = .ok (.aload_n 0, 1) by decide +kernel) rfl (lv_at hl 0 rfl) ?_
  refine lv_bipush (v := nI 15) hx hb (show decode (mB 23) 38 = .ok (.bipush 15, 2) by decide +kernel) (by decide) ?_
  refine C_anew (t := 5) (n := 15) (i1 := 1038) (C := "DayPort$Crate") F hK hS hW (hs 2 (by decide)) rfl hK.1.2.1 (by decide +kernel) (show decode (mB 23) 40 = .ok (.anewarray 33, 3) by decide +kernel) (by decide) (Nat.le_of_ble_eq_true rfl) (Nat.le_of_ble_eq_true rfl) (fun H1 hS hW => ?_)
  refine C_putR (ix := 35) (ci := 4) (k := 6) F hin hS hW (by omega) hsa (by decide +kernel) (fun H1 locs1 hS hW => ?_)
  refine lv_aload_n hx hb (show decode (mB 23) 46 = .ok (.aload_n 0, 1) by decide +kernel) rfl (lv_at hl 0 rfl) ?_
  refine lv_iconst (v := 0) hx hb (show decode (mB 23) 47 = .ok (.iconst 0, 1) by decide +kernel) (by decide) ?_
  refine C_put0 (ix := 39) (ci := 4) (k := 7) F hin hS hW (by omega) hsa (hz 7).2 (by decide +kernel) (fun H1 locs1 hS hW => ?_)
  refine lv_aload_n hx hb (show decode (mB 23) 51 = .ok (.aload_n 0, 1) by decide +kernel) rfl (lv_at hl 0 rfl) ?_
  refine lv_iconst (v := nI 5) hx hb (show decode (mB 23) 52 = .ok (.iconst 5, 1) by decide +kernel) (by decide) ?_
  refine C_newa (t := 0) (n := 5) (i1 := 1074) F hK hS hW (hs 3 (by decide)) rfl (by decide +kernel) (show decode (mB 23) 53 = .ok (.newarray .int, 2) by decide +kernel) (by decide) (Nat.le_of_ble_eq_true rfl) (Nat.le_of_ble_eq_true rfl) (fun H1 hS hW => ?_)
  refine C_putR (ix := 42) (ci := 4) (k := 8) F hin hS hW (by omega) hsa (by decide +kernel) (fun H1 locs1 hS hW => ?_)
  refine lv_aload_n hx hb (show decode (mB 23) 58 = .ok (.aload_n 0, 1) by decide +kernel) rfl (lv_at hl 0 rfl) ?_
  refine lv_iconst (v := 0) hx hb (show decode (mB 23) 59 = .ok (.iconst 0, 1) by decide +kernel) (by decide) ?_
  refine C_put0 (ix := 46) (ci := 4) (k := 9) F hin hS hW (by omega) hsa (hz 9).2 (by decide +kernel) (fun H1 locs1 hS hW => ?_)
  refine lv_aload_n hx hb (show decode (mB 23) 63 = .ok (.aload_n 0, 1) by decide +kernel) rfl (lv_at hl 0 rfl) ?_
  refine lv_iconst (v := 5) hx hb (show decode (mB 23) 64 = .ok (.iconst 5, 1) by decide +kernel) (by decide) ?_
  refine lv_iconst (v := 5) hx hb (show decode (mB 23) 65 = .ok (.iconst 5, 1) by decide +kernel) (by decide) ?_
  refine C_grid (i1 := 1040) (i2 := 1074) F hK hS hW (hs 4 (by decide)) (fun j hj => ?_) (by decide +kernel) (show decode (mB 23) 66 = .ok (.multianewarray 49 2, 4) by decide +kernel) (Nat.le_of_ble_eq_true rfl) (Nat.le_of_ble_eq_true rfl) (fun H1 locs1 hS hW => ?_)
  · match j, hj with
    | 0, _ => exact hs 5 (by decide)
    | 1, _ => exact hs 6 (by decide)
    | 2, _ => exact hs 7 (by decide)
    | 3, _ => exact hs 8 (by decide)
    | 4, _ => exact hs 9 (by decide)
  refine C_putR (ix := 51) (ci := 4) (k := 10) F hin hS hW (by omega) hsa (by decide +kernel) (fun H1 locs1 hS hW => ?_)
  refine lv_aload_n hx hb (show decode (mB 23) 73 = .ok (.aload_n 0, 1) by decide +kernel) rfl (lv_at hl 0 rfl) ?_
  refine lv_iconst (v := 0) hx hb (show decode (mB 23) 74 = .ok (.iconst 0, 1) by decide +kernel) (by decide) ?_
  refine C_put0 (ix := 54) (ci := 4) (k := 11) F hin hS hW (by omega) hsa (hz 11).2 (by decide +kernel) (fun H1 locs1 hS hW => ?_)
  refine lv_iconst (v := nI 0) hx hb (show decode (mB 23) 78 = .ok (.iconst 0, 1) by decide +kernel) (by decide) ?_
  refine lv_istore_n (lv' := [(1, .int (nI 0)), (0, .ref (B + a))]) hx hb (show decode (mB 23) 79 = .ok (.istore_n 1, 1) by decide +kernel) rfl hl (by decide) rfl (fun ls hl => ?_)
  exact loop1 3 0 rfl _ _ ls hS hW (lv_sub hl [1, 0] rfl)
