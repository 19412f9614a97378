/-! the small constructors (written by a program out of the listing) -/
def shCrate : List KD := [.inl 0]
set_option maxRecDepth 100000 in
set_option maxHeartbeats 1000000 in
theorem k_Crate {a : Nat} {r : Rr} {g : Gi} (hs : ∀ i, i < 1 → SH (a + i) = shCrate[i]?) (hz : ∀ k, r a k = none ∧ g a k = 0) : CmC 1 0 [.ref a] 0 0 (a + 1) (a + 1) r r g g := by
  refine CmC.of (by decide) (by decide +kernel) (by decide +kernel) (Nat.le_of_ble_eq_true rfl) ?_
  intro p l e s m args below meth c D CA B sa sv ls F hK hin hret hlocks hW hl
  have hx := F.1
  have hb := F.2.1
  have hS : va_S (AB B) s.heap s.heap [] := va_S.rf
  have hsa : SH a = some (.inl 0) := hs 0 (by decide)
  have hl : lv_has ls 1 [(0, .ref (B + a))] := hl
  refine lv_aload_n hx hb (show decode (mB 0) 0 = .ok (.aload_n 0, 1) by decide +kernel) rfl (lv_at hl 0 rfl) ?_
  refine C_obj (i1 := 1079) F hl.1 (by decide +kernel) (show decode (mB 0) 1 = .ok (.invokespecial 3, 3) by decide +kernel) (Nat.le_of_ble_eq_true rfl) (Nat.le_of_ble_eq_true rfl) ?_
  refine lv_aload_n hx hb (show decode (mB 0) 4 = .ok (.aload_n 0, 1) by decide +kernel) rfl (lv_at hl 0 rfl) ?_
  refine lv_iconst (v := 0) hx hb (show decode (mB 0) 5 = .ok (.iconst 0, 1) by decide +kernel) (by decide) ?_
  refine C_put0 (ix := 9) (ci := 0) (k := 0) F hin hS hW (by omega) hsa (hz 0).2 (by decide +kernel) (fun H1 locs1 hS hW => ?_)
  refine lv_aload_n hx hb (show decode (mB 0) 9 = .ok (.aload_n 0, 1) by decide +kernel) rfl (lv_at hl 0 rfl) ?_
  refine lv_iconst (v := 0) hx hb (show decode (mB 0) 10 = .ok (.iconst 0, 1) by decide +kernel) (by decide) ?_
  refine C_put0 (ix := 15) (ci := 0) (k := 1) F hin hS hW (by omega) hsa (hz 1).2 (by decide +kernel) (fun H1 locs1 hS hW => ?_)
  refine lv_aload_n hx hb (show decode (mB 0) 14 = .ok (.aload_n 0, 1) by decide +kernel) rfl (lv_at hl 0 rfl) ?_
  refine lv_iconst (v := 0) hx hb (show decode (mB 0) 15 = .ok (.iconst 0, 1) by decide +kernel) (by decide) ?_
  refine C_put0 (ix := 18) (ci := 0) (k := 2) F hin hS hW (by omega) hsa (hz 2).2 (by decide +kernel) (fun H1 locs1 hS hW => ?_)
  refine lv_aload_n hx hb (show decode (mB 0) 19 = .ok (.aload_n 0, 1) by decide +kernel) rfl (lv_at hl 0 rfl) ?_
  refine lv_iconst (v := 0) hx hb (show decode (mB 0) 20 = .ok (.iconst 0, 1) by decide +kernel) (by decide) ?_
  refine C_put0 (ix := 21) (ci := 0) (k := 3) F hin hS hW (by omega) hsa (hz 3).2 (by decide +kernel) (fun H1 locs1 hS hW => ?_)
  refine lv_aload_n hx hb (show decode (mB 0) 24 = .ok (.aload_n 0, 1) by decide +kernel) rfl (lv_at hl 0 rfl) ?_
  refine lv_iconst (v := 0) hx hb (show decode (mB 0) 25 = .ok (.iconst 0, 1) by decide +kernel) (by decide) ?_
  refine C_put0 (ix := 24) (ci := 0) (k := 4) F hin hS hW (by omega) hsa (hz 4).2 (by decide +kernel) (fun H1 locs1 hS hW => ?_)
  refine lv_aload_n hx hb (show decode (mB 0) 29 = .ok (.aload_n 0, 1) by decide +kernel) rfl (lv_at hl 0 rfl) ?_
  refine lv_iconst (v := 0) hx hb (show decode (mB 0) 30 = .ok (.iconst 0, 1) by decide +kernel) (by decide) ?_
  refine C_put0 (ix := 27) (ci := 0) (k := 5) F hin hS hW (by omega) hsa (hz 5).2 (by decide +kernel) (fun H1 locs1 hS hW => ?_)
  exact W.vret hx hb hret (fun t ht _ => ⟨rfl, by rw [ht]; exact hW, hS.F ht⟩) hS.2.2 (show decode (mB 0) 34 = .ok (.return_, 1) by decide +kernel) hlocks
def shShip : List KD := [.inl 6]
set_option maxRecDepth 100000 in
set_option maxHeartbeats 1000000 in
theorem k_Ship {a : Nat} {r : Rr} {g : Gi} (hs : ∀ i, i < 1 → SH (a + i) = shShip[i]?) (hz : ∀ k, r a k = none ∧ g a k = 0) : CmC 1 48 [.ref a] 0 0 (a + 1) (a + 1) r r g g := by
  refine CmC.of (by decide) (by decide +kernel) (by decide +kernel) (Nat.le_of_ble_eq_true rfl) ?_
  intro p l e s m args below meth c D CA B sa sv ls F hK hin hret hlocks hW hl
  have hx := F.1
  have hb := F.2.1
  have hS : va_S (AB B) s.heap s.heap [] := va_S.rf
  have hsa : SH a = some (.inl 6) := hs 0 (by decide)
  have hl : lv_has ls 1 [(0, .ref (B + a))] := hl
  refine lv_aload_n hx hb (show decode (mB 48) 0 = .ok (.aload_n 0, 1) by decide +kernel) rfl (lv_at hl 0 rfl) ?_
  refine C_obj (i1 := 1046) F hl.1 (by decide +kernel) (show decode (mB 48) 1 = .ok (.invokespecial 1, 3) by decide +kernel) (Nat.le_of_ble_eq_true rfl) (Nat.le_of_ble_eq_true rfl) ?_
  refine lv_aload_n hx hb (show decode (mB 48) 4 = .ok (.aload_n 0, 1) by decide +kernel) rfl (lv_at hl 0 rfl) ?_
  refine lv_iconst (v := 0) hx hb (show decode (mB 48) 5 = .ok (.iconst 0, 1) by decide +kernel) (by decide) ?_
  refine C_put0 (ix := 7) (ci := 6) (k := 0) F hin hS hW (by omega) hsa (hz 0).2 (by decide +kernel) (fun H1 locs1 hS hW => ?_)
  refine lv_aload_n hx hb (show decode (mB 48) 9 = .ok (.aload_n 0, 1) by decide +kernel) rfl (lv_at hl 0 rfl) ?_
  refine lv_iconst (v := 0) hx hb (show decode (mB 48) 10 = .ok (.iconst 0, 1) by decide +kernel) (by decide) ?_
  refine C_put0 (ix := 13) (ci := 6) (k := 1) F hin hS hW (by omega) hsa (hz 1).2 (by decide +kernel) (fun H1 locs1 hS hW => ?_)
  refine lv_aload_n hx hb (show decode (mB 48) 14 = .ok (.aload_n 0, 1) by decide +kernel) rfl (lv_at hl 0 rfl) ?_
  refine lv_iconst (v := 0) hx hb (show decode (mB 48) 15 = .ok (.iconst 0, 1) by decide +kernel) (by decide) ?_
  refine C_put0 (ix := 16) (ci := 6) (k := 2) F hin hS hW (by omega) hsa (hz 2).2 (by decide +kernel) (fun H1 locs1 hS hW => ?_)
  refine lv_aload_n hx hb (show decode (mB 48) 19 = .ok (.aload_n 0, 1) by decide +kernel) rfl (lv_at hl 0 rfl) ?_
  refine lv_iconst (v := 0) hx hb (show decode (mB 48) 20 = .ok (.iconst 0, 1) by decide +kernel) (by decide) ?_
  refine C_put0 (ix := 19) (ci := 6) (k := 3) F hin hS hW (by omega) hsa (hz 3).2 (by decide +kernel) (fun H1 locs1 hS hW => ?_)
  refine lv_aload_n hx hb (show decode (mB 48) 24 = .ok (.aload_n 0, 1) by decide +kernel) rfl (lv_at hl 0 rfl) ?_
  refine lv_iconst (v := 0) hx hb (show decode (mB 48) 25 = .ok (.iconst 0, 1) by decide +kernel) (by decide) ?_
  refine C_put0 (ix := 22) (ci := 6) (k := 4) F hin hS hW (by omega) hsa (hz 4).2 (by decide +kernel) (fun H1 locs1 hS hW => ?_)
  exact W.vret hx hb hret (fun t ht _ => ⟨rfl, by rw [ht]; exact hW, hS.F ht⟩) hS.2.2 (show decode (mB 48) 29 = .ok (.return_, 1) by decide +kernel) hlocks
def yardR (a : Nat) (r : Rr) : Rr := uR (uR (uR (uR (uR (uR (uR (uR r a 0 (some (a + 1))) a 1 (some (a + 2))) a 2 (some (a + 3))) a 4 (some (a + 4))) a 5 (some (a + 5))) a 6 (some (a + 6))) a 7 (some (a + 7))) a 8 (some (a + 8))
def shYard : List KD := [.inl 8, .inr (0, 45), .inr (0, 9), .inr (0, 15), .inr (0, 15), .inr (0, 15), .inr (0, 15), .inr (0, 15), .inr (0, 15)]
set_option maxRecDepth 100000 in
set_option maxHeartbeats 1000000 in
theorem k_Yard {a : Nat} {r : Rr} {g : Gi} (hs : ∀ i, i < 9 → SH (a + i) = shYard[i]?) (hz : ∀ k, r a k = none ∧ g a k = 0) : CmC 1 56 [.ref a] 8 144 (a + 1) (a + 9) r (yardR a r) g g := by
  refine CmC.of (by decide) (by decide +kernel) (by decide +kernel) (Nat.le_of_ble_eq_true rfl) ?_
  intro p l e s m args below meth c D CA B sa sv ls F hK hin hret hlocks hW hl
  have hx := F.1
  have hb := F.2.1
  have hS : va_S (AB B) s.heap s.heap [] := va_S.rf
  have hsa : SH a = some (.inl 8) := hs 0 (by decide)
  have hl : lv_has ls 1 [(0, .ref (B + a))] := hl
  refine lv_aload_n hx hb (show decode (mB 56) 0 = .ok (.aload_n 0, 1) by decide +kernel) rfl (lv_at hl 0 rfl) ?_
  refine C_obj (i1 := 2020) F hl.1 (by decide +kernel) (show decode (mB 56) 1 = .ok (.invokespecial 3, 3) by decide +kernel) (Nat.le_of_ble_eq_true rfl) (Nat.le_of_ble_eq_true rfl) ?_
  refine lv_aload_n hx hb (show decode (mB 56) 4 = .ok (.aload_n 0, 1) by decide +kernel) rfl (lv_at hl 0 rfl) ?_
  refine lv_bipush (v := nI 45) hx hb (show decode (mB 56) 5 = .ok (.bipush 45, 2) by decide +kernel) (by decide) ?_
  refine C_newa (t := 0) (n := 45) (i1 := 1074) F hK hS hW (hs 1 (by decide)) rfl (by decide +kernel) (show decode (mB 56) 7 = .ok (.newarray .int, 2) by decide +kernel) (by decide) (Nat.le_of_ble_eq_true rfl) (Nat.le_of_ble_eq_true rfl) (fun H1 hS hW => ?_)
  refine C_putR (ix := 9) (ci := 8) (k := 0) F hin hS hW (by omega) hsa (by decide +kernel) (fun H1 locs1 hS hW => ?_)
  refine lv_aload_n hx hb (show decode (mB 56) 12 = .ok (.aload_n 0, 1) by decide +kernel) rfl (lv_at hl 0 rfl) ?_
  refine lv_bipush (v := nI 9) hx hb (show decode (mB 56) 13 = .ok (.bipush 9, 2) by decide +kernel) (by decide) ?_
  refine C_newa (t := 0) (n := 9) (i1 := 1074) F hK hS hW (hs 2 (by decide)) rfl (by decide +kernel) (show decode (mB 56) 15 = .ok (.newarray .int, 2) by decide +kernel) (by decide) (Nat.le_of_ble_eq_true rfl) (Nat.le_of_ble_eq_true rfl) (fun H1 hS hW => ?_)
  refine C_putR (ix := 15) (ci := 8) (k := 1) F hin hS hW (by omega) hsa (by decide +kernel) (fun H1 locs1 hS hW => ?_)
  refine lv_aload_n hx hb (show decode (mB 56) 20 = .ok (.aload_n 0, 1) by decide +kernel) rfl (lv_at hl 0 rfl) ?_
  refine lv_bipush (v := nI 15) hx hb (show decode (mB 56) 21 = .ok (.bipush 15, 2) by decide +kernel) (by decide) ?_
  refine C_newa (t := 0) (n := 15) (i1 := 1074) F hK hS hW (hs 3 (by decide)) rfl (by decide +kernel) (show decode (mB 56) 23 = .ok (.newarray .int, 2) by decide +kernel) (by decide) (Nat.le_of_ble_eq_true rfl) (Nat.le_of_ble_eq_true rfl) (fun H1 hS hW => ?_)
  refine C_putR (ix := 18) (ci := 8) (k := 2) F hin hS hW (by omega) hsa (by decide +kernel) (fun H1 locs1 hS hW => ?_)
  refine lv_aload_n hx hb (show decode (mB 56) 28 = .ok (.aload_n 0, 1) by decide +kernel) rfl (lv_at hl 0 rfl) ?_
  refine lv_iconst (v := 0) hx hb (show decode (mB 56) 29 = .ok (.iconst 0, 1) by decide +kernel) (by decide) ?_
  refine C_put0 (ix := 21) (ci := 8) (k := 3) F hin hS hW (by omega) hsa (hz 3).2 (by decide +kernel) (fun H1 locs1 hS hW => ?_)
  refine lv_aload_n hx hb (show decode (mB 56) 33 = .ok (.aload_n 0, 1) by decide +kernel) rfl (lv_at hl 0 rfl) ?_
  refine lv_bipush (v := nI 15) hx hb (show decode (mB 56) 34 = .ok (.bipush 15, 2) by decide +kernel) (by decide) ?_
  refine C_newa (t := 0) (n := 15) (i1 := 1074) F hK hS hW (hs 4 (by decide)) rfl (by decide +kernel) (show decode (mB 56) 36 = .ok (.newarray .int, 2) by decide +kernel) (by decide) (Nat.le_of_ble_eq_true rfl) (Nat.le_of_ble_eq_true rfl) (fun H1 hS hW => ?_)
  refine C_putR (ix := 25) (ci := 8) (k := 4) F hin hS hW (by omega) hsa (by decide +kernel) (fun H1 locs1 hS hW => ?_)
  refine lv_aload_n hx hb (show decode (mB 56) 41 = .ok (.aload_n 0, 1) by decide +kernel) rfl (lv_at hl 0 rfl) ?_
  refine lv_bipush (v := nI 15) hx hb (show decode (mB 56) 42 = .ok (.bipush 15, 2) by decide +kernel) (by decide) ?_
  refine C_newa (t := 0) (n := 15) (i1 := 1074) F hK hS hW (hs 5 (by decide)) rfl (by decide +kernel) (show decode (mB 56) 44 = .ok (.newarray .int, 2) by decide +kernel) (by decide) (Nat.le_of_ble_eq_true rfl) (Nat.le_of_ble_eq_true rfl) (fun H1 hS hW => ?_)
  refine C_putR (ix := 28) (ci := 8) (k := 5) F hin hS hW (by omega) hsa (by decide +kernel) (fun H1 locs1 hS hW => ?_)
  refine lv_aload_n hx hb (show decode (mB 56) 49 = .ok (.aload_n 0, 1) by decide +kernel) rfl (lv_at hl 0 rfl) ?_
  refine lv_bipush (v := nI 15) hx hb (show decode (mB 56) 50 = .ok (.bipush 15, 2) by decide +kernel) (by decide) ?_
  refine C_newa (t := 0) (n := 15) (i1 := 1074) F hK hS hW (hs 6 (by decide)) rfl (by decide +kernel) (show decode (mB 56) 52 = .ok (.newarray .int, 2) by decide +kernel) (by decide) (Nat.le_of_ble_eq_true rfl) (Nat.le_of_ble_eq_true rfl) (fun H1 hS hW => ?_)
  refine C_putR (ix := 31) (ci := 8) (k := 6) F hin hS hW (by omega) hsa (by decide +kernel) (fun H1 locs1 hS hW => ?_)
  refine lv_aload_n hx hb (show decode (mB 56) 57 = .ok (.aload_n 0, 1) by decide +kernel) rfl (lv_at hl 0 rfl) ?_
  refine lv_bipush (v := nI 15) hx hb (show decode (mB 56) 58 = .ok (.bipush 15, 2) by decide +kernel) (by decide) ?_
  refine C_newa (t := 0) (n := 15) (i1 := 1074) F hK hS hW (hs 7 (by decide)) rfl (by decide +kernel) (show decode (mB 56) 60 = .ok (.newarray .int, 2) by decide +kernel) (by decide) (Nat.le_of_ble_eq_true rfl) (Nat.le_of_ble_eq_true rfl) (fun H1 hS hW => ?_)
  refine C_putR (ix := 34) (ci := 8) (k := 7) F hin hS hW (by omega) hsa (by decide +kernel) (fun H1 locs1 hS hW => ?_)
  refine lv_aload_n hx hb (show decode (mB 56) 65 = .ok (.aload_n 0, 1) by decide +kernel) rfl (lv_at hl 0 rfl) ?_
  refine lv_bipush (v := nI 15) hx hb (show decode (mB 56) 66 = .ok (.bipush 15, 2) by decide +kernel) (by decide) ?_
  refine C_newa (t := 0) (n := 15) (i1 := 1074) F hK hS hW (hs 8 (by decide)) rfl (by decide +kernel) (show decode (mB 56) 68 = .ok (.newarray .int, 2) by decide +kernel) (by decide) (Nat.le_of_ble_eq_true rfl) (Nat.le_of_ble_eq_true rfl) (fun H1 hS hW => ?_)
  refine C_putR (ix := 37) (ci := 8) (k := 8) F hin hS hW (by omega) hsa (by decide +kernel) (fun H1 locs1 hS hW => ?_)
  refine lv_aload_n hx hb (show decode (mB 56) 73 = .ok (.aload_n 0, 1) by decide +kernel) rfl (lv_at hl 0 rfl) ?_
  refine lv_iconst (v := 0) hx hb (show decode (mB 56) 74 = .ok (.iconst 0, 1) by decide +kernel) (by decide) ?_
  refine C_put0 (ix := 40) (ci := 8) (k := 9) F hin hS hW (by omega) hsa (hz 9).2 (by decide +kernel) (fun H1 locs1 hS hW => ?_)
  refine lv_aload_n hx hb (show decode (mB 56) 78 = .ok (.aload_n 0, 1) by decide +kernel) rfl (lv_at hl 0 rfl) ?_
  refine lv_iconst (v := 0) hx hb (show decode (mB 56) 79 = .ok (.iconst 0, 1) by decide +kernel) (by decide) ?_
  refine C_put0 (ix := 43) (ci := 8) (k := 10) F hin hS hW (by omega) hsa (hz 10).2 (by decide +kernel) (fun H1 locs1 hS hW => ?_)
  exact W.vret hx hb hret (fun t ht _ => ⟨rfl, by rw [ht]; exact hW, hS.F ht⟩) hS.2.2 (show decode (mB 56) 83 = .ok (.return_, 1) by decide +kernel) hlocks
def outR (a : Nat) (r : Rr) : Rr := uR (uR (uR (uR (uR r a 0 (some (a + 1))) a 4 (some (a + 2))) a 5 (some (a + 3))) a 6 (some (a + 4))) a 7 (some (a + 5))
def shOuting : List KD := [.inl 3, .inr (0, 30), .inr (0, 15), .inr (0, 3), .inr (0, 5), .inr (2, 5)]
set_option maxRecDepth 100000 in
set_option maxHeartbeats 1000000 in
theorem k_Outing {a : Nat} {r : Rr} {g : Gi} (hs : ∀ i, i < 6 → SH (a + i) = shOuting[i]?) (hz : ∀ k, r a k = none ∧ g a k = 0) : CmC 1 14 [.ref a] 5 58 (a + 1) (a + 6) r (outR a r) g g := by
  refine CmC.of (by decide) (by decide +kernel) (by decide +kernel) (Nat.le_of_ble_eq_true rfl) ?_
  intro p l e s m args below meth c D CA B sa sv ls F hK hin hret hlocks hW hl
  have hx := F.1
  have hb := F.2.1
  have hS : va_S (AB B) s.heap s.heap [] := va_S.rf
  have hsa : SH a = some (.inl 3) := hs 0 (by decide)
  have hl : lv_has ls 1 [(0, .ref (B + a))] := hl
  refine lv_aload_n hx hb (show decode (mB 14) 0 = .ok (.aload_n 0, 1) by decide +kernel) rfl (lv_at hl 0 rfl) ?_
  refine C_obj (i1 := 2071) F hl.1 (by decide +kernel) (show decode (mB 14) 1 = .ok (.invokespecial 3, 3) by decide +kernel) (Nat.le_of_ble_eq_true rfl) (Nat.le_of_ble_eq_true rfl) ?_
  refine lv_aload_n hx hb (show decode (mB 14) 4 = .ok (.aload_n 0, 1) by decide +kernel) rfl (lv_at hl 0 rfl) ?_
  refine lv_bipush (v := nI 30) hx hb (show decode (mB 14) 5 = .ok (.bipush 30, 2) by decide +kernel) (by decide) ?_
  refine C_newa (t := 0) (n := 30) (i1 := 1074) F hK hS hW (hs 1 (by decide)) rfl (by decide +kernel) (show decode (mB 14) 7 = .ok (.newarray .int, 2) by decide +kernel) (by decide) (Nat.le_of_ble_eq_true rfl) (Nat.le_of_ble_eq_true rfl) (fun H1 hS hW => ?_)
  refine C_putR (ix := 11) (ci := 3) (k := 0) F hin hS hW (by omega) hsa (by decide +kernel) (fun H1 locs1 hS hW => ?_)
  refine lv_aload_n hx hb (show decode (mB 14) 12 = .ok (.aload_n 0, 1) by decide +kernel) rfl (lv_at hl 0 rfl) ?_
  refine lv_iconst (v := 0) hx hb (show decode (mB 14) 13 = .ok (.iconst 0, 1) by decide +kernel) (by decide) ?_
  refine C_put0 (ix := 15) (ci := 3) (k := 1) F hin hS hW (by omega) hsa (hz 1).2 (by decide +kernel) (fun H1 locs1 hS hW => ?_)
  refine lv_aload_n hx hb (show decode (mB 14) 17 = .ok (.aload_n 0, 1) by decide +kernel) rfl (lv_at hl 0 rfl) ?_
  refine lv_iconst (v := 0) hx hb (show decode (mB 14) 18 = .ok (.iconst 0, 1) by decide +kernel) (by decide) ?_
  refine C_put0 (ix := 19) (ci := 3) (k := 2) F hin hS hW (by omega) hsa (hz 2).2 (by decide +kernel) (fun H1 locs1 hS hW => ?_)
  refine lv_aload_n hx hb (show decode (mB 14) 22 = .ok (.aload_n 0, 1) by decide +kernel) rfl (lv_at hl 0 rfl) ?_
  refine lv_iconst (v := 0) hx hb (show decode (mB 14) 23 = .ok (.iconst 0, 1) by decide +kernel) (by decide) ?_
  refine C_put0 (ix := 22) (ci := 3) (k := 3) F hin hS hW (by omega) hsa (hz 3).2 (by decide +kernel) (fun H1 locs1 hS hW => ?_)
  refine lv_aload_n hx hb (show decode (mB 14) 27 = .ok (.aload_n 0, 1) by decide +kernel) rfl (lv_at hl 0 rfl) ?_
  refine lv_bipush (v := nI 15) hx hb (show decode (mB 14) 28 = .ok (.bipush 15, 2) by decide +kernel) (by decide) ?_
  refine C_newa (t := 0) (n := 15) (i1 := 1074) F hK hS hW (hs 2 (by decide)) rfl (by decide +kernel) (show decode (mB 14) 30 = .ok (.newarray .int, 2) by decide +kernel) (by decide) (Nat.le_of_ble_eq_true rfl) (Nat.le_of_ble_eq_true rfl) (fun H1 hS hW => ?_)
  refine C_putR (ix := 26) (ci := 3) (k := 4) F hin hS hW (by omega) hsa (by decide +kernel) (fun H1 locs1 hS hW => ?_)
  refine lv_aload_n hx hb (show decode (mB 14) 35 = .ok (.aload_n 0, 1) by decide +kernel) rfl (lv_at hl 0 rfl) ?_
  refine lv_iconst (v := nI 3) hx hb (show decode (mB 14) 36 = .ok (.iconst 3, 1) by decide +kernel) (by decide) ?_
  refine C_newa (t := 0) (n := 3) (i1 := 1074) F hK hS hW (hs 3 (by decide)) rfl (by decide +kernel) (show decode (mB 14) 37 = .ok (.newarray .int, 2) by decide +kernel) (by decide) (Nat.le_of_ble_eq_true rfl) (Nat.le_of_ble_eq_true rfl) (fun H1 hS hW => ?_)
  refine C_putR (ix := 29) (ci := 3) (k := 5) F hin hS hW (by omega) hsa (by decide +kernel) (fun H1 locs1 hS hW => ?_)
  refine lv_aload_n hx hb (show decode (mB 14) 42 = .ok (.aload_n 0, 1) by decide +kernel) rfl (lv_at hl 0 rfl) ?_
  refine lv_iconst (v := nI 5) hx hb (show decode (mB 14) 43 = .ok (.iconst 5, 1) by decide +kernel) (by decide) ?_
  refine C_newa (t := 0) (n := 5) (i1 := 1074) F hK hS hW (hs 4 (by decide)) rfl (by decide +kernel) (show decode (mB 14) 44 = .ok (.newarray .int, 2) by decide +kernel) (by decide) (Nat.le_of_ble_eq_true rfl) (Nat.le_of_ble_eq_true rfl) (fun H1 hS hW => ?_)
  refine C_putR (ix := 32) (ci := 3) (k := 6) F hin hS hW (by omega) hsa (by decide +kernel) (fun H1 locs1 hS hW => ?_)
  refine lv_aload_n hx hb (show decode (mB 14) 49 = .ok (.aload_n 0, 1) by decide +kernel) rfl (lv_at hl 0 rfl) ?_
  refine lv_iconst (v := nI 5) hx hb (show decode (mB 14) 50 = .ok (.iconst 5, 1) by decide +kernel) (by decide) ?_
  refine C_newa (t := 2) (n := 5) (i1 := 2107) F hK hS hW (hs 5 (by decide)) rfl (by decide +kernel) (show decode (mB 14) 51 = .ok (.newarray .boolean, 2) by decide +kernel) (by decide) (Nat.le_of_ble_eq_true rfl) (Nat.le_of_ble_eq_true rfl) (fun H1 hS hW => ?_)
  refine C_putR (ix := 35) (ci := 3) (k := 7) F hin hS hW (by omega) hsa (by decide +kernel) (fun H1 locs1 hS hW => ?_)
  refine lv_aload_n hx hb (show decode (mB 14) 56 = .ok (.aload_n 0, 1) by decide +kernel) rfl (lv_at hl 0 rfl) ?_
  refine lv_iconst (v := 0) hx hb (show decode (mB 14) 57 = .ok (.iconst 0, 1) by decide +kernel) (by decide) ?_
  refine C_put0 (ix := 39) (ci := 3) (k := 8) F hin hS hW (by omega) hsa (hz 8).2 (by decide +kernel) (fun H1 locs1 hS hW => ?_)
  refine lv_aload_n hx hb (show decode (mB 14) 61 = .ok (.aload_n 0, 1) by decide +kernel) rfl (lv_at hl 0 rfl) ?_
  refine lv_iconst (v := 0) hx hb (show decode (mB 14) 62 = .ok (.iconst 0, 1) by decide +kernel) (by decide) ?_
  refine C_put0 (ix := 42) (ci := 3) (k := 9) F hin hS hW (by omega) hsa (hz 9).2 (by decide +kernel) (fun H1 locs1 hS hW => ?_)
  exact W.vret hx hb hret (fun t ht _ => ⟨rfl, by rw [ht]; exact hW, hS.F ht⟩) hS.2.2 (show decode (mB 14) 66 = .ok (.return_, 1) by decide +kernel) hlocks
def nightR (a : Nat) (r : Rr) : Rr := uR r a 3 (some (a + 1))
def shNight : List KD := [.inl 2, .inr (0, 451)]
set_option maxRecDepth 100000 in
set_option maxHeartbeats 1000000 in
theorem k_Night {a : Nat} {r : Rr} {g : Gi} (hs : ∀ i, i < 2 → SH (a + i) = shNight[i]?) (hz : ∀ k, r a k = none ∧ g a k = 0) : CmC 1 8 [.ref a] 1 451 (a + 1) (a + 2) r (nightR a r) g (uI (uI g a 1 (-2)) a 2 (-2)) := by
  refine CmC.of (by decide) (by decide +kernel) (by decide +kernel) (Nat.le_of_ble_eq_true rfl) ?_
  intro p l e s m args below meth c D CA B sa sv ls F hK hin hret hlocks hW hl
  have hx := F.1
  have hb := F.2.1
  have hS : va_S (AB B) s.heap s.heap [] := va_S.rf
  have hsa : SH a = some (.inl 2) := hs 0 (by decide)
  have hl : lv_has ls 1 [(0, .ref (B + a))] := hl
  refine lv_aload_n hx hb (show decode (mB 8) 0 = .ok (.aload_n 0, 1) by decide +kernel) rfl (lv_at hl 0 rfl) ?_
  refine C_obj (i1 := 2113) F hl.1 (by decide +kernel) (show decode (mB 8) 1 = .ok (.invokespecial 3, 3) by decide +kernel) (Nat.le_of_ble_eq_true rfl) (Nat.le_of_ble_eq_true rfl) ?_
  refine lv_aload_n hx hb (show decode (mB 8) 4 = .ok (.aload_n 0, 1) by decide +kernel) rfl (lv_at hl 0 rfl) ?_
  refine lv_iconst (v := 0) hx hb (show decode (mB 8) 5 = .ok (.iconst 0, 1) by decide +kernel) (by decide) ?_
  refine C_put0 (ix := 9) (ci := 2) (k := 0) F hin hS hW (by omega) hsa (hz 0).2 (by decide +kernel) (fun H1 locs1 hS hW => ?_)
  refine lv_aload_n hx hb (show decode (mB 8) 9 = .ok (.aload_n 0, 1) by decide +kernel) rfl (lv_at hl 0 rfl) ?_
  refine lv_bipush (v := -2) hx hb (show decode (mB 8) 10 = .ok (.bipush (-2), 2) by decide +kernel) (by decide) ?_
  refine C_putI (ix := 15) (ci := 2) (k := 1) F hin hS hW (by omega) hsa (by decide +kernel) (Or.inl rfl) (fun H1 locs1 hS hW => ?_)
  refine lv_aload_n hx hb (show decode (mB 8) 15 = .ok (.aload_n 0, 1) by decide +kernel) rfl (lv_at hl 0 rfl) ?_
  refine lv_bipush (v := -2) hx hb (show decode (mB 8) 16 = .ok (.bipush (-2), 2) by decide +kernel) (by decide) ?_
  refine C_putI (ix := 18) (ci := 2) (k := 2) F hin hS hW (by omega) hsa (by decide +kernel) (Or.inl rfl) (fun H1 locs1 hS hW => ?_)
  refine lv_aload_n hx hb (show decode (mB 8) 21 = .ok (.aload_n 0, 1) by decide +kernel) rfl (lv_at hl 0 rfl) ?_
  refine lv_sipush (v := nI 451) hx hb (show decode (mB 8) 22 = .ok (.sipush 451, 3) by decide +kernel) (by decide) ?_
  refine C_newa (t := 0) (n := 451) (i1 := 1074) F hK hS hW (hs 1 (by decide)) rfl (by decide +kernel) (show decode (mB 8) 25 = .ok (.newarray .int, 2) by decide +kernel) (by decide) (Nat.le_of_ble_eq_true rfl) (Nat.le_of_ble_eq_true rfl) (fun H1 hS hW => ?_)
  refine C_putR (ix := 21) (ci := 2) (k := 3) F hin hS hW (by omega) hsa (by decide +kernel) (fun H1 locs1 hS hW => ?_)
  refine lv_aload_n hx hb (show decode (mB 8) 30 = .ok (.aload_n 0, 1) by decide +kernel) rfl (lv_at hl 0 rfl) ?_
  refine lv_iconst (v := 0) hx hb (show decode (mB 8) 31 = .ok (.iconst 0, 1) by decide +kernel) (by decide) ?_
  refine C_put0 (ix := 25) (ci := 2) (k := 4) F hin hS hW (by omega) hsa (by rw [uI_n (by decide), uI_n (by decide)]; exact (hz 4).2) (by decide +kernel) (fun H1 locs1 hS hW => ?_)
  exact W.vret hx hb hret (fun t ht _ => ⟨rfl, by rw [ht]; exact hW, hS.F ht⟩) hS.2.2 (show decode (mB 8) 35 = .ok (.return_, 1) by decide +kernel) hlocks
def strR (a : Nat) (r : Rr) : Rr := uR (uR (uR r a 0 (some (a + 1))) a 2 (some (a + 2))) a 3 (some (a + 3))
def shStrike : List KD := [.inl 7, .inr (0, 100), .inr (0, 10), .inr (0, 10)]
set_option maxRecDepth 100000 in
set_option maxHeartbeats 1000000 in
theorem k_Strike {a : Nat} {r : Rr} {g : Gi} (hs : ∀ i, i < 4 → SH (a + i) = shStrike[i]?) (hz : ∀ k, r a k = none ∧ g a k = 0) : CmC 1 52 [.ref a] 3 120 (a + 1) (a + 4) r (strR a r) g g := by
  refine CmC.of (by decide) (by decide +kernel) (by decide +kernel) (Nat.le_of_ble_eq_true rfl) ?_
  intro p l e s m args below meth c D CA B sa sv ls F hK hin hret hlocks hW hl
  have hx := F.1
  have hb := F.2.1
  have hS : va_S (AB B) s.heap s.heap [] := va_S.rf
  have hsa : SH a = some (.inl 7) := hs 0 (by decide)
  have hl : lv_has ls 1 [(0, .ref (B + a))] := hl
  refine lv_aload_n hx hb (show decode (mB 52) 0 = .ok (.aload_n 0, 1) by decide +kernel) rfl (lv_at hl 0 rfl) ?_
  refine C_obj (i1 := 2149) F hl.1 (by decide +kernel) (show decode (mB 52) 1 = .ok (.invokespecial 3, 3) by decide +kernel) (Nat.le_of_ble_eq_true rfl) (Nat.le_of_ble_eq_true rfl) ?_
  refine lv_aload_n hx hb (show decode (mB 52) 4 = .ok (.aload_n 0, 1) by decide +kernel) rfl (lv_at hl 0 rfl) ?_
  refine lv_bipush (v := nI 100) hx hb (show decode (mB 52) 5 = .ok (.bipush 100, 2) by decide +kernel) (by decide) ?_
  refine C_newa (t := 0) (n := 100) (i1 := 1074) F hK hS hW (hs 1 (by decide)) rfl (by decide +kernel) (show decode (mB 52) 7 = .ok (.newarray .int, 2) by decide +kernel) (by decide) (Nat.le_of_ble_eq_true rfl) (Nat.le_of_ble_eq_true rfl) (fun H1 hS hW => ?_)
  refine C_putR (ix := 11) (ci := 7) (k := 0) F hin hS hW (by omega) hsa (by decide +kernel) (fun H1 locs1 hS hW => ?_)
  refine lv_aload_n hx hb (show decode (mB 52) 12 = .ok (.aload_n 0, 1) by decide +kernel) rfl (lv_at hl 0 rfl) ?_
  refine lv_iconst (v := 0) hx hb (show decode (mB 52) 13 = .ok (.iconst 0, 1) by decide +kernel) (by decide) ?_
  refine C_put0 (ix := 15) (ci := 7) (k := 1) F hin hS hW (by omega) hsa (hz 1).2 (by decide +kernel) (fun H1 locs1 hS hW => ?_)
  refine lv_aload_n hx hb (show decode (mB 52) 17 = .ok (.aload_n 0, 1) by decide +kernel) rfl (lv_at hl 0 rfl) ?_
  refine lv_bipush (v := nI 10) hx hb (show decode (mB 52) 18 = .ok (.bipush 10, 2) by decide +kernel) (by decide) ?_
  refine C_newa (t := 0) (n := 10) (i1 := 1074) F hK hS hW (hs 2 (by decide)) rfl (by decide +kernel) (show decode (mB 52) 20 = .ok (.newarray .int, 2) by decide +kernel) (by decide) (Nat.le_of_ble_eq_true rfl) (Nat.le_of_ble_eq_true rfl) (fun H1 hS hW => ?_)
  refine C_putR (ix := 19) (ci := 7) (k := 2) F hin hS hW (by omega) hsa (by decide +kernel) (fun H1 locs1 hS hW => ?_)
  refine lv_aload_n hx hb (show decode (mB 52) 25 = .ok (.aload_n 0, 1) by decide +kernel) rfl (lv_at hl 0 rfl) ?_
  refine lv_bipush (v := nI 10) hx hb (show decode (mB 52) 26 = .ok (.bipush 10, 2) by decide +kernel) (by decide) ?_
  refine C_newa (t := 0) (n := 10) (i1 := 1074) F hK hS hW (hs 3 (by decide)) rfl (by decide +kernel) (show decode (mB 52) 28 = .ok (.newarray .int, 2) by decide +kernel) (by decide) (Nat.le_of_ble_eq_true rfl) (Nat.le_of_ble_eq_true rfl) (fun H1 hS hW => ?_)
  refine C_putR (ix := 22) (ci := 7) (k := 3) F hin hS hW (by omega) hsa (by decide +kernel) (fun H1 locs1 hS hW => ?_)
  exact W.vret hx hb hret (fun t ht _ => ⟨rfl, by rw [ht]; exact hW, hS.F ht⟩) hS.2.2 (show decode (mB 52) 33 = .ok (.return_, 1) by decide +kernel) hlocks
def inlR (a : Nat) (r : Rr) : Rr := uR (gridR (a + 1) r) a 0 (some (a + 1))
def shInland : List KD := [.inl 1, .inr (7, 5), .inr (0, 5), .inr (0, 5), .inr (0, 5), .inr (0, 5), .inr (0, 5)]
set_option maxRecDepth 100000 in
set_option maxHeartbeats 1000000 in
theorem k_Inland {a : Nat} {r : Rr} {g : Gi} (hs : ∀ i, i < 7 → SH (a + i) = shInland[i]?) (hz : ∀ k, r a k = none ∧ g a k = 0) : CmC 1 2 [.ref a] 6 30 (a + 1) (a + 7) r (inlR a r) g g := by
  refine CmC.of (by decide) (by decide +kernel) (by decide +kernel) (Nat.le_of_ble_eq_true rfl) ?_
  intro p l e s m args below meth c D CA B sa sv ls F hK hin hret hlocks hW hl
  have hx := F.1
  have hb := F.2.1
  have hS : va_S (AB B) s.heap s.heap [] := va_S.rf
  have hsa : SH a = some (.inl 1) := hs 0 (by decide)
  have hl : lv_has ls 1 [(0, .ref (B + a))] := hl
  refine lv_aload_n hx hb (show decode (mB 2) 0 = .ok (.aload_n 0, 1) by decide +kernel) rfl (lv_at hl 0 rfl) ?_
  refine C_obj (i1 := 2138) F hl.1 (by decide +kernel) (show decode (mB 2) 1 = .ok (.invokespecial 3, 3) by decide +kernel) (Nat.le_of_ble_eq_true rfl) (Nat.le_of_ble_eq_true rfl) ?_
  refine lv_aload_n hx hb (show decode (mB 2) 4 = .ok (.aload_n 0, 1) by decide +kernel) rfl (lv_at hl 0 rfl) ?_
  refine lv_iconst (v := 5) hx hb (show decode (mB 2) 5 = .ok (.iconst 5, 1) by decide +kernel) (by decide) ?_
  refine lv_iconst (v := 5) hx hb (show decode (mB 2) 6 = .ok (.iconst 5, 1) by decide +kernel) (by decide) ?_
  refine C_grid (i1 := 2139) (i2 := 1074) F hK hS hW (hs 1 (by decide)) (fun j hj => ?_) (by decide +kernel) (show decode (mB 2) 7 = .ok (.multianewarray 9 2, 4) by decide +kernel) (Nat.le_of_ble_eq_true rfl) (Nat.le_of_ble_eq_true rfl) (fun H1 locs1 hS hW => ?_)
  · match j, hj with
    | 0, _ => exact hs 2 (by decide)
    | 1, _ => exact hs 3 (by decide)
    | 2, _ => exact hs 4 (by decide)
    | 3, _ => exact hs 5 (by decide)
    | 4, _ => exact hs 6 (by decide)
  refine C_putR (ix := 11) (ci := 1) (k := 0) F hin hS hW (by omega) hsa (by decide +kernel) (fun H1 locs1 hS hW => ?_)
  exact W.vret hx hb hret (fun t ht _ => ⟨rfl, by rw [ht]; exact hW, hS.F ht⟩) hS.2.2 (show decode (mB 2) 14 = .ok (.return_, 1) by decide +kernel) hlocks
