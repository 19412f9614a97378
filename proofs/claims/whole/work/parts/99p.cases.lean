/-! the law's switch: all its cases (written by a program out of the listing and of the rows o_..) -/
set_option maxRecDepth 100000 in
theorem d_sw : decode (mB 255) 40 = .ok (.tableswitch 1606 0 47 #[208, 281, 306, 319, 332, 369, 406, 455, 480, 493, 518, 543, 556, 569, 582, 648, 702, 727, 781, 806, 831, 856, 893, 918, 931, 944, 957, 970, 983, 1020, 1045, 1058, 1095, 1132, 1169, 1234, 1247, 1272, 1297, 1346, 1395, 1408, 1461, 1474, 1487, 1512, 1568, 1593], 208) := by decide +kernel
set_option maxRecDepth 100000 in
theorem okc_0 : okCase 248 [(1, false), (2, false), (3, false), (4, false), (5, false)] 279 19 73 313 23 148 = true := by decide +kernel
set_option maxRecDepth 100000 in
theorem dcm_0 : decode (mB 255) (313 + 3) = .ok (.if_icmp .eq 1330, 3) := by decide +kernel
set_option maxRecDepth 100000 in
theorem okc_1 : okCase 321 [(1, false)] 328 24 74 338 27 165 = true := by decide +kernel
set_option maxRecDepth 100000 in
theorem dcm_1 : decode (mB 255) (338 + 3) = .ok (.if_icmp .eq 1305, 3) := by decide +kernel
set_option maxRecDepth 100000 in
theorem okc_2 : okCase 346 [] 347 28 75 351 32 174 = true := by decide +kernel
set_option maxRecDepth 100000 in
theorem dcm_2 : decode (mB 255) (351 + 3) = .ok (.if_icmp .eq 1292, 3) := by decide +kernel
set_option maxRecDepth 100000 in
theorem okc_3 : okCase 359 [] 360 33 76 364 36 175 = true := by decide +kernel
set_option maxRecDepth 100000 in
theorem dcm_3 : decode (mB 255) (364 + 3) = .ok (.if_icmp .eq 1279, 3) := by decide +kernel
set_option maxRecDepth 100000 in
theorem okc_4 : okCase 372 [(1, false), (2, false)] 385 37 77 401 41 181 = true := by decide +kernel
set_option maxRecDepth 100000 in
theorem dcm_4 : decode (mB 255) (401 + 3) = .ok (.if_icmp .eq 1242, 3) := by decide +kernel
set_option maxRecDepth 100000 in
theorem okc_5 : okCase 409 [(1, false), (2, false)] 422 42 78 438 45 185 = true := by decide +kernel
set_option maxRecDepth 100000 in
theorem dcm_5 : decode (mB 255) (438 + 3) = .ok (.if_icmp .eq 1205, 3) := by decide +kernel
set_option maxRecDepth 100000 in
theorem okc_6 : okCase 446 [(1, false), (2, false), (3, false)] 465 46 79 487 50 186 = true := by decide +kernel
set_option maxRecDepth 100000 in
theorem dcm_6 : decode (mB 255) (487 + 3) = .ok (.if_icmp .eq 1156, 3) := by decide +kernel
set_option maxRecDepth 100000 in
theorem okc_7 : okCase 495 [(1, false)] 502 51 80 512 54 187 = true := by decide +kernel
set_option maxRecDepth 100000 in
theorem dcm_7 : decode (mB 255) (512 + 3) = .ok (.if_icmp .eq 1131, 3) := by decide +kernel
set_option maxRecDepth 100000 in
theorem okc_8 : okCase 520 [] 521 55 81 525 58 189 = true := by decide +kernel
set_option maxRecDepth 100000 in
theorem dcm_8 : decode (mB 255) (525 + 3) = .ok (.if_icmp .eq 1118, 3) := by decide +kernel
set_option maxRecDepth 100000 in
theorem okc_9 : okCase 533 [(1, false)] 540 59 82 550 62 191 = true := by decide +kernel
set_option maxRecDepth 100000 in
theorem dcm_9 : decode (mB 255) (550 + 3) = .ok (.if_icmp .eq 1093, 3) := by decide +kernel
set_option maxRecDepth 100000 in
theorem okc_10 : okCase 558 [(1, false)] 565 63 83 575 66 193 = true := by decide +kernel
set_option maxRecDepth 100000 in
theorem dcm_10 : decode (mB 255) (575 + 3) = .ok (.if_icmp .eq 1068, 3) := by decide +kernel
set_option maxRecDepth 100000 in
theorem okc_11 : okCase 583 [] 584 67 84 588 70 194 = true := by decide +kernel
set_option maxRecDepth 100000 in
theorem dcm_11 : decode (mB 255) (588 + 3) = .ok (.if_icmp .eq 1055, 3) := by decide +kernel
set_option maxRecDepth 100000 in
theorem okc_12 : okCase 596 [] 597 71 85 601 74 195 = true := by decide +kernel
set_option maxRecDepth 100000 in
theorem dcm_12 : decode (mB 255) (601 + 3) = .ok (.if_icmp .eq 1042, 3) := by decide +kernel
set_option maxRecDepth 100000 in
theorem okc_13 : okCase 609 [] 610 75 86 614 78 197 = true := by decide +kernel
set_option maxRecDepth 100000 in
theorem dcm_13 : decode (mB 255) (614 + 3) = .ok (.if_icmp .eq 1029, 3) := by decide +kernel
set_option maxRecDepth 100000 in
theorem okc_14 : okCase 622 [(1, false), (2, false), (3, true)] 649 79 87 679 83 199 = true := by decide +kernel
set_option maxRecDepth 100000 in
theorem dcm_14 : decode (mB 255) (679 + 3) = .ok (.lcmp, 1) := by decide +kernel
set_option maxRecDepth 100000 in
theorem dci_14 : decode (mB 255) (679 + 4) = .ok (.ifCond .eq 963, 3) := by decide +kernel
set_option maxRecDepth 100000 in
theorem okc_15 : okCase 688 [(1, false), (2, true)] 709 84 88 733 88 200 = true := by decide +kernel
set_option maxRecDepth 100000 in
theorem dcm_15 : decode (mB 255) (733 + 3) = .ok (.lcmp, 1) := by decide +kernel
set_option maxRecDepth 100000 in
theorem dci_15 : decode (mB 255) (733 + 4) = .ok (.ifCond .eq 909, 3) := by decide +kernel
set_option maxRecDepth 100000 in
theorem okc_16 : okCase 742 [(1, false)] 749 89 89 759 92 201 = true := by decide +kernel
set_option maxRecDepth 100000 in
theorem dcm_16 : decode (mB 255) (759 + 3) = .ok (.if_icmp .eq 884, 3) := by decide +kernel
set_option maxRecDepth 100000 in
theorem okc_17 : okCase 767 [(1, false), (2, true)] 788 93 90 812 96 213 = true := by decide +kernel
set_option maxRecDepth 100000 in
theorem dcm_17 : decode (mB 255) (812 + 3) = .ok (.lcmp, 1) := by decide +kernel
set_option maxRecDepth 100000 in
theorem dci_17 : decode (mB 255) (812 + 4) = .ok (.ifCond .eq 830, 3) := by decide +kernel
set_option maxRecDepth 100000 in
theorem okc_18 : okCase 821 [(1, false)] 828 97 91 838 100 214 = true := by decide +kernel
set_option maxRecDepth 100000 in
theorem dcm_18 : decode (mB 255) (838 + 3) = .ok (.if_icmp .eq 805, 3) := by decide +kernel
set_option maxRecDepth 100000 in
theorem okc_19 : okCase 846 [(1, false)] 853 101 92 863 104 216 = true := by decide +kernel
set_option maxRecDepth 100000 in
theorem dcm_19 : decode (mB 255) (863 + 3) = .ok (.if_icmp .eq 780, 3) := by decide +kernel
set_option maxRecDepth 100000 in
theorem okc_20 : okCase 871 [(1, false)] 878 105 93 888 108 209 = true := by decide +kernel
set_option maxRecDepth 100000 in
theorem dcm_20 : decode (mB 255) (888 + 3) = .ok (.if_icmp .eq 755, 3) := by decide +kernel
set_option maxRecDepth 100000 in
theorem okc_21 : okCase 896 [(1, false), (2, false)] 909 109 94 925 112 211 = true := by decide +kernel
set_option maxRecDepth 100000 in
theorem dcm_21 : decode (mB 255) (925 + 3) = .ok (.if_icmp .eq 718, 3) := by decide +kernel
set_option maxRecDepth 100000 in
theorem okc_22 : okCase 933 [(1, false)] 940 113 95 950 116 212 = true := by decide +kernel
set_option maxRecDepth 100000 in
theorem dcm_22 : decode (mB 255) (950 + 3) = .ok (.if_icmp .eq 693, 3) := by decide +kernel
set_option maxRecDepth 100000 in
theorem okc_23 : okCase 958 [] 959 117 96 963 120 218 = true := by decide +kernel
set_option maxRecDepth 100000 in
theorem dcm_23 : decode (mB 255) (963 + 3) = .ok (.if_icmp .eq 680, 3) := by decide +kernel
set_option maxRecDepth 100000 in
theorem okc_24 : okCase 971 [] 972 121 97 976 124 219 = true := by decide +kernel
set_option maxRecDepth 100000 in
theorem dcm_24 : decode (mB 255) (976 + 3) = .ok (.if_icmp .eq 667, 3) := by decide +kernel
set_option maxRecDepth 100000 in
theorem okc_25 : okCase 984 [] 985 125 98 989 128 220 = true := by decide +kernel
set_option maxRecDepth 100000 in
theorem dcm_25 : decode (mB 255) (989 + 3) = .ok (.if_icmp .eq 654, 3) := by decide +kernel
set_option maxRecDepth 100000 in
theorem okc_26 : okCase 997 [] 998 129 99 1002 132 223 = true := by decide +kernel
set_option maxRecDepth 100000 in
theorem dcm_26 : decode (mB 255) (1002 + 3) = .ok (.if_icmp .eq 641, 3) := by decide +kernel
set_option maxRecDepth 100000 in
theorem okc_27 : okCase 1010 [] 1011 133 100 1015 136 224 = true := by decide +kernel
set_option maxRecDepth 100000 in
theorem dcm_27 : decode (mB 255) (1015 + 3) = .ok (.if_icmp .eq 628, 3) := by decide +kernel
set_option maxRecDepth 100000 in
theorem okc_28 : okCase 1023 [(1, false), (2, false)] 1036 137 101 1052 140 225 = true := by decide +kernel
set_option maxRecDepth 100000 in
theorem dcm_28 : decode (mB 255) (1052 + 3) = .ok (.if_icmp .eq 591, 3) := by decide +kernel
set_option maxRecDepth 100000 in
theorem okc_29 : okCase 1060 [(1, false)] 1067 141 102 1077 144 228 = true := by decide +kernel
set_option maxRecDepth 100000 in
theorem dcm_29 : decode (mB 255) (1077 + 3) = .ok (.if_icmp .eq 566, 3) := by decide +kernel
set_option maxRecDepth 100000 in
theorem okc_30 : okCase 1085 [] 1086 145 103 1090 148 230 = true := by decide +kernel
set_option maxRecDepth 100000 in
theorem dcm_30 : decode (mB 255) (1090 + 3) = .ok (.if_icmp .eq 553, 3) := by decide +kernel
set_option maxRecDepth 100000 in
theorem okc_31 : okCase 1098 [(1, false), (2, false)] 1111 149 104 1127 152 229 = true := by decide +kernel
set_option maxRecDepth 100000 in
theorem dcm_31 : decode (mB 255) (1127 + 3) = .ok (.if_icmp .eq 516, 3) := by decide +kernel
set_option maxRecDepth 100000 in
theorem okc_32 : okCase 1135 [(1, false), (2, false)] 1148 153 105 1164 156 232 = true := by decide +kernel
set_option maxRecDepth 100000 in
theorem dcm_32 : decode (mB 255) (1164 + 3) = .ok (.if_icmp .eq 479, 3) := by decide +kernel
set_option maxRecDepth 100000 in
theorem okc_33 : okCase 1172 [(1, false), (2, false)] 1185 157 106 1201 160 233 = true := by decide +kernel
set_option maxRecDepth 100000 in
theorem dcm_33 : decode (mB 255) (1201 + 3) = .ok (.if_icmp .eq 442, 3) := by decide +kernel
set_option maxRecDepth 100000 in
theorem okc_34 : okCase 1209 [(1, false), (2, false), (3, true)] 1236 161 107 1266 165 235 = true := by decide +kernel
set_option maxRecDepth 100000 in
theorem dcm_34 : decode (mB 255) (1266 + 3) = .ok (.if_icmp .eq 377, 3) := by decide +kernel
set_option maxRecDepth 100000 in
theorem okc_35 : okCase 1274 [] 1275 166 108 1279 169 238 = true := by decide +kernel
set_option maxRecDepth 100000 in
theorem dcm_35 : decode (mB 255) (1279 + 3) = .ok (.if_icmp .eq 364, 3) := by decide +kernel
set_option maxRecDepth 100000 in
theorem okc_36 : okCase 1287 [(1, false)] 1294 170 109 1304 173 239 = true := by decide +kernel
set_option maxRecDepth 100000 in
theorem dcm_36 : decode (mB 255) (1304 + 3) = .ok (.if_icmp .eq 339, 3) := by decide +kernel
set_option maxRecDepth 100000 in
theorem okc_37 : okCase 1312 [(1, false)] 1319 174 110 1329 177 241 = true := by decide +kernel
set_option maxRecDepth 100000 in
theorem dcm_37 : decode (mB 255) (1329 + 3) = .ok (.if_icmp .eq 314, 3) := by decide +kernel
set_option maxRecDepth 100000 in
theorem okc_38 : okCase 1337 [(1, false), (2, false), (3, false)] 1356 178 111 1378 181 242 = true := by decide +kernel
set_option maxRecDepth 100000 in
theorem dcm_38 : decode (mB 255) (1378 + 3) = .ok (.if_icmp .eq 265, 3) := by decide +kernel
set_option maxRecDepth 100000 in
theorem okc_39 : okCase 1386 [(1, false), (2, false), (3, false)] 1405 182 112 1427 185 244 = true := by decide +kernel
set_option maxRecDepth 100000 in
theorem dcm_39 : decode (mB 255) (1427 + 3) = .ok (.if_icmp .eq 216, 3) := by decide +kernel
set_option maxRecDepth 100000 in
theorem okc_40 : okCase 1435 [] 1436 186 113 1440 189 245 = true := by decide +kernel
set_option maxRecDepth 100000 in
theorem dcm_40 : decode (mB 255) (1440 + 3) = .ok (.if_icmp .eq 203, 3) := by decide +kernel
set_option maxRecDepth 100000 in
theorem okc_41 : okCase 1448 [(1, false), (2, true)] 1469 190 114 1493 194 246 = true := by decide +kernel
set_option maxRecDepth 100000 in
theorem dcm_41 : decode (mB 255) (1493 + 3) = .ok (.if_icmp .eq 150, 3) := by decide +kernel
set_option maxRecDepth 100000 in
theorem okc_42 : okCase 1501 [] 1502 195 115 1506 199 247 = true := by decide +kernel
set_option maxRecDepth 100000 in
theorem dcm_42 : decode (mB 255) (1506 + 3) = .ok (.if_icmp .eq 137, 3) := by decide +kernel
set_option maxRecDepth 100000 in
theorem okc_43 : okCase 1514 [] 1515 200 116 1519 203 248 = true := by decide +kernel
set_option maxRecDepth 100000 in
theorem dcm_43 : decode (mB 255) (1519 + 3) = .ok (.if_icmp .eq 124, 3) := by decide +kernel
set_option maxRecDepth 100000 in
theorem okc_44 : okCase 1527 [(1, false)] 1534 204 117 1544 208 249 = true := by decide +kernel
set_option maxRecDepth 100000 in
theorem dcm_44 : decode (mB 255) (1544 + 3) = .ok (.if_icmp .eq 99, 3) := by decide +kernel
set_option maxRecDepth 100000 in
theorem okc_46 : okCase 1608 [(1, false)] 1615 218 119 1625 221 252 = true := by decide +kernel
set_option maxRecDepth 100000 in
theorem dcm_46 : decode (mB 255) (1625 + 3) = .ok (.if_icmp .eq 18, 3) := by decide +kernel
set_option maxRecDepth 100000 in
theorem okc_47 : okCase 1633 [] 1634 222 120 1638 225 253 = true := by decide +kernel
set_option maxRecDepth 100000 in
theorem dcm_47 : decode (mB 255) (1638 + 3) = .ok (.if_icmp .eq 5, 3) := by decide +kernel
section
variable {p : Program} {l : Launch} {e : Env} {s : State} {m : MethodId} {below : List Frame} {meth : Method} {c : Code} {D : va_G} {CA : Nat → ClassId} {B : Nat} {sa sv : Nat → Nat} {H : Heap} {locs : List Loc} {ls : Array Slot} {cells slots : Nat} {Qw : State → Prop} {r : Rr} {g : Gi} {j : Gl} {n b L i : Nat} {xs : Nat → Int32}
/-- where a call of the script leaves the law: at the loop's step, the world alike still -/
def KK (p : Program) (l : Launch) (e : Env) (s : State) (m : MethodId) (below : List Frame) (meth : Method) (c : Code) (D : va_G) (CA : Nat → ClassId) (B cells slots : Nat) (Qw : State → Prop) (n b i : Nat) : Prop := ∀ (r' : Rr) (g' : Gi) (j' : Gl) (H1 : Heap) (locs1 : List Loc) (ls1 : Array Slot), J (n + 1) r' g' → va_S (AB B) s.heap H1 locs1 → Wd D CA B r' g' j' H1 → lv_has ls1 7 (lvL b B i) → W p l e room_1 s m #[Value.ref b] below meth c H1 locs1 (cells + 1) (slots + 6) Qw (F0 m 1646 ls1 [])
theorem L_in {k : Nat} {off : Int} {tgt : Nat} (C : LC p s m c b L xs D CA B sa sv) (hk : k < 48) (ho : (#[208, 281, 306, 319, 332, 369, 406, 455, 480, 493, 518, 543, 556, 569, 582, 648, 702, 727, 781, 806, 831, 856, 893, 918, 931, 944, 957, 970, 983, 1020, 1045, 1058, 1095, 1132, 1169, 1234, 1247, 1272, 1297, 1346, 1395, 1408, 1461, 1474, 1487, 1512, 1568, 1593] : Array Int)[k]? = some off) (ht : ((40 : Nat) : Int) + off = (tgt : Int)) (kk : W p l e room_1 s m #[Value.ref b] below meth c H locs cells slots Qw (F0 m tgt ls [])) : W p l e room_1 s m #[Value.ref b] below meth c H locs cells slots Qw (F0 m 40 ls [.int (nI k)]) := by
  have h1 : (nI k).toInt = (k : Int) := nI_toInt (by omega)
  refine lv_tableIn C.1.1 C.1.2.1 d_sw (by rw [h1]; omega) (by rw [h1]; omega) (off := off) ?_ ht kk
  rw [h1]
  have : ((k : Int) - 0).toNat = k := by omega
  rw [this]
  exact ho
theorem L_0 (C : LC p s m c b L xs D CA B sa sv) (hS : va_S (AB B) s.heap H locs) (hW : Wd D CA B r g j H) (hl : lv_has ls 7 (lvL b B i)) (hi : i + 6 ≤ L) (hn : n + 1 ≤ 512) (hJ : J n r g) (hc : cells + 1 ≤ room_1.cells ∧ slots + 6 ≤ room_1.slots) (kk : KK p l e s m below meth c D CA B cells slots Qw n b i) : W p l e room_1 s m #[Value.ref b] below meth c H locs cells slots Qw (F0 m 40 ls [.int (nI 0)]) := by
  refine L_in C (k := 0) (off := 208) (tgt := 248) (by decide) rfl (by decide) ?_
  refine W.widen (k := cells + 1) (n := slots + 6) (Nat.le_add_right _ _) (Nat.le_add_right _ _) ?_
  exact L_casei C hS hW hl hi (d := 1) ⟨by decide, by decide⟩ hc okc_0 dcm_0 (by decide) (o_feed (d := 0) hn hJ (xs (i + 1)) (xs (i + 2)) (xs (i + 3)) (xs (i + 4)) (xs (i + 5))) (fun r' g' j' H1 locs1 q1 q2 q3 => kk r' g' j' H1 locs1 ls q1 q2 q3 hl)
theorem L_1 (C : LC p s m c b L xs D CA B sa sv) (hS : va_S (AB B) s.heap H locs) (hW : Wd D CA B r g j H) (hl : lv_has ls 7 (lvL b B i)) (hi : i + 6 ≤ L) (hn : n + 1 ≤ 512) (hJ : J n r g) (hc : cells + 1 ≤ room_1.cells ∧ slots + 6 ≤ room_1.slots) (kk : KK p l e s m below meth c D CA B cells slots Qw n b i) : W p l e room_1 s m #[Value.ref b] below meth c H locs cells slots Qw (F0 m 40 ls [.int (nI 1)]) := by
  refine L_in C (k := 1) (off := 281) (tgt := 321) (by decide) rfl (by decide) ?_
  refine W.widen (k := cells + 1) (n := slots + 6) (Nat.le_add_right _ _) (Nat.le_add_right _ _) ?_
  exact L_casei C hS hW hl hi (d := 12) ⟨by decide, by decide⟩ hc okc_1 dcm_1 (by decide) (o_port (d := 0) hn hJ (xs (i + 1))) (fun r' g' j' H1 locs1 q1 q2 q3 => kk r' g' j' H1 locs1 ls q1 q2 q3 hl)
theorem L_2 (C : LC p s m c b L xs D CA B sa sv) (hS : va_S (AB B) s.heap H locs) (hW : Wd D CA B r g j H) (hl : lv_has ls 7 (lvL b B i)) (hi : i + 6 ≤ L) (hn : n + 1 ≤ 512) (hJ : J n r g) (hc : cells + 1 ≤ room_1.cells ∧ slots + 6 ≤ room_1.slots) (kk : KK p l e s m below meth c D CA B cells slots Qw n b i) : W p l e room_1 s m #[Value.ref b] below meth c H locs cells slots Qw (F0 m 40 ls [.int (nI 2)]) := by
  refine L_in C (k := 2) (off := 306) (tgt := 346) (by decide) rfl (by decide) ?_
  refine W.widen (k := cells + 1) (n := slots + 6) (Nat.le_add_right _ _) (Nat.le_add_right _ _) ?_
  exact L_casei C hS hW hl hi (d := 0) ⟨by decide, by decide⟩ hc okc_2 dcm_2 (by decide) (o_fault (d := 0) hn hJ ) (fun r' g' j' H1 locs1 q1 q2 q3 => kk r' g' j' H1 locs1 ls q1 q2 q3 hl)
theorem L_3 (C : LC p s m c b L xs D CA B sa sv) (hS : va_S (AB B) s.heap H locs) (hW : Wd D CA B r g j H) (hl : lv_has ls 7 (lvL b B i)) (hi : i + 6 ≤ L) (hn : n + 1 ≤ 512) (hJ : J n r g) (hc : cells + 1 ≤ room_1.cells ∧ slots + 6 ≤ room_1.slots) (kk : KK p l e s m below meth c D CA B cells slots Qw n b i) : W p l e room_1 s m #[Value.ref b] below meth c H locs cells slots Qw (F0 m 40 ls [.int (nI 3)]) := by
  refine L_in C (k := 3) (off := 319) (tgt := 359) (by decide) rfl (by decide) ?_
  refine W.widen (k := cells + 1) (n := slots + 6) (Nat.le_add_right _ _) (Nat.le_add_right _ _) ?_
  exact L_casei C hS hW hl hi (d := 0) ⟨by decide, by decide⟩ hc okc_3 dcm_3 (by decide) (o_where (d := 0) hn hJ ) (fun r' g' j' H1 locs1 q1 q2 q3 => kk r' g' j' H1 locs1 ls q1 q2 q3 hl)
theorem L_4 (C : LC p s m c b L xs D CA B sa sv) (hS : va_S (AB B) s.heap H locs) (hW : Wd D CA B r g j H) (hl : lv_has ls 7 (lvL b B i)) (hi : i + 6 ≤ L) (hn : n + 1 ≤ 512) (hJ : J n r g) (hc : cells + 1 ≤ room_1.cells ∧ slots + 6 ≤ room_1.slots) (kk : KK p l e s m below meth c D CA B cells slots Qw n b i) : W p l e room_1 s m #[Value.ref b] below meth c H locs cells slots Qw (F0 m 40 ls [.int (nI 4)]) := by
  refine L_in C (k := 4) (off := 332) (tgt := 372) (by decide) rfl (by decide) ?_
  refine W.widen (k := cells + 1) (n := slots + 6) (Nat.le_add_right _ _) (Nat.le_add_right _ _) ?_
  exact L_casei C hS hW hl hi (d := 3) ⟨by decide, by decide⟩ hc okc_4 dcm_4 (by decide) (o_crate (d := 0) hn hJ (xs (i + 1)) (xs (i + 2))) (fun r' g' j' H1 locs1 q1 q2 q3 => kk r' g' j' H1 locs1 ls q1 q2 q3 hl)
theorem L_5 (C : LC p s m c b L xs D CA B sa sv) (hS : va_S (AB B) s.heap H locs) (hW : Wd D CA B r g j H) (hl : lv_has ls 7 (lvL b B i)) (hi : i + 6 ≤ L) (hn : n + 1 ≤ 512) (hJ : J n r g) (hc : cells + 1 ≤ room_1.cells ∧ slots + 6 ≤ room_1.slots) (kk : KK p l e s m below meth c D CA B cells slots Qw n b i) : W p l e room_1 s m #[Value.ref b] below meth c H locs cells slots Qw (F0 m 40 ls [.int (nI 5)]) := by
  refine L_in C (k := 5) (off := 369) (tgt := 409) (by decide) rfl (by decide) ?_
  refine W.widen (k := cells + 1) (n := slots + 6) (Nat.le_add_right _ _) (Nat.le_add_right _ _) ?_
  exact L_casei C hS hW hl hi (d := 3) ⟨by decide, by decide⟩ hc okc_5 dcm_5 (by decide) (o_high (d := 0) hn hJ (xs (i + 1)) (xs (i + 2))) (fun r' g' j' H1 locs1 q1 q2 q3 => kk r' g' j' H1 locs1 ls q1 q2 q3 hl)
theorem L_6 (C : LC p s m c b L xs D CA B sa sv) (hS : va_S (AB B) s.heap H locs) (hW : Wd D CA B r g j H) (hl : lv_has ls 7 (lvL b B i)) (hi : i + 6 ≤ L) (hn : n + 1 ≤ 512) (hJ : J n r g) (hc : cells + 1 ≤ room_1.cells ∧ slots + 6 ≤ room_1.slots) (kk : KK p l e s m below meth c D CA B cells slots Qw n b i) : W p l e room_1 s m #[Value.ref b] below meth c H locs cells slots Qw (F0 m 40 ls [.int (nI 6)]) := by
  refine L_in C (k := 6) (off := 406) (tgt := 446) (by decide) rfl (by decide) ?_
  refine W.widen (k := cells + 1) (n := slots + 6) (Nat.le_add_right _ _) (Nat.le_add_right _ _) ?_
  exact L_casei C hS hW hl hi (d := 3) ⟨by decide, by decide⟩ hc okc_6 dcm_6 (by decide) (o_lies (d := 0) hn hJ (xs (i + 1)) (xs (i + 2)) (xs (i + 3))) (fun r' g' j' H1 locs1 q1 q2 q3 => kk r' g' j' H1 locs1 ls q1 q2 q3 hl)
theorem L_7 (C : LC p s m c b L xs D CA B sa sv) (hS : va_S (AB B) s.heap H locs) (hW : Wd D CA B r g j H) (hl : lv_has ls 7 (lvL b B i)) (hi : i + 6 ≤ L) (hn : n + 1 ≤ 512) (hJ : J n r g) (hc : cells + 1 ≤ room_1.cells ∧ slots + 6 ≤ room_1.slots) (kk : KK p l e s m below meth c D CA B cells slots Qw n b i) : W p l e room_1 s m #[Value.ref b] below meth c H locs cells slots Qw (F0 m 40 ls [.int (nI 7)]) := by
  refine L_in C (k := 7) (off := 455) (tgt := 495) (by decide) rfl (by decide) ?_
  refine W.widen (k := cells + 1) (n := slots + 6) (Nat.le_add_right _ _) (Nat.le_add_right _ _) ?_
  exact L_casei C hS hW hl hi (d := 3) ⟨by decide, by decide⟩ hc okc_7 dcm_7 (by decide) (o_quay (d := 0) hn hJ (xs (i + 1))) (fun r' g' j' H1 locs1 q1 q2 q3 => kk r' g' j' H1 locs1 ls q1 q2 q3 hl)
theorem L_8 (C : LC p s m c b L xs D CA B sa sv) (hS : va_S (AB B) s.heap H locs) (hW : Wd D CA B r g j H) (hl : lv_has ls 7 (lvL b B i)) (hi : i + 6 ≤ L) (hn : n + 1 ≤ 512) (hJ : J n r g) (hc : cells + 1 ≤ room_1.cells ∧ slots + 6 ≤ room_1.slots) (kk : KK p l e s m below meth c D CA B cells slots Qw n b i) : W p l e room_1 s m #[Value.ref b] below meth c H locs cells slots Qw (F0 m 40 ls [.int (nI 8)]) := by
  refine L_in C (k := 8) (off := 480) (tgt := 520) (by decide) rfl (by decide) ?_
  refine W.widen (k := cells + 1) (n := slots + 6) (Nat.le_add_right _ _) (Nat.le_add_right _ _) ?_
  exact L_casei C hS hW hl hi (d := 3) ⟨by decide, by decide⟩ hc okc_8 dcm_8 (by decide) (o_next (d := 0) hn hJ ) (fun r' g' j' H1 locs1 q1 q2 q3 => kk r' g' j' H1 locs1 ls q1 q2 q3 hl)
theorem L_9 (C : LC p s m c b L xs D CA B sa sv) (hS : va_S (AB B) s.heap H locs) (hW : Wd D CA B r g j H) (hl : lv_has ls 7 (lvL b B i)) (hi : i + 6 ≤ L) (hn : n + 1 ≤ 512) (hJ : J n r g) (hc : cells + 1 ≤ room_1.cells ∧ slots + 6 ≤ room_1.slots) (kk : KK p l e s m below meth c D CA B cells slots Qw n b i) : W p l e room_1 s m #[Value.ref b] below meth c H locs cells slots Qw (F0 m 40 ls [.int (nI 9)]) := by
  refine L_in C (k := 9) (off := 493) (tgt := 533) (by decide) rfl (by decide) ?_
  refine W.widen (k := cells + 1) (n := slots + 6) (Nat.le_add_right _ _) (Nat.le_add_right _ _) ?_
  exact L_casei C hS hW hl hi (d := 3) ⟨by decide, by decide⟩ hc okc_9 dcm_9 (by decide) (o_had (d := 0) hn hJ (xs (i + 1))) (fun r' g' j' H1 locs1 q1 q2 q3 => kk r' g' j' H1 locs1 ls q1 q2 q3 hl)
theorem L_10 (C : LC p s m c b L xs D CA B sa sv) (hS : va_S (AB B) s.heap H locs) (hW : Wd D CA B r g j H) (hl : lv_has ls 7 (lvL b B i)) (hi : i + 6 ≤ L) (hn : n + 1 ≤ 512) (hJ : J n r g) (hc : cells + 1 ≤ room_1.cells ∧ slots + 6 ≤ room_1.slots) (kk : KK p l e s m below meth c D CA B cells slots Qw n b i) : W p l e room_1 s m #[Value.ref b] below meth c H locs cells slots Qw (F0 m 40 ls [.int (nI 10)]) := by
  refine L_in C (k := 10) (off := 518) (tgt := 558) (by decide) rfl (by decide) ?_
  refine W.widen (k := cells + 1) (n := slots + 6) (Nat.le_add_right _ _) (Nat.le_add_right _ _) ?_
  exact L_casei C hS hW hl hi (d := 3) ⟨by decide, by decide⟩ hc okc_10 dcm_10 (by decide) (o_hadOn (d := 0) hn hJ (xs (i + 1))) (fun r' g' j' H1 locs1 q1 q2 q3 => kk r' g' j' H1 locs1 ls q1 q2 q3 hl)
theorem L_11 (C : LC p s m c b L xs D CA B sa sv) (hS : va_S (AB B) s.heap H locs) (hW : Wd D CA B r g j H) (hl : lv_has ls 7 (lvL b B i)) (hi : i + 6 ≤ L) (hn : n + 1 ≤ 512) (hJ : J n r g) (hc : cells + 1 ≤ room_1.cells ∧ slots + 6 ≤ room_1.slots) (kk : KK p l e s m below meth c D CA B cells slots Qw n b i) : W p l e room_1 s m #[Value.ref b] below meth c H locs cells slots Qw (F0 m 40 ls [.int (nI 11)]) := by
  refine L_in C (k := 11) (off := 543) (tgt := 583) (by decide) rfl (by decide) ?_
  refine W.widen (k := cells + 1) (n := slots + 6) (Nat.le_add_right _ _) (Nat.le_add_right _ _) ?_
  exact L_casei C hS hW hl hi (d := 3) ⟨by decide, by decide⟩ hc okc_11 dcm_11 (by decide) (o_missing (d := 0) hn hJ ) (fun r' g' j' H1 locs1 q1 q2 q3 => kk r' g' j' H1 locs1 ls q1 q2 q3 hl)
theorem L_12 (C : LC p s m c b L xs D CA B sa sv) (hS : va_S (AB B) s.heap H locs) (hW : Wd D CA B r g j H) (hl : lv_has ls 7 (lvL b B i)) (hi : i + 6 ≤ L) (hn : n + 1 ≤ 512) (hJ : J n r g) (hc : cells + 1 ≤ room_1.cells ∧ slots + 6 ≤ room_1.slots) (kk : KK p l e s m below meth c D CA B cells slots Qw n b i) : W p l e room_1 s m #[Value.ref b] below meth c H locs cells slots Qw (F0 m 40 ls [.int (nI 12)]) := by
  refine L_in C (k := 12) (off := 556) (tgt := 596) (by decide) rfl (by decide) ?_
  refine W.widen (k := cells + 1) (n := slots + 6) (Nat.le_add_right _ _) (Nat.le_add_right _ _) ?_
  exact L_casei C hS hW hl hi (d := 3) ⟨by decide, by decide⟩ hc okc_12 dcm_12 (by decide) (o_evenings (d := 0) hn hJ ) (fun r' g' j' H1 locs1 q1 q2 q3 => kk r' g' j' H1 locs1 ls q1 q2 q3 hl)
theorem L_13 (C : LC p s m c b L xs D CA B sa sv) (hS : va_S (AB B) s.heap H locs) (hW : Wd D CA B r g j H) (hl : lv_has ls 7 (lvL b B i)) (hi : i + 6 ≤ L) (hn : n + 1 ≤ 512) (hJ : J n r g) (hc : cells + 1 ≤ room_1.cells ∧ slots + 6 ≤ room_1.slots) (kk : KK p l e s m below meth c D CA B cells slots Qw n b i) : W p l e room_1 s m #[Value.ref b] below meth c H locs cells slots Qw (F0 m 40 ls [.int (nI 13)]) := by
  refine L_in C (k := 13) (off := 569) (tgt := 609) (by decide) rfl (by decide) ?_
  refine W.widen (k := cells + 1) (n := slots + 6) (Nat.le_add_right _ _) (Nat.le_add_right _ _) ?_
  exact L_casei C hS hW hl hi (d := 3) ⟨by decide, by decide⟩ hc okc_13 dcm_13 (by decide) (o_judge (d := 0) hn hJ ) (fun r' g' j' H1 locs1 q1 q2 q3 => kk r' g' j' H1 locs1 ls q1 q2 q3 hl)
theorem L_14 (C : LC p s m c b L xs D CA B sa sv) (hS : va_S (AB B) s.heap H locs) (hW : Wd D CA B r g j H) (hl : lv_has ls 7 (lvL b B i)) (hi : i + 6 ≤ L) (hn : n + 1 ≤ 512) (hJ : J n r g) (hc : cells + 1 ≤ room_1.cells ∧ slots + 6 ≤ room_1.slots) (kk : KK p l e s m below meth c D CA B cells slots Qw n b i) : W p l e room_1 s m #[Value.ref b] below meth c H locs cells slots Qw (F0 m 40 ls [.int (nI 14)]) := by
  refine L_in C (k := 14) (off := 582) (tgt := 622) (by decide) rfl (by decide) ?_
  refine W.widen (k := cells + 1) (n := slots + 6) (Nat.le_add_right _ _) (Nat.le_add_right _ _) ?_
  exact L_casel C hS hW hl hi (d := 3) ⟨by decide, by decide⟩ hc okc_14 dcm_14 dci_14 (by decide) (o_come (d := 0) hn hJ (xs (i + 1)) (xs (i + 2)) (bo (xs (i + 3)))) (fun r' g' j' H1 locs1 q1 q2 q3 => kk r' g' j' H1 locs1 ls q1 q2 q3 hl)
theorem L_15 (C : LC p s m c b L xs D CA B sa sv) (hS : va_S (AB B) s.heap H locs) (hW : Wd D CA B r g j H) (hl : lv_has ls 7 (lvL b B i)) (hi : i + 6 ≤ L) (hn : n + 1 ≤ 512) (hJ : J n r g) (hc : cells + 1 ≤ room_1.cells ∧ slots + 6 ≤ room_1.slots) (kk : KK p l e s m below meth c D CA B cells slots Qw n b i) : W p l e room_1 s m #[Value.ref b] below meth c H locs cells slots Qw (F0 m 40 ls [.int (nI 15)]) := by
  refine L_in C (k := 15) (off := 648) (tgt := 688) (by decide) rfl (by decide) ?_
  refine W.widen (k := cells + 1) (n := slots + 6) (Nat.le_add_right _ _) (Nat.le_add_right _ _) ?_
  exact L_casel C hS hW hl hi (d := 3) ⟨by decide, by decide⟩ hc okc_15 dcm_15 dci_15 (by decide) (o_allCome (d := 0) hn hJ (xs (i + 1)) (bo (xs (i + 2)))) (fun r' g' j' H1 locs1 q1 q2 q3 => kk r' g' j' H1 locs1 ls q1 q2 q3 hl)
theorem L_16 (C : LC p s m c b L xs D CA B sa sv) (hS : va_S (AB B) s.heap H locs) (hW : Wd D CA B r g j H) (hl : lv_has ls 7 (lvL b B i)) (hi : i + 6 ≤ L) (hn : n + 1 ≤ 512) (hJ : J n r g) (hc : cells + 1 ≤ room_1.cells ∧ slots + 6 ≤ room_1.slots) (kk : KK p l e s m below meth c D CA B cells slots Qw n b i) : W p l e room_1 s m #[Value.ref b] below meth c H locs cells slots Qw (F0 m 40 ls [.int (nI 16)]) := by
  refine L_in C (k := 16) (off := 702) (tgt := 742) (by decide) rfl (by decide) ?_
  refine W.widen (k := cells + 1) (n := slots + 6) (Nat.le_add_right _ _) (Nat.le_add_right _ _) ?_
  exact L_casei C hS hW hl hi (d := 3) ⟨by decide, by decide⟩ hc okc_16 dcm_16 (by decide) (o_sure (d := 0) hn hJ (xs (i + 1))) (fun r' g' j' H1 locs1 q1 q2 q3 => kk r' g' j' H1 locs1 ls q1 q2 q3 hl)
theorem L_17 (C : LC p s m c b L xs D CA B sa sv) (hS : va_S (AB B) s.heap H locs) (hW : Wd D CA B r g j H) (hl : lv_has ls 7 (lvL b B i)) (hi : i + 6 ≤ L) (hn : n + 1 ≤ 512) (hJ : J n r g) (hc : cells + 1 ≤ room_1.cells ∧ slots + 6 ≤ room_1.slots) (kk : KK p l e s m below meth c D CA B cells slots Qw n b i) : W p l e room_1 s m #[Value.ref b] below meth c H locs cells slots Qw (F0 m 40 ls [.int (nI 17)]) := by
  refine L_in C (k := 17) (off := 727) (tgt := 767) (by decide) rfl (by decide) ?_
  refine W.widen (k := cells + 1) (n := slots + 6) (Nat.le_add_right _ _) (Nat.le_add_right _ _) ?_
  exact L_casel C hS hW hl hi (d := 3) ⟨by decide, by decide⟩ hc okc_17 dcm_17 dci_17 (by decide) (o_mean (d := 0) hn hJ (xs (i + 1)) (bo (xs (i + 2)))) (fun r' g' j' H1 locs1 q1 q2 q3 => kk r' g' j' H1 locs1 ls q1 q2 q3 hl)
theorem L_18 (C : LC p s m c b L xs D CA B sa sv) (hS : va_S (AB B) s.heap H locs) (hW : Wd D CA B r g j H) (hl : lv_has ls 7 (lvL b B i)) (hi : i + 6 ≤ L) (hn : n + 1 ≤ 512) (hJ : J n r g) (hc : cells + 1 ≤ room_1.cells ∧ slots + 6 ≤ room_1.slots) (kk : KK p l e s m below meth c D CA B cells slots Qw n b i) : W p l e room_1 s m #[Value.ref b] below meth c H locs cells slots Qw (F0 m 40 ls [.int (nI 18)]) := by
  refine L_in C (k := 18) (off := 781) (tgt := 821) (by decide) rfl (by decide) ?_
  refine W.widen (k := cells + 1) (n := slots + 6) (Nat.le_add_right _ _) (Nat.le_add_right _ _) ?_
  exact L_casei C hS hW hl hi (d := 3) ⟨by decide, by decide⟩ hc okc_18 dcm_18 (by decide) (o_weight (d := 0) hn hJ (xs (i + 1))) (fun r' g' j' H1 locs1 q1 q2 q3 => kk r' g' j' H1 locs1 ls q1 q2 q3 hl)
theorem L_19 (C : LC p s m c b L xs D CA B sa sv) (hS : va_S (AB B) s.heap H locs) (hW : Wd D CA B r g j H) (hl : lv_has ls 7 (lvL b B i)) (hi : i + 6 ≤ L) (hn : n + 1 ≤ 512) (hJ : J n r g) (hc : cells + 1 ≤ room_1.cells ∧ slots + 6 ≤ room_1.slots) (kk : KK p l e s m below meth c D CA B cells slots Qw n b i) : W p l e room_1 s m #[Value.ref b] below meth c H locs cells slots Qw (F0 m 40 ls [.int (nI 19)]) := by
  refine L_in C (k := 19) (off := 806) (tgt := 846) (by decide) rfl (by decide) ?_
  refine W.widen (k := cells + 1) (n := slots + 6) (Nat.le_add_right _ _) (Nat.le_add_right _ _) ?_
  exact L_casei C hS hW hl hi (d := 3) ⟨by decide, by decide⟩ hc okc_19 dcm_19 (by decide) (o_heaviest (d := 0) hn hJ (xs (i + 1))) (fun r' g' j' H1 locs1 q1 q2 q3 => kk r' g' j' H1 locs1 ls q1 q2 q3 hl)
theorem L_20 (C : LC p s m c b L xs D CA B sa sv) (hS : va_S (AB B) s.heap H locs) (hW : Wd D CA B r g j H) (hl : lv_has ls 7 (lvL b B i)) (hi : i + 6 ≤ L) (hn : n + 1 ≤ 512) (hJ : J n r g) (hc : cells + 1 ≤ room_1.cells ∧ slots + 6 ≤ room_1.slots) (kk : KK p l e s m below meth c D CA B cells slots Qw n b i) : W p l e room_1 s m #[Value.ref b] below meth c H locs cells slots Qw (F0 m 40 ls [.int (nI 20)]) := by
  refine L_in C (k := 20) (off := 831) (tgt := 871) (by decide) rfl (by decide) ?_
  refine W.widen (k := cells + 1) (n := slots + 6) (Nat.le_add_right _ _) (Nat.le_add_right _ _) ?_
  exact L_casei C hS hW hl hi (d := 64) ⟨by decide, by decide⟩ hc okc_20 dcm_20 (by decide) (o_fewest (d := 0) hn hJ (xs (i + 1))) (fun r' g' j' H1 locs1 q1 q2 q3 => kk r' g' j' H1 locs1 ls q1 q2 q3 hl)
theorem L_21 (C : LC p s m c b L xs D CA B sa sv) (hS : va_S (AB B) s.heap H locs) (hW : Wd D CA B r g j H) (hl : lv_has ls 7 (lvL b B i)) (hi : i + 6 ≤ L) (hn : n + 1 ≤ 512) (hJ : J n r g) (hc : cells + 1 ≤ room_1.cells ∧ slots + 6 ≤ room_1.slots) (kk : KK p l e s m below meth c D CA B cells slots Qw n b i) : W p l e room_1 s m #[Value.ref b] below meth c H locs cells slots Qw (F0 m 40 ls [.int (nI 21)]) := by
  refine L_in C (k := 21) (off := 856) (tgt := 896) (by decide) rfl (by decide) ?_
  refine W.widen (k := cells + 1) (n := slots + 6) (Nat.le_add_right _ _) (Nat.le_add_right _ _) ?_
  exact L_casei C hS hW hl hi (d := 64) ⟨by decide, by decide⟩ hc okc_21 dcm_21 (by decide) (o_liftAt (d := 0) hn hJ (xs (i + 1)) (xs (i + 2))) (fun r' g' j' H1 locs1 q1 q2 q3 => kk r' g' j' H1 locs1 ls q1 q2 q3 hl)
theorem L_22 (C : LC p s m c b L xs D CA B sa sv) (hS : va_S (AB B) s.heap H locs) (hW : Wd D CA B r g j H) (hl : lv_has ls 7 (lvL b B i)) (hi : i + 6 ≤ L) (hn : n + 1 ≤ 512) (hJ : J n r g) (hc : cells + 1 ≤ room_1.cells ∧ slots + 6 ≤ room_1.slots) (kk : KK p l e s m below meth c D CA B cells slots Qw n b i) : W p l e room_1 s m #[Value.ref b] below meth c H locs cells slots Qw (F0 m 40 ls [.int (nI 22)]) := by
  refine L_in C (k := 22) (off := 893) (tgt := 933) (by decide) rfl (by decide) ?_
  refine W.widen (k := cells + 1) (n := slots + 6) (Nat.le_add_right _ _) (Nat.le_add_right _ _) ?_
  exact L_casei C hS hW hl hi (d := 3) ⟨by decide, by decide⟩ hc okc_22 dcm_22 (by decide) (o_wrongly (d := 0) hn hJ (xs (i + 1))) (fun r' g' j' H1 locs1 q1 q2 q3 => kk r' g' j' H1 locs1 ls q1 q2 q3 hl)
theorem L_23 (C : LC p s m c b L xs D CA B sa sv) (hS : va_S (AB B) s.heap H locs) (hW : Wd D CA B r g j H) (hl : lv_has ls 7 (lvL b B i)) (hi : i + 6 ≤ L) (hn : n + 1 ≤ 512) (hJ : J n r g) (hc : cells + 1 ≤ room_1.cells ∧ slots + 6 ≤ room_1.slots) (kk : KK p l e s m below meth c D CA B cells slots Qw n b i) : W p l e room_1 s m #[Value.ref b] below meth c H locs cells slots Qw (F0 m 40 ls [.int (nI 23)]) := by
  refine L_in C (k := 23) (off := 918) (tgt := 958) (by decide) rfl (by decide) ?_
  refine W.widen (k := cells + 1) (n := slots + 6) (Nat.le_add_right _ _) (Nat.le_add_right _ _) ?_
  exact L_casei C hS hW hl hi (d := 3) ⟨by decide, by decide⟩ hc okc_23 dcm_23 (by decide) (o_fits (d := 0) hn hJ ) (fun r' g' j' H1 locs1 q1 q2 q3 => kk r' g' j' H1 locs1 ls q1 q2 q3 hl)
theorem L_24 (C : LC p s m c b L xs D CA B sa sv) (hS : va_S (AB B) s.heap H locs) (hW : Wd D CA B r g j H) (hl : lv_has ls 7 (lvL b B i)) (hi : i + 6 ≤ L) (hn : n + 1 ≤ 512) (hJ : J n r g) (hc : cells + 1 ≤ room_1.cells ∧ slots + 6 ≤ room_1.slots) (kk : KK p l e s m below meth c D CA B cells slots Qw n b i) : W p l e room_1 s m #[Value.ref b] below meth c H locs cells slots Qw (F0 m 40 ls [.int (nI 24)]) := by
  refine L_in C (k := 24) (off := 931) (tgt := 971) (by decide) rfl (by decide) ?_
  refine W.widen (k := cells + 1) (n := slots + 6) (Nat.le_add_right _ _) (Nat.le_add_right _ _) ?_
  exact L_casei C hS hW hl hi (d := 3) ⟨by decide, by decide⟩ hc okc_24 dcm_24 (by decide) (o_could (d := 0) hn hJ ) (fun r' g' j' H1 locs1 q1 q2 q3 => kk r' g' j' H1 locs1 ls q1 q2 q3 hl)
theorem L_25 (C : LC p s m c b L xs D CA B sa sv) (hS : va_S (AB B) s.heap H locs) (hW : Wd D CA B r g j H) (hl : lv_has ls 7 (lvL b B i)) (hi : i + 6 ≤ L) (hn : n + 1 ≤ 512) (hJ : J n r g) (hc : cells + 1 ≤ room_1.cells ∧ slots + 6 ≤ room_1.slots) (kk : KK p l e s m below meth c D CA B cells slots Qw n b i) : W p l e room_1 s m #[Value.ref b] below meth c H locs cells slots Qw (F0 m 40 ls [.int (nI 25)]) := by
  refine L_in C (k := 25) (off := 944) (tgt := 984) (by decide) rfl (by decide) ?_
  refine W.widen (k := cells + 1) (n := slots + 6) (Nat.le_add_right _ _) (Nat.le_add_right _ _) ?_
  exact L_casei C hS hW hl hi (d := 3) ⟨by decide, by decide⟩ hc okc_25 dcm_25 (by decide) (o_surely (d := 0) hn hJ ) (fun r' g' j' H1 locs1 q1 q2 q3 => kk r' g' j' H1 locs1 ls q1 q2 q3 hl)
theorem L_26 (C : LC p s m c b L xs D CA B sa sv) (hS : va_S (AB B) s.heap H locs) (hW : Wd D CA B r g j H) (hl : lv_has ls 7 (lvL b B i)) (hi : i + 6 ≤ L) (hn : n + 1 ≤ 512) (hJ : J n r g) (hc : cells + 1 ≤ room_1.cells ∧ slots + 6 ≤ room_1.slots) (kk : KK p l e s m below meth c D CA B cells slots Qw n b i) : W p l e room_1 s m #[Value.ref b] below meth c H locs cells slots Qw (F0 m 40 ls [.int (nI 26)]) := by
  refine L_in C (k := 26) (off := 957) (tgt := 997) (by decide) rfl (by decide) ?_
  refine W.widen (k := cells + 1) (n := slots + 6) (Nat.le_add_right _ _) (Nat.le_add_right _ _) ?_
  exact L_casei C hS hW hl hi (d := 4) ⟨by decide, by decide⟩ hc okc_26 dcm_26 (by decide) (o_ask (d := 0) hn hJ ) (fun r' g' j' H1 locs1 q1 q2 q3 => kk r' g' j' H1 locs1 ls q1 q2 q3 hl)
theorem L_27 (C : LC p s m c b L xs D CA B sa sv) (hS : va_S (AB B) s.heap H locs) (hW : Wd D CA B r g j H) (hl : lv_has ls 7 (lvL b B i)) (hi : i + 6 ≤ L) (hn : n + 1 ≤ 512) (hJ : J n r g) (hc : cells + 1 ≤ room_1.cells ∧ slots + 6 ≤ room_1.slots) (kk : KK p l e s m below meth c D CA B cells slots Qw n b i) : W p l e room_1 s m #[Value.ref b] below meth c H locs cells slots Qw (F0 m 40 ls [.int (nI 27)]) := by
  refine L_in C (k := 27) (off := 970) (tgt := 1010) (by decide) rfl (by decide) ?_
  refine W.widen (k := cells + 1) (n := slots + 6) (Nat.le_add_right _ _) (Nat.le_add_right _ _) ?_
  exact L_casei C hS hW hl hi (d := 4) ⟨by decide, by decide⟩ hc okc_27 dcm_27 (by decide) (o_askLeaves (d := 0) hn hJ ) (fun r' g' j' H1 locs1 q1 q2 q3 => kk r' g' j' H1 locs1 ls q1 q2 q3 hl)
theorem L_28 (C : LC p s m c b L xs D CA B sa sv) (hS : va_S (AB B) s.heap H locs) (hW : Wd D CA B r g j H) (hl : lv_has ls 7 (lvL b B i)) (hi : i + 6 ≤ L) (hn : n + 1 ≤ 512) (hJ : J n r g) (hc : cells + 1 ≤ room_1.cells ∧ slots + 6 ≤ room_1.slots) (kk : KK p l e s m below meth c D CA B cells slots Qw n b i) : W p l e room_1 s m #[Value.ref b] below meth c H locs cells slots Qw (F0 m 40 ls [.int (nI 28)]) := by
  refine L_in C (k := 28) (off := 983) (tgt := 1023) (by decide) rfl (by decide) ?_
  refine W.widen (k := cells + 1) (n := slots + 6) (Nat.le_add_right _ _) (Nat.le_add_right _ _) ?_
  exact L_casei C hS hW hl hi (d := 3) ⟨by decide, by decide⟩ hc okc_28 dcm_28 (by decide) (o_share (d := 0) hn hJ (xs (i + 1)) (xs (i + 2))) (fun r' g' j' H1 locs1 q1 q2 q3 => kk r' g' j' H1 locs1 ls q1 q2 q3 hl)
theorem L_29 (C : LC p s m c b L xs D CA B sa sv) (hS : va_S (AB B) s.heap H locs) (hW : Wd D CA B r g j H) (hl : lv_has ls 7 (lvL b B i)) (hi : i + 6 ≤ L) (hn : n + 1 ≤ 512) (hJ : J n r g) (hc : cells + 1 ≤ room_1.cells ∧ slots + 6 ≤ room_1.slots) (kk : KK p l e s m below meth c D CA B cells slots Qw n b i) : W p l e room_1 s m #[Value.ref b] below meth c H locs cells slots Qw (F0 m 40 ls [.int (nI 29)]) := by
  refine L_in C (k := 29) (off := 1020) (tgt := 1060) (by decide) rfl (by decide) ?_
  refine W.widen (k := cells + 1) (n := slots + 6) (Nat.le_add_right _ _) (Nat.le_add_right _ _) ?_
  exact L_casei C hS hW hl hi (d := 3) ⟨by decide, by decide⟩ hc okc_29 dcm_29 (by decide) (o_late (d := 0) hn hJ (xs (i + 1))) (fun r' g' j' H1 locs1 q1 q2 q3 => kk r' g' j' H1 locs1 ls q1 q2 q3 hl)
theorem L_30 (C : LC p s m c b L xs D CA B sa sv) (hS : va_S (AB B) s.heap H locs) (hW : Wd D CA B r g j H) (hl : lv_has ls 7 (lvL b B i)) (hi : i + 6 ≤ L) (hn : n + 1 ≤ 512) (hJ : J n r g) (hc : cells + 1 ≤ room_1.cells ∧ slots + 6 ≤ room_1.slots) (kk : KK p l e s m below meth c D CA B cells slots Qw n b i) : W p l e room_1 s m #[Value.ref b] below meth c H locs cells slots Qw (F0 m 40 ls [.int (nI 30)]) := by
  refine L_in C (k := 30) (off := 1045) (tgt := 1085) (by decide) rfl (by decide) ?_
  refine W.widen (k := cells + 1) (n := slots + 6) (Nat.le_add_right _ _) (Nat.le_add_right _ _) ?_
  exact L_casei C hS hW hl hi (d := 3) ⟨by decide, by decide⟩ hc okc_30 dcm_30 (by decide) (o_farthest (d := 0) hn hJ ) (fun r' g' j' H1 locs1 q1 q2 q3 => kk r' g' j' H1 locs1 ls q1 q2 q3 hl)
theorem L_31 (C : LC p s m c b L xs D CA B sa sv) (hS : va_S (AB B) s.heap H locs) (hW : Wd D CA B r g j H) (hl : lv_has ls 7 (lvL b B i)) (hi : i + 6 ≤ L) (hn : n + 1 ≤ 512) (hJ : J n r g) (hc : cells + 1 ≤ room_1.cells ∧ slots + 6 ≤ room_1.slots) (kk : KK p l e s m below meth c D CA B cells slots Qw n b i) : W p l e room_1 s m #[Value.ref b] below meth c H locs cells slots Qw (F0 m 40 ls [.int (nI 31)]) := by
  refine L_in C (k := 31) (off := 1058) (tgt := 1098) (by decide) rfl (by decide) ?_
  refine W.widen (k := cells + 1) (n := slots + 6) (Nat.le_add_right _ _) (Nat.le_add_right _ _) ?_
  exact L_casei C hS hW hl hi (d := 3) ⟨by decide, by decide⟩ hc okc_31 dcm_31 (by decide) (o_wayAt (d := 0) hn hJ (xs (i + 1)) (xs (i + 2))) (fun r' g' j' H1 locs1 q1 q2 q3 => kk r' g' j' H1 locs1 ls q1 q2 q3 hl)
theorem L_32 (C : LC p s m c b L xs D CA B sa sv) (hS : va_S (AB B) s.heap H locs) (hW : Wd D CA B r g j H) (hl : lv_has ls 7 (lvL b B i)) (hi : i + 6 ≤ L) (hn : n + 1 ≤ 512) (hJ : J n r g) (hc : cells + 1 ≤ room_1.cells ∧ slots + 6 ≤ room_1.slots) (kk : KK p l e s m below meth c D CA B cells slots Qw n b i) : W p l e room_1 s m #[Value.ref b] below meth c H locs cells slots Qw (F0 m 40 ls [.int (nI 32)]) := by
  refine L_in C (k := 32) (off := 1095) (tgt := 1135) (by decide) rfl (by decide) ?_
  refine W.widen (k := cells + 1) (n := slots + 6) (Nat.le_add_right _ _) (Nat.le_add_right _ _) ?_
  exact L_casei C hS hW hl hi (d := 4) ⟨by decide, by decide⟩ hc okc_32 dcm_32 (by decide) (o_inland (d := 0) hn hJ (xs (i + 1)) (xs (i + 2))) (fun r' g' j' H1 locs1 q1 q2 q3 => kk r' g' j' H1 locs1 ls q1 q2 q3 hl)
theorem L_33 (C : LC p s m c b L xs D CA B sa sv) (hS : va_S (AB B) s.heap H locs) (hW : Wd D CA B r g j H) (hl : lv_has ls 7 (lvL b B i)) (hi : i + 6 ≤ L) (hn : n + 1 ≤ 512) (hJ : J n r g) (hc : cells + 1 ≤ room_1.cells ∧ slots + 6 ≤ room_1.slots) (kk : KK p l e s m below meth c D CA B cells slots Qw n b i) : W p l e room_1 s m #[Value.ref b] below meth c H locs cells slots Qw (F0 m 40 ls [.int (nI 33)]) := by
  refine L_in C (k := 33) (off := 1132) (tgt := 1172) (by decide) rfl (by decide) ?_
  refine W.widen (k := cells + 1) (n := slots + 6) (Nat.le_add_right _ _) (Nat.le_add_right _ _) ?_
  exact L_casei C hS hW hl hi (d := 5) ⟨by decide, by decide⟩ hc okc_33 dcm_33 (by decide) (o_people (d := 0) hn hJ (xs (i + 1)) (xs (i + 2))) (fun r' g' j' H1 locs1 q1 q2 q3 => kk r' g' j' H1 locs1 ls q1 q2 q3 hl)
theorem L_34 (C : LC p s m c b L xs D CA B sa sv) (hS : va_S (AB B) s.heap H locs) (hW : Wd D CA B r g j H) (hl : lv_has ls 7 (lvL b B i)) (hi : i + 6 ≤ L) (hn : n + 1 ≤ 512) (hJ : J n r g) (hc : cells + 1 ≤ room_1.cells ∧ slots + 6 ≤ room_1.slots) (kk : KK p l e s m below meth c D CA B cells slots Qw n b i) : W p l e room_1 s m #[Value.ref b] below meth c H locs cells slots Qw (F0 m 40 ls [.int (nI 34)]) := by
  refine L_in C (k := 34) (off := 1169) (tgt := 1209) (by decide) rfl (by decide) ?_
  refine W.widen (k := cells + 1) (n := slots + 6) (Nat.le_add_right _ _) (Nat.le_add_right _ _) ?_
  exact L_casei C hS hW hl hi (d := 3) ⟨by decide, by decide⟩ hc okc_34 dcm_34 (by decide) (o_strike (d := 0) hn hJ (xs (i + 1)) (xs (i + 2)) (bo (xs (i + 3)))) (fun r' g' j' H1 locs1 q1 q2 q3 => kk r' g' j' H1 locs1 ls q1 q2 q3 hl)
theorem L_35 (C : LC p s m c b L xs D CA B sa sv) (hS : va_S (AB B) s.heap H locs) (hW : Wd D CA B r g j H) (hl : lv_has ls 7 (lvL b B i)) (hi : i + 6 ≤ L) (hn : n + 1 ≤ 512) (hJ : J n r g) (hc : cells + 1 ≤ room_1.cells ∧ slots + 6 ≤ room_1.slots) (kk : KK p l e s m below meth c D CA B cells slots Qw n b i) : W p l e room_1 s m #[Value.ref b] below meth c H locs cells slots Qw (F0 m 40 ls [.int (nI 35)]) := by
  refine L_in C (k := 35) (off := 1234) (tgt := 1274) (by decide) rfl (by decide) ?_
  refine W.widen (k := cells + 1) (n := slots + 6) (Nat.le_add_right _ _) (Nat.le_add_right _ _) ?_
  exact L_casei C hS hW hl hi (d := 4) ⟨by decide, by decide⟩ hc okc_35 dcm_35 (by decide) (o_rests (d := 0) hn hJ ) (fun r' g' j' H1 locs1 q1 q2 q3 => kk r' g' j' H1 locs1 ls q1 q2 q3 hl)
theorem L_36 (C : LC p s m c b L xs D CA B sa sv) (hS : va_S (AB B) s.heap H locs) (hW : Wd D CA B r g j H) (hl : lv_has ls 7 (lvL b B i)) (hi : i + 6 ≤ L) (hn : n + 1 ≤ 512) (hJ : J n r g) (hc : cells + 1 ≤ room_1.cells ∧ slots + 6 ≤ room_1.slots) (kk : KK p l e s m below meth c D CA B cells slots Qw n b i) : W p l e room_1 s m #[Value.ref b] below meth c H locs cells slots Qw (F0 m 40 ls [.int (nI 36)]) := by
  refine L_in C (k := 36) (off := 1247) (tgt := 1287) (by decide) rfl (by decide) ?_
  refine W.widen (k := cells + 1) (n := slots + 6) (Nat.le_add_right _ _) (Nat.le_add_right _ _) ?_
  exact L_casei C hS hW hl hi (d := 4) ⟨by decide, by decide⟩ hc okc_36 dcm_36 (by decide) (o_rest (d := 0) hn hJ (xs (i + 1))) (fun r' g' j' H1 locs1 q1 q2 q3 => kk r' g' j' H1 locs1 ls q1 q2 q3 hl)
theorem L_37 (C : LC p s m c b L xs D CA B sa sv) (hS : va_S (AB B) s.heap H locs) (hW : Wd D CA B r g j H) (hl : lv_has ls 7 (lvL b B i)) (hi : i + 6 ≤ L) (hn : n + 1 ≤ 512) (hJ : J n r g) (hc : cells + 1 ≤ room_1.cells ∧ slots + 6 ≤ room_1.slots) (kk : KK p l e s m below meth c D CA B cells slots Qw n b i) : W p l e room_1 s m #[Value.ref b] below meth c H locs cells slots Qw (F0 m 40 ls [.int (nI 37)]) := by
  refine L_in C (k := 37) (off := 1272) (tgt := 1312) (by decide) rfl (by decide) ?_
  refine W.widen (k := cells + 1) (n := slots + 6) (Nat.le_add_right _ _) (Nat.le_add_right _ _) ?_
  exact L_casei C hS hW hl hi (d := 3) ⟨by decide, by decide⟩ hc okc_37 dcm_37 (by decide) (o_winter (d := 0) hn hJ (xs (i + 1))) (fun r' g' j' H1 locs1 q1 q2 q3 => kk r' g' j' H1 locs1 ls q1 q2 q3 hl)
theorem L_38 (C : LC p s m c b L xs D CA B sa sv) (hS : va_S (AB B) s.heap H locs) (hW : Wd D CA B r g j H) (hl : lv_has ls 7 (lvL b B i)) (hi : i + 6 ≤ L) (hn : n + 1 ≤ 512) (hJ : J n r g) (hc : cells + 1 ≤ room_1.cells ∧ slots + 6 ≤ room_1.slots) (kk : KK p l e s m below meth c D CA B cells slots Qw n b i) : W p l e room_1 s m #[Value.ref b] below meth c H locs cells slots Qw (F0 m 40 ls [.int (nI 38)]) := by
  refine L_in C (k := 38) (off := 1297) (tgt := 1337) (by decide) rfl (by decide) ?_
  refine W.widen (k := cells + 1) (n := slots + 6) (Nat.le_add_right _ _) (Nat.le_add_right _ _) ?_
  exact L_casei C hS hW hl hi (d := 4) ⟨by decide, by decide⟩ hc okc_38 dcm_38 (by decide) (o_lates (d := 0) hn hJ (xs (i + 1)) (xs (i + 2)) (xs (i + 3))) (fun r' g' j' H1 locs1 q1 q2 q3 => kk r' g' j' H1 locs1 ls q1 q2 q3 hl)
theorem L_39 (C : LC p s m c b L xs D CA B sa sv) (hS : va_S (AB B) s.heap H locs) (hW : Wd D CA B r g j H) (hl : lv_has ls 7 (lvL b B i)) (hi : i + 6 ≤ L) (hn : n + 1 ≤ 512) (hJ : J n r g) (hc : cells + 1 ≤ room_1.cells ∧ slots + 6 ≤ room_1.slots) (kk : KK p l e s m below meth c D CA B cells slots Qw n b i) : W p l e room_1 s m #[Value.ref b] below meth c H locs cells slots Qw (F0 m 40 ls [.int (nI 39)]) := by
  refine L_in C (k := 39) (off := 1346) (tgt := 1386) (by decide) rfl (by decide) ?_
  refine W.widen (k := cells + 1) (n := slots + 6) (Nat.le_add_right _ _) (Nat.le_add_right _ _) ?_
  exact L_casei C hS hW hl hi (d := 4) ⟨by decide, by decide⟩ hc okc_39 dcm_39 (by decide) (o_lift (d := 0) hn hJ (xs (i + 1)) (xs (i + 2)) (xs (i + 3))) (fun r' g' j' H1 locs1 q1 q2 q3 => kk r' g' j' H1 locs1 ls q1 q2 q3 hl)
theorem L_40 (C : LC p s m c b L xs D CA B sa sv) (hS : va_S (AB B) s.heap H locs) (hW : Wd D CA B r g j H) (hl : lv_has ls 7 (lvL b B i)) (hi : i + 6 ≤ L) (hn : n + 1 ≤ 512) (hJ : J n r g) (hc : cells + 1 ≤ room_1.cells ∧ slots + 6 ≤ room_1.slots) (kk : KK p l e s m below meth c D CA B cells slots Qw n b i) : W p l e room_1 s m #[Value.ref b] below meth c H locs cells slots Qw (F0 m 40 ls [.int (nI 40)]) := by
  refine L_in C (k := 40) (off := 1395) (tgt := 1435) (by decide) rfl (by decide) ?_
  refine W.widen (k := cells + 1) (n := slots + 6) (Nat.le_add_right _ _) (Nat.le_add_right _ _) ?_
  exact L_casei C hS hW hl hi (d := 4) ⟨by decide, by decide⟩ hc okc_40 dcm_40 (by decide) (o_dawn (d := 0) hn hJ ) (fun r' g' j' H1 locs1 q1 q2 q3 => kk r' g' j' H1 locs1 ls q1 q2 q3 hl)
theorem L_41 (C : LC p s m c b L xs D CA B sa sv) (hS : va_S (AB B) s.heap H locs) (hW : Wd D CA B r g j H) (hl : lv_has ls 7 (lvL b B i)) (hi : i + 6 ≤ L) (hn : n + 1 ≤ 512) (hJ : J n r g) (hc : cells + 1 ≤ room_1.cells ∧ slots + 6 ≤ room_1.slots) (kk : KK p l e s m below meth c D CA B cells slots Qw n b i) : W p l e room_1 s m #[Value.ref b] below meth c H locs cells slots Qw (F0 m 40 ls [.int (nI 41)]) := by
  refine L_in C (k := 41) (off := 1408) (tgt := 1448) (by decide) rfl (by decide) ?_
  refine W.widen (k := cells + 1) (n := slots + 6) (Nat.le_add_right _ _) (Nat.le_add_right _ _) ?_
  exact L_casei C hS hW hl hi (d := 4) ⟨by decide, by decide⟩ hc okc_41 dcm_41 (by decide) (o_open (d := 0) hn hJ (xs (i + 1)) (bo (xs (i + 2)))) (fun r' g' j' H1 locs1 q1 q2 q3 => kk r' g' j' H1 locs1 ls q1 q2 q3 hl)
theorem L_42 (C : LC p s m c b L xs D CA B sa sv) (hS : va_S (AB B) s.heap H locs) (hW : Wd D CA B r g j H) (hl : lv_has ls 7 (lvL b B i)) (hi : i + 6 ≤ L) (hn : n + 1 ≤ 512) (hJ : J n r g) (hc : cells + 1 ≤ room_1.cells ∧ slots + 6 ≤ room_1.slots) (kk : KK p l e s m below meth c D CA B cells slots Qw n b i) : W p l e room_1 s m #[Value.ref b] below meth c H locs cells slots Qw (F0 m 40 ls [.int (nI 42)]) := by
  refine L_in C (k := 42) (off := 1461) (tgt := 1501) (by decide) rfl (by decide) ?_
  refine W.widen (k := cells + 1) (n := slots + 6) (Nat.le_add_right _ _) (Nat.le_add_right _ _) ?_
  exact L_casei C hS hW hl hi (d := 3) ⟨by decide, by decide⟩ hc okc_42 dcm_42 (by decide) (o_undo (d := 0) hn hJ ) (fun r' g' j' H1 locs1 q1 q2 q3 => kk r' g' j' H1 locs1 ls q1 q2 q3 hl)
theorem L_43 (C : LC p s m c b L xs D CA B sa sv) (hS : va_S (AB B) s.heap H locs) (hW : Wd D CA B r g j H) (hl : lv_has ls 7 (lvL b B i)) (hi : i + 6 ≤ L) (hn : n + 1 ≤ 512) (hJ : J n r g) (hc : cells + 1 ≤ room_1.cells ∧ slots + 6 ≤ room_1.slots) (kk : KK p l e s m below meth c D CA B cells slots Qw n b i) : W p l e room_1 s m #[Value.ref b] below meth c H locs cells slots Qw (F0 m 40 ls [.int (nI 43)]) := by
  refine L_in C (k := 43) (off := 1474) (tgt := 1514) (by decide) rfl (by decide) ?_
  refine W.widen (k := cells + 1) (n := slots + 6) (Nat.le_add_right _ _) (Nat.le_add_right _ _) ?_
  exact L_casei C hS hW hl hi (d := 3) ⟨by decide, by decide⟩ hc okc_43 dcm_43 (by decide) (o_image (d := 0) hn hJ ) (fun r' g' j' H1 locs1 q1 q2 q3 => kk r' g' j' H1 locs1 ls q1 q2 q3 hl)
theorem L_44 (C : LC p s m c b L xs D CA B sa sv) (hS : va_S (AB B) s.heap H locs) (hW : Wd D CA B r g j H) (hl : lv_has ls 7 (lvL b B i)) (hi : i + 6 ≤ L) (hn : n + 1 ≤ 512) (hJ : J n r g) (hc : cells + 1 ≤ room_1.cells ∧ slots + 6 ≤ room_1.slots) (kk : KK p l e s m below meth c D CA B cells slots Qw n b i) : W p l e room_1 s m #[Value.ref b] below meth c H locs cells slots Qw (F0 m 40 ls [.int (nI 44)]) := by
  refine L_in C (k := 44) (off := 1487) (tgt := 1527) (by decide) rfl (by decide) ?_
  refine W.widen (k := cells + 1) (n := slots + 6) (Nat.le_add_right _ _) (Nat.le_add_right _ _) ?_
  exact L_casei C hS hW hl hi (d := 3) ⟨by decide, by decide⟩ hc okc_44 dcm_44 (by decide) (o_back (d := 0) hn hJ (xs (i + 1))) (fun r' g' j' H1 locs1 q1 q2 q3 => kk r' g' j' H1 locs1 ls q1 q2 q3 hl)
theorem L_46 (C : LC p s m c b L xs D CA B sa sv) (hS : va_S (AB B) s.heap H locs) (hW : Wd D CA B r g j H) (hl : lv_has ls 7 (lvL b B i)) (hi : i + 6 ≤ L) (hn : n + 1 ≤ 512) (hJ : J n r g) (hc : cells + 1 ≤ room_1.cells ∧ slots + 6 ≤ room_1.slots) (kk : KK p l e s m below meth c D CA B cells slots Qw n b i) : W p l e room_1 s m #[Value.ref b] below meth c H locs cells slots Qw (F0 m 40 ls [.int (nI 46)]) := by
  refine L_in C (k := 46) (off := 1568) (tgt := 1608) (by decide) rfl (by decide) ?_
  refine W.widen (k := cells + 1) (n := slots + 6) (Nat.le_add_right _ _) (Nat.le_add_right _ _) ?_
  exact L_casei C hS hW hl hi (d := 1) ⟨by decide, by decide⟩ hc okc_46 dcm_46 (by decide) (o_size (d := 0) hn hJ (xs (i + 1))) (fun r' g' j' H1 locs1 q1 q2 q3 => kk r' g' j' H1 locs1 ls q1 q2 q3 hl)
theorem L_47 (C : LC p s m c b L xs D CA B sa sv) (hS : va_S (AB B) s.heap H locs) (hW : Wd D CA B r g j H) (hl : lv_has ls 7 (lvL b B i)) (hi : i + 6 ≤ L) (hn : n + 1 ≤ 512) (hJ : J n r g) (hc : cells + 1 ≤ room_1.cells ∧ slots + 6 ≤ room_1.slots) (kk : KK p l e s m below meth c D CA B cells slots Qw n b i) : W p l e room_1 s m #[Value.ref b] below meth c H locs cells slots Qw (F0 m 40 ls [.int (nI 47)]) := by
  refine L_in C (k := 47) (off := 1593) (tgt := 1633) (by decide) rfl (by decide) ?_
  refine W.widen (k := cells + 1) (n := slots + 6) (Nat.le_add_right _ _) (Nat.le_add_right _ _) ?_
  exact L_casei C hS hW hl hi (d := 0) ⟨by decide, by decide⟩ hc okc_47 dcm_47 (by decide) (o_trouble (d := 0) hn hJ ) (fun r' g' j' H1 locs1 q1 q2 q3 => kk r' g' j' H1 locs1 ls q1 q2 q3 hl)
end
