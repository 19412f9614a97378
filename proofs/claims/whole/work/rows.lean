section
-- ===== PART A: goes FIRST, ahead of the names: the tables' words, and 'selects' of the private methods out of them =====
/-- a private method of a class that the tables say can be made, by its rows of tables_1 -/
def lw_okq (q : MethodName × Nat) : Prop := (q.1.cls ≠ "java/lang/invoke/MethodHandle" ∧ q.1.cls ≠ "java/lang/invoke/VarHandle") ∧ Cond.instantiable q.1.cls q.2 ∈ tables_1 ∧ Cond.privateMethod q.1 ∈ tables_1 ∧ Cond.instanceMethod q.1 ∈ tables_1
theorem lw_p0 : lw_okq (⟨"DayPort", "write", "(I)V"⟩, 17) := ⟨⟨by decide +kernel, by decide +kernel⟩, List.mem_of_getElem? (i := 23) (by decide +kernel), List.mem_of_getElem? (i := 462) (by decide +kernel), List.mem_of_getElem? (i := 463) (by decide +kernel)⟩
theorem lw_p1 : lw_okq (⟨"DayPort", "refused", "(I)I"⟩, 17) := ⟨⟨by decide +kernel, by decide +kernel⟩, List.mem_of_getElem? (i := 23) (by decide +kernel), List.mem_of_getElem? (i := 470) (by decide +kernel), List.mem_of_getElem? (i := 471) (by decide +kernel)⟩
theorem lw_p2 : lw_okq (⟨"DayPort$Reader", "step", "()V"⟩, 18) := ⟨⟨by decide +kernel, by decide +kernel⟩, List.mem_of_getElem? (i := 192) (by decide +kernel), List.mem_of_getElem? (i := 485) (by decide +kernel), List.mem_of_getElem? (i := 486) (by decide +kernel)⟩
theorem lw_p3 : lw_okq (⟨"DayPort$Reader", "line", "()Z"⟩, 18) := ⟨⟨by decide +kernel, by decide +kernel⟩, List.mem_of_getElem? (i := 192) (by decide +kernel), List.mem_of_getElem? (i := 493) (by decide +kernel), List.mem_of_getElem? (i := 494) (by decide +kernel)⟩
theorem lw_p4 : lw_okq (⟨"DayPort$Reader", "beginsLine", "()Z"⟩, 18) := ⟨⟨by decide +kernel, by decide +kernel⟩, List.mem_of_getElem? (i := 192) (by decide +kernel), List.mem_of_getElem? (i := 497) (by decide +kernel), List.mem_of_getElem? (i := 498) (by decide +kernel)⟩
theorem lw_p5 : lw_okq (⟨"DayPort$Reader", "is", "(Ljava/lang/String;)Z"⟩, 18) := ⟨⟨by decide +kernel, by decide +kernel⟩, List.mem_of_getElem? (i := 192) (by decide +kernel), List.mem_of_getElem? (i := 502) (by decide +kernel), List.mem_of_getElem? (i := 503) (by decide +kernel)⟩
theorem lw_p6 : lw_okq (⟨"DayPort$Reader", "wrong", "(I)Z"⟩, 18) := ⟨⟨by decide +kernel, by decide +kernel⟩, List.mem_of_getElem? (i := 192) (by decide +kernel), List.mem_of_getElem? (i := 559) (by decide +kernel), List.mem_of_getElem? (i := 560) (by decide +kernel)⟩
theorem lw_p7 : lw_okq (⟨"DayPort$Reader", "portLine", "()Z"⟩, 18) := ⟨⟨by decide +kernel, by decide +kernel⟩, List.mem_of_getElem? (i := 192) (by decide +kernel), List.mem_of_getElem? (i := 563) (by decide +kernel), List.mem_of_getElem? (i := 564) (by decide +kernel)⟩
theorem lw_p8 : lw_okq (⟨"DayPort$Reader", "wordAndWhole", "(Ljava/lang/String;II)Z"⟩, 18) := ⟨⟨by decide +kernel, by decide +kernel⟩, List.mem_of_getElem? (i := 192) (by decide +kernel), List.mem_of_getElem? (i := 568) (by decide +kernel), List.mem_of_getElem? (i := 569) (by decide +kernel)⟩
theorem lw_p9 : lw_okq (⟨"DayPort$Reader", "shipLine", "()Z"⟩, 18) := ⟨⟨by decide +kernel, by decide +kernel⟩, List.mem_of_getElem? (i := 192) (by decide +kernel), List.mem_of_getElem? (i := 575) (by decide +kernel), List.mem_of_getElem? (i := 576) (by decide +kernel)⟩
theorem lw_p10 : lw_okq (⟨"DayPort$Reader", "newName", "(II)Z"⟩, 18) := ⟨⟨by decide +kernel, by decide +kernel⟩, List.mem_of_getElem? (i := 192) (by decide +kernel), List.mem_of_getElem? (i := 579) (by decide +kernel), List.mem_of_getElem? (i := 580) (by decide +kernel)⟩
theorem lw_p11 : lw_okq (⟨"DayPort$Reader", "nameAt", "()I"⟩, 18) := ⟨⟨by decide +kernel, by decide +kernel⟩, List.mem_of_getElem? (i := 192) (by decide +kernel), List.mem_of_getElem? (i := 583) (by decide +kernel), List.mem_of_getElem? (i := 584) (by decide +kernel)⟩
theorem lw_p12 : lw_okq (⟨"DayPort$Reader", "crateLine", "()Z"⟩, 18) := ⟨⟨by decide +kernel, by decide +kernel⟩, List.mem_of_getElem? (i := 192) (by decide +kernel), List.mem_of_getElem? (i := 591) (by decide +kernel), List.mem_of_getElem? (i := 592) (by decide +kernel)⟩
theorem lw_p13 : lw_okq (⟨"DayPort$Reader", "kindOfCrate", "()I"⟩, 18) := ⟨⟨by decide +kernel, by decide +kernel⟩, List.mem_of_getElem? (i := 192) (by decide +kernel), List.mem_of_getElem? (i := 595) (by decide +kernel), List.mem_of_getElem? (i := 596) (by decide +kernel)⟩
theorem lw_p14 : lw_okq (⟨"DayPort$Reader", "word", "(Ljava/lang/String;)Z"⟩, 18) := ⟨⟨by decide +kernel, by decide +kernel⟩, List.mem_of_getElem? (i := 192) (by decide +kernel), List.mem_of_getElem? (i := 604) (by decide +kernel), List.mem_of_getElem? (i := 605) (by decide +kernel)⟩
theorem lw_p15 : lw_okq (⟨"DayPort$Reader", "toldName", "(I)Z"⟩, 18) := ⟨⟨by decide +kernel, by decide +kernel⟩, List.mem_of_getElem? (i := 192) (by decide +kernel), List.mem_of_getElem? (i := 608) (by decide +kernel), List.mem_of_getElem? (i := 609) (by decide +kernel)⟩
def lw_privs_1 : List (MethodName × Nat) := [(⟨"DayPort", "write", "(I)V"⟩, 17), (⟨"DayPort", "refused", "(I)I"⟩, 17), (⟨"DayPort$Reader", "step", "()V"⟩, 18), (⟨"DayPort$Reader", "line", "()Z"⟩, 18), (⟨"DayPort$Reader", "beginsLine", "()Z"⟩, 18), (⟨"DayPort$Reader", "is", "(Ljava/lang/String;)Z"⟩, 18), (⟨"DayPort$Reader", "wrong", "(I)Z"⟩, 18), (⟨"DayPort$Reader", "portLine", "()Z"⟩, 18), (⟨"DayPort$Reader", "wordAndWhole", "(Ljava/lang/String;II)Z"⟩, 18), (⟨"DayPort$Reader", "shipLine", "()Z"⟩, 18), (⟨"DayPort$Reader", "newName", "(II)Z"⟩, 18), (⟨"DayPort$Reader", "nameAt", "()I"⟩, 18), (⟨"DayPort$Reader", "crateLine", "()Z"⟩, 18), (⟨"DayPort$Reader", "kindOfCrate", "()I"⟩, 18), (⟨"DayPort$Reader", "word", "(Ljava/lang/String;)Z"⟩, 18), (⟨"DayPort$Reader", "toldName", "(I)Z"⟩, 18)]
theorem lw_r1 : ∀ q ∈ lw_privs_1, lw_okq q := List.forall_mem_cons.mpr ⟨lw_p0, List.forall_mem_cons.mpr ⟨lw_p1, List.forall_mem_cons.mpr ⟨lw_p2, List.forall_mem_cons.mpr ⟨lw_p3, List.forall_mem_cons.mpr ⟨lw_p4, List.forall_mem_cons.mpr ⟨lw_p5, List.forall_mem_cons.mpr ⟨lw_p6, List.forall_mem_cons.mpr ⟨lw_p7, List.forall_mem_cons.mpr ⟨lw_p8, List.forall_mem_cons.mpr ⟨lw_p9, List.forall_mem_cons.mpr ⟨lw_p10, List.forall_mem_cons.mpr ⟨lw_p11, List.forall_mem_cons.mpr ⟨lw_p12, List.forall_mem_cons.mpr ⟨lw_p13, List.forall_mem_cons.mpr ⟨lw_p14, List.forall_mem_cons.mpr ⟨lw_p15, fun _ h => absurd h List.not_mem_nil⟩⟩⟩⟩⟩⟩⟩⟩⟩⟩⟩⟩⟩⟩⟩⟩
theorem lw_p16 : lw_okq (⟨"DayPort$Reader", "wrongBehind", "(I)Z"⟩, 18) := ⟨⟨by decide +kernel, by decide +kernel⟩, List.mem_of_getElem? (i := 192) (by decide +kernel), List.mem_of_getElem? (i := 612) (by decide +kernel), List.mem_of_getElem? (i := 613) (by decide +kernel)⟩
theorem lw_p17 : lw_okq (⟨"DayPort$Reader", "townLine", "()Z"⟩, 18) := ⟨⟨by decide +kernel, by decide +kernel⟩, List.mem_of_getElem? (i := 192) (by decide +kernel), List.mem_of_getElem? (i := 623) (by decide +kernel), List.mem_of_getElem? (i := 624) (by decide +kernel)⟩
theorem lw_p18 : lw_okq (⟨"DayPort$Reader", "roadLine", "()Z"⟩, 18) := ⟨⟨by decide +kernel, by decide +kernel⟩, List.mem_of_getElem? (i := 192) (by decide +kernel), List.mem_of_getElem? (i := 628) (by decide +kernel), List.mem_of_getElem? (i := 629) (by decide +kernel)⟩
theorem lw_p19 : lw_okq (⟨"DayPort$Reader", "openedLine", "()Z"⟩, 18) := ⟨⟨by decide +kernel, by decide +kernel⟩, List.mem_of_getElem? (i := 192) (by decide +kernel), List.mem_of_getElem? (i := 633) (by decide +kernel), List.mem_of_getElem? (i := 634) (by decide +kernel)⟩
theorem lw_p20 : lw_okq (⟨"DayPort$Yard", "pile", "(III)V"⟩, 11) := ⟨⟨by decide +kernel, by decide +kernel⟩, List.mem_of_getElem? (i := 256) (by decide +kernel), List.mem_of_getElem? (i := 642) (by decide +kernel), List.mem_of_getElem? (i := 643) (by decide +kernel)⟩
theorem lw_p21 : lw_okq (⟨"DayPort", "answered", "(I)I"⟩, 17) := ⟨⟨by decide +kernel, by decide +kernel⟩, List.mem_of_getElem? (i := 23) (by decide +kernel), List.mem_of_getElem? (i := 666) (by decide +kernel), List.mem_of_getElem? (i := 667) (by decide +kernel)⟩
theorem lw_p22 : lw_okq (⟨"DayPort", "noCrate", "(I)Z"⟩, 17) := ⟨⟨by decide +kernel, by decide +kernel⟩, List.mem_of_getElem? (i := 23) (by decide +kernel), List.mem_of_getElem? (i := 682) (by decide +kernel), List.mem_of_getElem? (i := 683) (by decide +kernel)⟩
theorem lw_p23 : lw_okq (⟨"DayPort", "noStack", "(II)Z"⟩, 17) := ⟨⟨by decide +kernel, by decide +kernel⟩, List.mem_of_getElem? (i := 23) (by decide +kernel), List.mem_of_getElem? (i := 694) (by decide +kernel), List.mem_of_getElem? (i := 695) (by decide +kernel)⟩
theorem lw_p24 : lw_okq (⟨"DayPort", "noShip", "(I)Z"⟩, 17) := ⟨⟨by decide +kernel, by decide +kernel⟩, List.mem_of_getElem? (i := 23) (by decide +kernel), List.mem_of_getElem? (i := 698) (by decide +kernel), List.mem_of_getElem? (i := 699) (by decide +kernel)⟩
theorem lw_p25 : lw_okq (⟨"DayPort$Outing", "load", "(LDayPort$Port;LDayPort$Yard;I)V"⟩, 10) := ⟨⟨by decide +kernel, by decide +kernel⟩, List.mem_of_getElem? (i := 307) (by decide +kernel), List.mem_of_getElem? (i := 812) (by decide +kernel), List.mem_of_getElem? (i := 813) (by decide +kernel)⟩
theorem lw_p26 : lw_okq (⟨"DayPort$Outing", "stillNeeded", "(I)I"⟩, 10) := ⟨⟨by decide +kernel, by decide +kernel⟩, List.mem_of_getElem? (i := 307) (by decide +kernel), List.mem_of_getElem? (i := 833) (by decide +kernel), List.mem_of_getElem? (i := 834) (by decide +kernel)⟩
theorem lw_p27 : lw_okq (⟨"DayPort$Outing", "seek", "(IIII)Z"⟩, 10) := ⟨⟨by decide +kernel, by decide +kernel⟩, List.mem_of_getElem? (i := 307) (by decide +kernel), List.mem_of_getElem? (i := 837) (by decide +kernel), List.mem_of_getElem? (i := 838) (by decide +kernel)⟩
theorem lw_p28 : lw_okq (⟨"DayPort$Outing", "seekFrom", "(IIII)Z"⟩, 10) := ⟨⟨by decide +kernel, by decide +kernel⟩, List.mem_of_getElem? (i := 307) (by decide +kernel), List.mem_of_getElem? (i := 841) (by decide +kernel), List.mem_of_getElem? (i := 842) (by decide +kernel)⟩
theorem lw_p29 : lw_okq (⟨"DayPort$Outing", "move", "(II)V"⟩, 10) := ⟨⟨by decide +kernel, by decide +kernel⟩, List.mem_of_getElem? (i := 307) (by decide +kernel), List.mem_of_getElem? (i := 845) (by decide +kernel), List.mem_of_getElem? (i := 846) (by decide +kernel)⟩
theorem lw_p30 : lw_okq (⟨"DayPort$Night", "addCrate", "(II)V"⟩, 5) := ⟨⟨by decide +kernel, by decide +kernel⟩, List.mem_of_getElem? (i := 349) (by decide +kernel), List.mem_of_getElem? (i := 866) (by decide +kernel), List.mem_of_getElem? (i := 867) (by decide +kernel)⟩
theorem lw_p31 : lw_okq (⟨"DayPort$Night", "waysOf", "(I)I"⟩, 5) := ⟨⟨by decide +kernel, by decide +kernel⟩, List.mem_of_getElem? (i := 349) (by decide +kernel), List.mem_of_getElem? (i := 871) (by decide +kernel), List.mem_of_getElem? (i := 872) (by decide +kernel)⟩
def lw_privs_2 : List (MethodName × Nat) := [(⟨"DayPort$Reader", "wrongBehind", "(I)Z"⟩, 18), (⟨"DayPort$Reader", "townLine", "()Z"⟩, 18), (⟨"DayPort$Reader", "roadLine", "()Z"⟩, 18), (⟨"DayPort$Reader", "openedLine", "()Z"⟩, 18), (⟨"DayPort$Yard", "pile", "(III)V"⟩, 11), (⟨"DayPort", "answered", "(I)I"⟩, 17), (⟨"DayPort", "noCrate", "(I)Z"⟩, 17), (⟨"DayPort", "noStack", "(II)Z"⟩, 17), (⟨"DayPort", "noShip", "(I)Z"⟩, 17), (⟨"DayPort$Outing", "load", "(LDayPort$Port;LDayPort$Yard;I)V"⟩, 10), (⟨"DayPort$Outing", "stillNeeded", "(I)I"⟩, 10), (⟨"DayPort$Outing", "seek", "(IIII)Z"⟩, 10), (⟨"DayPort$Outing", "seekFrom", "(IIII)Z"⟩, 10), (⟨"DayPort$Outing", "move", "(II)V"⟩, 10), (⟨"DayPort$Night", "addCrate", "(II)V"⟩, 5), (⟨"DayPort$Night", "waysOf", "(I)I"⟩, 5)]
theorem lw_r2 : ∀ q ∈ lw_privs_2, lw_okq q := List.forall_mem_cons.mpr ⟨lw_p16, List.forall_mem_cons.mpr ⟨lw_p17, List.forall_mem_cons.mpr ⟨lw_p18, List.forall_mem_cons.mpr ⟨lw_p19, List.forall_mem_cons.mpr ⟨lw_p20, List.forall_mem_cons.mpr ⟨lw_p21, List.forall_mem_cons.mpr ⟨lw_p22, List.forall_mem_cons.mpr ⟨lw_p23, List.forall_mem_cons.mpr ⟨lw_p24, List.forall_mem_cons.mpr ⟨lw_p25, List.forall_mem_cons.mpr ⟨lw_p26, List.forall_mem_cons.mpr ⟨lw_p27, List.forall_mem_cons.mpr ⟨lw_p28, List.forall_mem_cons.mpr ⟨lw_p29, List.forall_mem_cons.mpr ⟨lw_p30, List.forall_mem_cons.mpr ⟨lw_p31, fun _ h => absurd h List.not_mem_nil⟩⟩⟩⟩⟩⟩⟩⟩⟩⟩⟩⟩⟩⟩⟩⟩
theorem lw_p32 : lw_okq (⟨"DayPort", "noTown", "(I)Z"⟩, 17) := ⟨⟨by decide +kernel, by decide +kernel⟩, List.mem_of_getElem? (i := 23) (by decide +kernel), List.mem_of_getElem? (i := 906) (by decide +kernel), List.mem_of_getElem? (i := 907) (by decide +kernel)⟩
theorem lw_p33 : lw_okq (⟨"DayPort$Inland", "onward", "(LDayPort$Port;II)I"⟩, 1) := ⟨⟨by decide +kernel, by decide +kernel⟩, List.mem_of_getElem? (i := 374) (by decide +kernel), List.mem_of_getElem? (i := 938) (by decide +kernel), List.mem_of_getElem? (i := 939) (by decide +kernel)⟩
theorem lw_p34 : lw_okq (⟨"DayPort", "hadInland", "(II)I"⟩, 17) := ⟨⟨by decide +kernel, by decide +kernel⟩, List.mem_of_getElem? (i := 23) (by decide +kernel), List.mem_of_getElem? (i := 946) (by decide +kernel), List.mem_of_getElem? (i := 947) (by decide +kernel)⟩
theorem lw_p35 : lw_okq (⟨"DayPort", "keepNow", "()V"⟩, 17) := ⟨⟨by decide +kernel, by decide +kernel⟩, List.mem_of_getElem? (i := 23) (by decide +kernel), List.mem_of_getElem? (i := 1000) (by decide +kernel), List.mem_of_getElem? (i := 1001) (by decide +kernel)⟩
theorem lw_p36 : lw_okq (⟨"DayPort$Yard", "land", "(I)V"⟩, 11) := ⟨⟨by decide +kernel, by decide +kernel⟩, List.mem_of_getElem? (i := 256) (by decide +kernel), List.mem_of_getElem? (i := 1017) (by decide +kernel), List.mem_of_getElem? (i := 1018) (by decide +kernel)⟩
theorem lw_p37 : lw_okq (⟨"DayPort", "denied", "(I)Z"⟩, 17) := ⟨⟨by decide +kernel, by decide +kernel⟩, List.mem_of_getElem? (i := 23) (by decide +kernel), List.mem_of_getElem? (i := 1034) (by decide +kernel), List.mem_of_getElem? (i := 1035) (by decide +kernel)⟩
theorem lw_p38 : lw_okq (⟨"DayPort", "granted", "()Z"⟩, 17) := ⟨⟨by decide +kernel, by decide +kernel⟩, List.mem_of_getElem? (i := 23) (by decide +kernel), List.mem_of_getElem? (i := 1038) (by decide +kernel), List.mem_of_getElem? (i := 1039) (by decide +kernel)⟩
theorem lw_p39 : lw_okq (⟨"java/lang/Throwable", "fillInStackTrace", "(I)Ljava/lang/Throwable;"⟩, 6) := ⟨⟨by decide +kernel, by decide +kernel⟩, List.mem_of_getElem? (i := 1110) (by decide +kernel), List.mem_of_getElem? (i := 1108) (by decide +kernel), List.mem_of_getElem? (i := 1109) (by decide +kernel)⟩
theorem lw_p40 : lw_okq (⟨"DayPortModel", "good", "()V"⟩, 36) := ⟨⟨by decide +kernel, by decide +kernel⟩, List.mem_of_getElem? (i := 1139) (by decide +kernel), List.mem_of_getElem? (i := 1266) (by decide +kernel), List.mem_of_getElem? (i := 1267) (by decide +kernel)⟩
theorem lw_p41 : lw_okq (⟨"DayPortModel", "no", "(I)I"⟩, 36) := ⟨⟨by decide +kernel, by decide +kernel⟩, List.mem_of_getElem? (i := 1139) (by decide +kernel), List.mem_of_getElem? (i := 1273) (by decide +kernel), List.mem_of_getElem? (i := 1274) (by decide +kernel)⟩
theorem lw_p42 : lw_okq (⟨"DayPortModel", "pass", "()V"⟩, 36) := ⟨⟨by decide +kernel, by decide +kernel⟩, List.mem_of_getElem? (i := 1139) (by decide +kernel), List.mem_of_getElem? (i := 1277) (by decide +kernel), List.mem_of_getElem? (i := 1278) (by decide +kernel)⟩
theorem lw_p43 : lw_okq (⟨"DayPortModel", "look", "(I)I"⟩, 36) := ⟨⟨by decide +kernel, by decide +kernel⟩, List.mem_of_getElem? (i := 1139) (by decide +kernel), List.mem_of_getElem? (i := 1281) (by decide +kernel), List.mem_of_getElem? (i := 1282) (by decide +kernel)⟩
theorem lw_p44 : lw_okq (⟨"DayPortModel", "readLine", "()V"⟩, 36) := ⟨⟨by decide +kernel, by decide +kernel⟩, List.mem_of_getElem? (i := 1139) (by decide +kernel), List.mem_of_getElem? (i := 1291) (by decide +kernel), List.mem_of_getElem? (i := 1292) (by decide +kernel)⟩
theorem lw_p45 : lw_okq (⟨"DayPortModel", "isWord", "(Ljava/lang/String;)Z"⟩, 36) := ⟨⟨by decide +kernel, by decide +kernel⟩, List.mem_of_getElem? (i := 1139) (by decide +kernel), List.mem_of_getElem? (i := 1296) (by decide +kernel), List.mem_of_getElem? (i := 1297) (by decide +kernel)⟩
theorem lw_p46 : lw_okq (⟨"DayPortModel", "portLine", "()V"⟩, 36) := ⟨⟨by decide +kernel, by decide +kernel⟩, List.mem_of_getElem? (i := 1139) (by decide +kernel), List.mem_of_getElem? (i := 1302) (by decide +kernel), List.mem_of_getElem? (i := 1303) (by decide +kernel)⟩
theorem lw_p47 : lw_okq (⟨"DayPortModel", "wrong", "(II)V"⟩, 36) := ⟨⟨by decide +kernel, by decide +kernel⟩, List.mem_of_getElem? (i := 1139) (by decide +kernel), List.mem_of_getElem? (i := 1306) (by decide +kernel), List.mem_of_getElem? (i := 1307) (by decide +kernel)⟩
def lw_privs_3 : List (MethodName × Nat) := [(⟨"DayPort", "noTown", "(I)Z"⟩, 17), (⟨"DayPort$Inland", "onward", "(LDayPort$Port;II)I"⟩, 1), (⟨"DayPort", "hadInland", "(II)I"⟩, 17), (⟨"DayPort", "keepNow", "()V"⟩, 17), (⟨"DayPort$Yard", "land", "(I)V"⟩, 11), (⟨"DayPort", "denied", "(I)Z"⟩, 17), (⟨"DayPort", "granted", "()Z"⟩, 17), (⟨"java/lang/Throwable", "fillInStackTrace", "(I)Ljava/lang/Throwable;"⟩, 6), (⟨"DayPortModel", "good", "()V"⟩, 36), (⟨"DayPortModel", "no", "(I)I"⟩, 36), (⟨"DayPortModel", "pass", "()V"⟩, 36), (⟨"DayPortModel", "look", "(I)I"⟩, 36), (⟨"DayPortModel", "readLine", "()V"⟩, 36), (⟨"DayPortModel", "isWord", "(Ljava/lang/String;)Z"⟩, 36), (⟨"DayPortModel", "portLine", "()V"⟩, 36), (⟨"DayPortModel", "wrong", "(II)V"⟩, 36)]
theorem lw_r3 : ∀ q ∈ lw_privs_3, lw_okq q := List.forall_mem_cons.mpr ⟨lw_p32, List.forall_mem_cons.mpr ⟨lw_p33, List.forall_mem_cons.mpr ⟨lw_p34, List.forall_mem_cons.mpr ⟨lw_p35, List.forall_mem_cons.mpr ⟨lw_p36, List.forall_mem_cons.mpr ⟨lw_p37, List.forall_mem_cons.mpr ⟨lw_p38, List.forall_mem_cons.mpr ⟨lw_p39, List.forall_mem_cons.mpr ⟨lw_p40, List.forall_mem_cons.mpr ⟨lw_p41, List.forall_mem_cons.mpr ⟨lw_p42, List.forall_mem_cons.mpr ⟨lw_p43, List.forall_mem_cons.mpr ⟨lw_p44, List.forall_mem_cons.mpr ⟨lw_p45, List.forall_mem_cons.mpr ⟨lw_p46, List.forall_mem_cons.mpr ⟨lw_p47, fun _ h => absurd h List.not_mem_nil⟩⟩⟩⟩⟩⟩⟩⟩⟩⟩⟩⟩⟩⟩⟩⟩
theorem lw_p48 : lw_okq (⟨"DayPortModel", "after", "(Ljava/lang/String;II)I"⟩, 36) := ⟨⟨by decide +kernel, by decide +kernel⟩, List.mem_of_getElem? (i := 1139) (by decide +kernel), List.mem_of_getElem? (i := 1311) (by decide +kernel), List.mem_of_getElem? (i := 1312) (by decide +kernel)⟩
theorem lw_p49 : lw_okq (⟨"DayPortModel", "must", "(Ljava/lang/String;)V"⟩, 36) := ⟨⟨by decide +kernel, by decide +kernel⟩, List.mem_of_getElem? (i := 1139) (by decide +kernel), List.mem_of_getElem? (i := 1315) (by decide +kernel), List.mem_of_getElem? (i := 1316) (by decide +kernel)⟩
theorem lw_p50 : lw_okq (⟨"DayPortModel", "takesWord", "(Ljava/lang/String;)Z"⟩, 36) := ⟨⟨by decide +kernel, by decide +kernel⟩, List.mem_of_getElem? (i := 1139) (by decide +kernel), List.mem_of_getElem? (i := 1319) (by decide +kernel), List.mem_of_getElem? (i := 1320) (by decide +kernel)⟩
theorem lw_p51 : lw_okq (⟨"DayPortModel", "number", "(II)I"⟩, 36) := ⟨⟨by decide +kernel, by decide +kernel⟩, List.mem_of_getElem? (i := 1139) (by decide +kernel), List.mem_of_getElem? (i := 1323) (by decide +kernel), List.mem_of_getElem? (i := 1324) (by decide +kernel)⟩
theorem lw_p52 : lw_okq (⟨"DayPortModel", "numberHere", "(II)I"⟩, 36) := ⟨⟨by decide +kernel, by decide +kernel⟩, List.mem_of_getElem? (i := 1139) (by decide +kernel), List.mem_of_getElem? (i := 1327) (by decide +kernel), List.mem_of_getElem? (i := 1328) (by decide +kernel)⟩
theorem lw_p53 : lw_okq (⟨"DayPortModel", "begins", "(Ljava/lang/String;Z)Z"⟩, 36) := ⟨⟨by decide +kernel, by decide +kernel⟩, List.mem_of_getElem? (i := 1139) (by decide +kernel), List.mem_of_getElem? (i := 1335) (by decide +kernel), List.mem_of_getElem? (i := 1336) (by decide +kernel)⟩
theorem lw_p54 : lw_okq (⟨"DayPortModel", "shipLine", "()V"⟩, 36) := ⟨⟨by decide +kernel, by decide +kernel⟩, List.mem_of_getElem? (i := 1139) (by decide +kernel), List.mem_of_getElem? (i := 1339) (by decide +kernel), List.mem_of_getElem? (i := 1340) (by decide +kernel)⟩
theorem lw_p55 : lw_okq (⟨"DayPortModel", "newName", "(I)V"⟩, 36) := ⟨⟨by decide +kernel, by decide +kernel⟩, List.mem_of_getElem? (i := 1139) (by decide +kernel), List.mem_of_getElem? (i := 1343) (by decide +kernel), List.mem_of_getElem? (i := 1344) (by decide +kernel)⟩
theorem lw_p56 : lw_okq (⟨"DayPortModel", "mustName", "()V"⟩, 36) := ⟨⟨by decide +kernel, by decide +kernel⟩, List.mem_of_getElem? (i := 1139) (by decide +kernel), List.mem_of_getElem? (i := 1347) (by decide +kernel), List.mem_of_getElem? (i := 1348) (by decide +kernel)⟩
theorem lw_p57 : lw_okq (⟨"DayPortModel", "find", "()I"⟩, 36) := ⟨⟨by decide +kernel, by decide +kernel⟩, List.mem_of_getElem? (i := 1139) (by decide +kernel), List.mem_of_getElem? (i := 1355) (by decide +kernel), List.mem_of_getElem? (i := 1356) (by decide +kernel)⟩
theorem lw_p58 : lw_okq (⟨"DayPortModel", "crateLine", "()V"⟩, 36) := ⟨⟨by decide +kernel, by decide +kernel⟩, List.mem_of_getElem? (i := 1139) (by decide +kernel), List.mem_of_getElem? (i := 1363) (by decide +kernel), List.mem_of_getElem? (i := 1364) (by decide +kernel)⟩
theorem lw_p59 : lw_okq (⟨"DayPortModel", "named", "(II)I"⟩, 36) := ⟨⟨by decide +kernel, by decide +kernel⟩, List.mem_of_getElem? (i := 1139) (by decide +kernel), List.mem_of_getElem? (i := 1372) (by decide +kernel), List.mem_of_getElem? (i := 1373) (by decide +kernel)⟩
theorem lw_p60 : lw_okq (⟨"DayPortModel", "townLine", "()V"⟩, 36) := ⟨⟨by decide +kernel, by decide +kernel⟩, List.mem_of_getElem? (i := 1139) (by decide +kernel), List.mem_of_getElem? (i := 1379) (by decide +kernel), List.mem_of_getElem? (i := 1380) (by decide +kernel)⟩
theorem lw_p61 : lw_okq (⟨"DayPortModel", "roadLine", "()V"⟩, 36) := ⟨⟨by decide +kernel, by decide +kernel⟩, List.mem_of_getElem? (i := 1139) (by decide +kernel), List.mem_of_getElem? (i := 1384) (by decide +kernel), List.mem_of_getElem? (i := 1385) (by decide +kernel)⟩
theorem lw_p62 : lw_okq (⟨"DayPortModel", "townHere", "()I"⟩, 36) := ⟨⟨by decide +kernel, by decide +kernel⟩, List.mem_of_getElem? (i := 1139) (by decide +kernel), List.mem_of_getElem? (i := 1388) (by decide +kernel), List.mem_of_getElem? (i := 1389) (by decide +kernel)⟩
theorem lw_p63 : lw_okq (⟨"DayPortModel", "openedLine", "()V"⟩, 36) := ⟨⟨by decide +kernel, by decide +kernel⟩, List.mem_of_getElem? (i := 1139) (by decide +kernel), List.mem_of_getElem? (i := 1393) (by decide +kernel), List.mem_of_getElem? (i := 1394) (by decide +kernel)⟩
def lw_privs_4 : List (MethodName × Nat) := [(⟨"DayPortModel", "after", "(Ljava/lang/String;II)I"⟩, 36), (⟨"DayPortModel", "must", "(Ljava/lang/String;)V"⟩, 36), (⟨"DayPortModel", "takesWord", "(Ljava/lang/String;)Z"⟩, 36), (⟨"DayPortModel", "number", "(II)I"⟩, 36), (⟨"DayPortModel", "numberHere", "(II)I"⟩, 36), (⟨"DayPortModel", "begins", "(Ljava/lang/String;Z)Z"⟩, 36), (⟨"DayPortModel", "shipLine", "()V"⟩, 36), (⟨"DayPortModel", "newName", "(I)V"⟩, 36), (⟨"DayPortModel", "mustName", "()V"⟩, 36), (⟨"DayPortModel", "find", "()I"⟩, 36), (⟨"DayPortModel", "crateLine", "()V"⟩, 36), (⟨"DayPortModel", "named", "(II)I"⟩, 36), (⟨"DayPortModel", "townLine", "()V"⟩, 36), (⟨"DayPortModel", "roadLine", "()V"⟩, 36), (⟨"DayPortModel", "townHere", "()I"⟩, 36), (⟨"DayPortModel", "openedLine", "()V"⟩, 36)]
theorem lw_r4 : ∀ q ∈ lw_privs_4, lw_okq q := List.forall_mem_cons.mpr ⟨lw_p48, List.forall_mem_cons.mpr ⟨lw_p49, List.forall_mem_cons.mpr ⟨lw_p50, List.forall_mem_cons.mpr ⟨lw_p51, List.forall_mem_cons.mpr ⟨lw_p52, List.forall_mem_cons.mpr ⟨lw_p53, List.forall_mem_cons.mpr ⟨lw_p54, List.forall_mem_cons.mpr ⟨lw_p55, List.forall_mem_cons.mpr ⟨lw_p56, List.forall_mem_cons.mpr ⟨lw_p57, List.forall_mem_cons.mpr ⟨lw_p58, List.forall_mem_cons.mpr ⟨lw_p59, List.forall_mem_cons.mpr ⟨lw_p60, List.forall_mem_cons.mpr ⟨lw_p61, List.forall_mem_cons.mpr ⟨lw_p62, List.forall_mem_cons.mpr ⟨lw_p63, fun _ h => absurd h List.not_mem_nil⟩⟩⟩⟩⟩⟩⟩⟩⟩⟩⟩⟩⟩⟩⟩⟩
theorem lw_p64 : lw_okq (⟨"DayPortModel", "ofCrate", "(II)I"⟩, 36) := ⟨⟨by decide +kernel, by decide +kernel⟩, List.mem_of_getElem? (i := 1139) (by decide +kernel), List.mem_of_getElem? (i := 1401) (by decide +kernel), List.mem_of_getElem? (i := 1402) (by decide +kernel)⟩
theorem lw_p65 : lw_okq (⟨"DayPortModel", "isCrate", "(I)Z"⟩, 36) := ⟨⟨by decide +kernel, by decide +kernel⟩, List.mem_of_getElem? (i := 1139) (by decide +kernel), List.mem_of_getElem? (i := 1417) (by decide +kernel), List.mem_of_getElem? (i := 1418) (by decide +kernel)⟩
theorem lw_p66 : lw_okq (⟨"DayPortModel", "isStack", "(II)Z"⟩, 36) := ⟨⟨by decide +kernel, by decide +kernel⟩, List.mem_of_getElem? (i := 1139) (by decide +kernel), List.mem_of_getElem? (i := 1425) (by decide +kernel), List.mem_of_getElem? (i := 1426) (by decide +kernel)⟩
theorem lw_p67 : lw_okq (⟨"DayPortModel", "isShip", "(I)Z"⟩, 36) := ⟨⟨by decide +kernel, by decide +kernel⟩, List.mem_of_getElem? (i := 1139) (by decide +kernel), List.mem_of_getElem? (i := 1429) (by decide +kernel), List.mem_of_getElem? (i := 1430) (by decide +kernel)⟩
theorem lw_p68 : lw_okq (⟨"DayPortModel", "highOf", "(II)I"⟩, 36) := ⟨⟨by decide +kernel, by decide +kernel⟩, List.mem_of_getElem? (i := 1139) (by decide +kernel), List.mem_of_getElem? (i := 1433) (by decide +kernel), List.mem_of_getElem? (i := 1434) (by decide +kernel)⟩
theorem lw_p69 : lw_okq (⟨"DayPortModel", "lyingAt", "(III)I"⟩, 36) := ⟨⟨by decide +kernel, by decide +kernel⟩, List.mem_of_getElem? (i := 1139) (by decide +kernel), List.mem_of_getElem? (i := 1441) (by decide +kernel), List.mem_of_getElem? (i := 1442) (by decide +kernel)⟩
theorem lw_p70 : lw_okq (⟨"DayPortModel", "nextOnQuay", "()I"⟩, 36) := ⟨⟨by decide +kernel, by decide +kernel⟩, List.mem_of_getElem? (i := 1139) (by decide +kernel), List.mem_of_getElem? (i := 1453) (by decide +kernel), List.mem_of_getElem? (i := 1454) (by decide +kernel)⟩
theorem lw_p71 : lw_okq (⟨"DayPortModel", "numberHad", "(I)I"⟩, 36) := ⟨⟨by decide +kernel, by decide +kernel⟩, List.mem_of_getElem? (i := 1139) (by decide +kernel), List.mem_of_getElem? (i := 1461) (by decide +kernel), List.mem_of_getElem? (i := 1462) (by decide +kernel)⟩
theorem lw_p72 : lw_okq (⟨"DayPortModel", "dayOf", "(I)I"⟩, 36) := ⟨⟨by decide +kernel, by decide +kernel⟩, List.mem_of_getElem? (i := 1139) (by decide +kernel), List.mem_of_getElem? (i := 1469) (by decide +kernel), List.mem_of_getElem? (i := 1470) (by decide +kernel)⟩
theorem lw_p73 : lw_okq (⟨"DayPortModel", "ofShip", "(II)I"⟩, 36) := ⟨⟨by decide +kernel, by decide +kernel⟩, List.mem_of_getElem? (i := 1139) (by decide +kernel), List.mem_of_getElem? (i := 1485) (by decide +kernel), List.mem_of_getElem? (i := 1486) (by decide +kernel)⟩
theorem lw_p74 : lw_okq (⟨"DayPortModel", "cratesOf", "(I)I"⟩, 36) := ⟨⟨by decide +kernel, by decide +kernel⟩, List.mem_of_getElem? (i := 1139) (by decide +kernel), List.mem_of_getElem? (i := 1489) (by decide +kernel), List.mem_of_getElem? (i := 1490) (by decide +kernel)⟩
theorem lw_p75 : lw_okq (⟨"DayPortModel", "comeOf", "(II)I"⟩, 36) := ⟨⟨by decide +kernel, by decide +kernel⟩, List.mem_of_getElem? (i := 1139) (by decide +kernel), List.mem_of_getElem? (i := 1497) (by decide +kernel), List.mem_of_getElem? (i := 1498) (by decide +kernel)⟩
theorem lw_p76 : lw_okq (⟨"DayPortModel", "layWays", "(I)Z"⟩, 36) := ⟨⟨by decide +kernel, by decide +kernel⟩, List.mem_of_getElem? (i := 1139) (by decide +kernel), List.mem_of_getElem? (i := 1517) (by decide +kernel), List.mem_of_getElem? (i := 1518) (by decide +kernel)⟩
theorem lw_p77 : lw_okq (⟨"DayPortModel", "placeOf", "(J)I"⟩, 36) := ⟨⟨by decide +kernel, by decide +kernel⟩, List.mem_of_getElem? (i := 1139) (by decide +kernel), List.mem_of_getElem? (i := 1522) (by decide +kernel), List.mem_of_getElem? (i := 1523) (by decide +kernel)⟩
theorem lw_p78 : lw_okq (⟨"DayPortModel", "lifted", "(JII)J"⟩, 36) := ⟨⟨by decide +kernel, by decide +kernel⟩, List.mem_of_getElem? (i := 1139) (by decide +kernel), List.mem_of_getElem? (i := 1529) (by decide +kernel), List.mem_of_getElem? (i := 1530) (by decide +kernel)⟩
theorem lw_p79 : lw_okq (⟨"DayPortModel", "nearer", "(I)Z"⟩, 36) := ⟨⟨by decide +kernel, by decide +kernel⟩, List.mem_of_getElem? (i := 1139) (by decide +kernel), List.mem_of_getElem? (i := 1540) (by decide +kernel), List.mem_of_getElem? (i := 1541) (by decide +kernel)⟩
def lw_privs_5 : List (MethodName × Nat) := [(⟨"DayPortModel", "ofCrate", "(II)I"⟩, 36), (⟨"DayPortModel", "isCrate", "(I)Z"⟩, 36), (⟨"DayPortModel", "isStack", "(II)Z"⟩, 36), (⟨"DayPortModel", "isShip", "(I)Z"⟩, 36), (⟨"DayPortModel", "highOf", "(II)I"⟩, 36), (⟨"DayPortModel", "lyingAt", "(III)I"⟩, 36), (⟨"DayPortModel", "nextOnQuay", "()I"⟩, 36), (⟨"DayPortModel", "numberHad", "(I)I"⟩, 36), (⟨"DayPortModel", "dayOf", "(I)I"⟩, 36), (⟨"DayPortModel", "ofShip", "(II)I"⟩, 36), (⟨"DayPortModel", "cratesOf", "(I)I"⟩, 36), (⟨"DayPortModel", "comeOf", "(II)I"⟩, 36), (⟨"DayPortModel", "layWays", "(I)Z"⟩, 36), (⟨"DayPortModel", "placeOf", "(J)I"⟩, 36), (⟨"DayPortModel", "lifted", "(JII)J"⟩, 36), (⟨"DayPortModel", "nearer", "(I)Z"⟩, 36)]
theorem lw_r5 : ∀ q ∈ lw_privs_5, lw_okq q := List.forall_mem_cons.mpr ⟨lw_p64, List.forall_mem_cons.mpr ⟨lw_p65, List.forall_mem_cons.mpr ⟨lw_p66, List.forall_mem_cons.mpr ⟨lw_p67, List.forall_mem_cons.mpr ⟨lw_p68, List.forall_mem_cons.mpr ⟨lw_p69, List.forall_mem_cons.mpr ⟨lw_p70, List.forall_mem_cons.mpr ⟨lw_p71, List.forall_mem_cons.mpr ⟨lw_p72, List.forall_mem_cons.mpr ⟨lw_p73, List.forall_mem_cons.mpr ⟨lw_p74, List.forall_mem_cons.mpr ⟨lw_p75, List.forall_mem_cons.mpr ⟨lw_p76, List.forall_mem_cons.mpr ⟨lw_p77, List.forall_mem_cons.mpr ⟨lw_p78, List.forall_mem_cons.mpr ⟨lw_p79, fun _ h => absurd h List.not_mem_nil⟩⟩⟩⟩⟩⟩⟩⟩⟩⟩⟩⟩⟩⟩⟩⟩
theorem lw_p80 : lw_okq (⟨"DayPortModel", "costOf", "(JI)I"⟩, 36) := ⟨⟨by decide +kernel, by decide +kernel⟩, List.mem_of_getElem? (i := 1139) (by decide +kernel), List.mem_of_getElem? (i := 1544) (by decide +kernel), List.mem_of_getElem? (i := 1545) (by decide +kernel)⟩
theorem lw_p81 : lw_okq (⟨"DayPortModel", "firstLift", "(J)I"⟩, 36) := ⟨⟨by decide +kernel, by decide +kernel⟩, List.mem_of_getElem? (i := 1139) (by decide +kernel), List.mem_of_getElem? (i := 1552) (by decide +kernel), List.mem_of_getElem? (i := 1553) (by decide +kernel)⟩
theorem lw_p82 : lw_okq (⟨"DayPortModel", "weightOn", "(II)I"⟩, 36) := ⟨⟨by decide +kernel, by decide +kernel⟩, List.mem_of_getElem? (i := 1139) (by decide +kernel), List.mem_of_getElem? (i := 1572) (by decide +kernel), List.mem_of_getElem? (i := 1573) (by decide +kernel)⟩
theorem lw_p83 : lw_okq (⟨"DayPortModel", "laySets", "()V"⟩, 36) := ⟨⟨by decide +kernel, by decide +kernel⟩, List.mem_of_getElem? (i := 1139) (by decide +kernel), List.mem_of_getElem? (i := 1580) (by decide +kernel), List.mem_of_getElem? (i := 1581) (by decide +kernel)⟩
theorem lw_p84 : lw_okq (⟨"DayPortModel", "askOf", "()I"⟩, 36) := ⟨⟨by decide +kernel, by decide +kernel⟩, List.mem_of_getElem? (i := 1139) (by decide +kernel), List.mem_of_getElem? (i := 1599) (by decide +kernel), List.mem_of_getElem? (i := 1600) (by decide +kernel)⟩
theorem lw_p85 : lw_okq (⟨"DayPortModel", "leftBy", "(I)I"⟩, 36) := ⟨⟨by decide +kernel, by decide +kernel⟩, List.mem_of_getElem? (i := 1139) (by decide +kernel), List.mem_of_getElem? (i := 1603) (by decide +kernel), List.mem_of_getElem? (i := 1604) (by decide +kernel)⟩
theorem lw_p86 : lw_okq (⟨"DayPortModel", "isTown", "(I)Z"⟩, 36) := ⟨⟨by decide +kernel, by decide +kernel⟩, List.mem_of_getElem? (i := 1139) (by decide +kernel), List.mem_of_getElem? (i := 1615) (by decide +kernel), List.mem_of_getElem? (i := 1616) (by decide +kernel)⟩
theorem lw_p87 : lw_okq (⟨"DayPortModel", "lateOf", "(I)I"⟩, 36) := ⟨⟨by decide +kernel, by decide +kernel⟩, List.mem_of_getElem? (i := 1139) (by decide +kernel), List.mem_of_getElem? (i := 1623) (by decide +kernel), List.mem_of_getElem? (i := 1624) (by decide +kernel)⟩
theorem lw_p88 : lw_okq (⟨"DayPortModel", "layDays", "(I)V"⟩, 36) := ⟨⟨by decide +kernel, by decide +kernel⟩, List.mem_of_getElem? (i := 1139) (by decide +kernel), List.mem_of_getElem? (i := 1627) (by decide +kernel), List.mem_of_getElem? (i := 1628) (by decide +kernel)⟩
theorem lw_p89 : lw_okq (⟨"DayPortModel", "inlandOf", "(II)I"⟩, 36) := ⟨⟨by decide +kernel, by decide +kernel⟩, List.mem_of_getElem? (i := 1139) (by decide +kernel), List.mem_of_getElem? (i := 1643) (by decide +kernel), List.mem_of_getElem? (i := 1644) (by decide +kernel)⟩
theorem lw_p90 : lw_okq (⟨"DayPortModel", "strikeOf", "(IIZ)I"⟩, 36) := ⟨⟨by decide +kernel, by decide +kernel⟩, List.mem_of_getElem? (i := 1139) (by decide +kernel), List.mem_of_getElem? (i := 1655) (by decide +kernel), List.mem_of_getElem? (i := 1656) (by decide +kernel)⟩
theorem lw_p91 : lw_okq (⟨"DayPortModel", "seekRest", "(I)I"⟩, 36) := ⟨⟨by decide +kernel, by decide +kernel⟩, List.mem_of_getElem? (i := 1139) (by decide +kernel), List.mem_of_getElem? (i := 1663) (by decide +kernel), List.mem_of_getElem? (i := 1664) (by decide +kernel)⟩
theorem lw_p92 : lw_okq (⟨"DayPortModel", "isRest", "(II)Z"⟩, 36) := ⟨⟨by decide +kernel, by decide +kernel⟩, List.mem_of_getElem? (i := 1139) (by decide +kernel), List.mem_of_getElem? (i := 1667) (by decide +kernel), List.mem_of_getElem? (i := 1668) (by decide +kernel)⟩
theorem lw_p93 : lw_okq (⟨"DayPortModel", "goThrough", "()V"⟩, 36) := ⟨⟨by decide +kernel, by decide +kernel⟩, List.mem_of_getElem? (i := 1139) (by decide +kernel), List.mem_of_getElem? (i := 1680) (by decide +kernel), List.mem_of_getElem? (i := 1681) (by decide +kernel)⟩
theorem lw_p94 : lw_okq (⟨"DayPortModel", "note", "()V"⟩, 36) := ⟨⟨by decide +kernel, by decide +kernel⟩, List.mem_of_getElem? (i := 1139) (by decide +kernel), List.mem_of_getElem? (i := 1693) (by decide +kernel), List.mem_of_getElem? (i := 1694) (by decide +kernel)⟩
theorem lw_p95 : lw_okq (⟨"DayPortModel", "isNot", "(I)Z"⟩, 36) := ⟨⟨by decide +kernel, by decide +kernel⟩, List.mem_of_getElem? (i := 1139) (by decide +kernel), List.mem_of_getElem? (i := 1705) (by decide +kernel), List.mem_of_getElem? (i := 1706) (by decide +kernel)⟩
def lw_privs_6 : List (MethodName × Nat) := [(⟨"DayPortModel", "costOf", "(JI)I"⟩, 36), (⟨"DayPortModel", "firstLift", "(J)I"⟩, 36), (⟨"DayPortModel", "weightOn", "(II)I"⟩, 36), (⟨"DayPortModel", "laySets", "()V"⟩, 36), (⟨"DayPortModel", "askOf", "()I"⟩, 36), (⟨"DayPortModel", "leftBy", "(I)I"⟩, 36), (⟨"DayPortModel", "isTown", "(I)Z"⟩, 36), (⟨"DayPortModel", "lateOf", "(I)I"⟩, 36), (⟨"DayPortModel", "layDays", "(I)V"⟩, 36), (⟨"DayPortModel", "inlandOf", "(II)I"⟩, 36), (⟨"DayPortModel", "strikeOf", "(IIZ)I"⟩, 36), (⟨"DayPortModel", "seekRest", "(I)I"⟩, 36), (⟨"DayPortModel", "isRest", "(II)Z"⟩, 36), (⟨"DayPortModel", "goThrough", "()V"⟩, 36), (⟨"DayPortModel", "note", "()V"⟩, 36), (⟨"DayPortModel", "isNot", "(I)Z"⟩, 36)]
theorem lw_r6 : ∀ q ∈ lw_privs_6, lw_okq q := List.forall_mem_cons.mpr ⟨lw_p80, List.forall_mem_cons.mpr ⟨lw_p81, List.forall_mem_cons.mpr ⟨lw_p82, List.forall_mem_cons.mpr ⟨lw_p83, List.forall_mem_cons.mpr ⟨lw_p84, List.forall_mem_cons.mpr ⟨lw_p85, List.forall_mem_cons.mpr ⟨lw_p86, List.forall_mem_cons.mpr ⟨lw_p87, List.forall_mem_cons.mpr ⟨lw_p88, List.forall_mem_cons.mpr ⟨lw_p89, List.forall_mem_cons.mpr ⟨lw_p90, List.forall_mem_cons.mpr ⟨lw_p91, List.forall_mem_cons.mpr ⟨lw_p92, List.forall_mem_cons.mpr ⟨lw_p93, List.forall_mem_cons.mpr ⟨lw_p94, List.forall_mem_cons.mpr ⟨lw_p95, fun _ h => absurd h List.not_mem_nil⟩⟩⟩⟩⟩⟩⟩⟩⟩⟩⟩⟩⟩⟩⟩⟩
theorem lw_p96 : lw_okq (⟨"DayPortModel", "openedNow", "()I"⟩, 36) := ⟨⟨by decide +kernel, by decide +kernel⟩, List.mem_of_getElem? (i := 1139) (by decide +kernel), List.mem_of_getElem? (i := 1729) (by decide +kernel), List.mem_of_getElem? (i := 1730) (by decide +kernel)⟩
def lw_privs_7 : List (MethodName × Nat) := [(⟨"DayPortModel", "openedNow", "()I"⟩, 36)]
theorem lw_r7 : ∀ q ∈ lw_privs_7, lw_okq q := List.forall_mem_cons.mpr ⟨lw_p96, fun _ h => absurd h List.not_mem_nil⟩
def lw_privs : List (MethodName × Nat) := lw_privs_1 ++ (lw_privs_2 ++ (lw_privs_3 ++ (lw_privs_4 ++ (lw_privs_5 ++ (lw_privs_6 ++ (lw_privs_7))))))
def lw_tbl : List Cond := k2_sels lw_privs ++ tables_1
theorem lw_privs_ok : ∀ q ∈ lw_privs, lw_okq q := by
  show ∀ q ∈ lw_privs_1 ++ (lw_privs_2 ++ (lw_privs_3 ++ (lw_privs_4 ++ (lw_privs_5 ++ (lw_privs_6 ++ (lw_privs_7)))))), lw_okq q
  exact List.forall_mem_append.mpr ⟨lw_r1, List.forall_mem_append.mpr ⟨lw_r2, List.forall_mem_append.mpr ⟨lw_r3, List.forall_mem_append.mpr ⟨lw_r4, List.forall_mem_append.mpr ⟨lw_r5, List.forall_mem_append.mpr ⟨lw_r6, lw_r7⟩⟩⟩⟩⟩⟩
def RX0 : String := "DayPort$Crate"
def TX0 : u_T := fun k => match k with
  | 0 => ("DayPort$Crate", "kind", "I", false)
  | 1 => ("DayPort$Crate", "ship", "I", false)
  | 2 => ("DayPort$Crate", "stack", "I", false)
  | 3 => ("DayPort$Crate", "number", "I", false)
  | 4 => ("DayPort$Crate", "weighs", "I", false)
  | _ => ("DayPort$Crate", "opened", "I", false)
def tyX0 : Nat → FieldType := fun k => match k with
  | 0 => .int
  | 1 => .int
  | 2 => .int
  | 3 => .int
  | 4 => .int
  | _ => .int
abbrev wsX00 : List Cond := u_ws RX0 TX0 6
theorem nmX0 : ∀ a, a < 6 → ∀ b, b < 6 → a ≠ b → (TX0 a).2.1 ≠ (TX0 b).2.1 := by decide +kernel
theorem tyX0_ok : ∀ k, k < 6 → parseFieldDescriptor (TX0 k).2.2.1 = some (tyX0 k) := by decide +kernel
abbrev cX0_init : ByteArray := prog_2_method_1_code
def yX0_init : MethodName := ⟨RX0, "<init>", "()V"⟩
abbrev cX0_effort : ByteArray := prog_2_method_2_code
def yX0_effort : MethodName := ⟨RX0, "effort", "()I"⟩
def RX1 : String := "DayPort$Inland"
def TX1 : u_T := fun k => match k with
  | _ => ("DayPort$Inland", "apart", "[[I", true)
def tyX1 : Nat → FieldType := fun k => match k with
  | _ => .array (.array .int)
abbrev wsX10 : List Cond := u_ws RX1 TX1 1
theorem nmX1 : ∀ a, a < 1 → ∀ b, b < 1 → a ≠ b → (TX1 a).2.1 ≠ (TX1 b).2.1 := by decide +kernel
theorem tyX1_ok : ∀ k, k < 1 → parseFieldDescriptor (TX1 k).2.2.1 = some (tyX1 k) := by decide +kernel
abbrev cX1_init : ByteArray := prog_3_method_1_code
def yX1_init : MethodName := ⟨RX1, "<init>", "()V"⟩
abbrev cX1_measure : ByteArray := prog_3_method_2_code
def yX1_measure : MethodName := ⟨RX1, "measure", "(LDayPort$Port;)V"⟩
abbrev cX1_lateOrNothing : ByteArray := prog_3_method_3_code
def yX1_lateOrNothing : MethodName := ⟨RX1, "lateOrNothing", "(I)I"⟩
abbrev cX1_townOnWay : ByteArray := prog_3_method_4_code
def yX1_townOnWay : MethodName := ⟨RX1, "townOnWay", "(LDayPort$Port;II)I"⟩
abbrev cX1_onward : ByteArray := prog_3_method_5_code
def yX1_onward : MethodName := ⟨RX1, "onward", "(LDayPort$Port;II)I"⟩
abbrev cX1_minutesOf : ByteArray := prog_3_method_6_code
def yX1_minutesOf : MethodName := ⟨RX1, "minutesOf", "(LDayPort$Port;II)I"⟩
def RX2 : String := "DayPort$Night"
def TX2 : u_T := fun k => match k with
  | 0 => ("DayPort$Night", "sets", "I", false)
  | 1 => ("DayPort$Night", "best", "I", false)
  | 2 => ("DayPort$Night", "bestLeaves", "I", false)
  | 3 => ("DayPort$Night", "ways", "[I", true)
  | _ => ("DayPort$Night", "goal", "I", false)
def tyX2 : Nat → FieldType := fun k => match k with
  | 0 => .int
  | 1 => .int
  | 2 => .int
  | 3 => .array .int
  | _ => .int
abbrev wsX20 : List Cond := u_ws RX2 TX2 5
theorem nmX2 : ∀ a, a < 5 → ∀ b, b < 5 → a ≠ b → (TX2 a).2.1 ≠ (TX2 b).2.1 := by decide +kernel
theorem tyX2_ok : ∀ k, k < 5 → parseFieldDescriptor (TX2 k).2.2.1 = some (tyX2 k) := by decide +kernel
abbrev cX2_init : ByteArray := prog_4_method_1_code
def yX2_init : MethodName := ⟨RX2, "<init>", "()V"⟩
abbrev cX2_count : ByteArray := prog_4_method_2_code
def yX2_count : MethodName := ⟨RX2, "count", "(LDayPort$Port;LDayPort$Yard;)V"⟩
abbrev cX2_addCrate : ByteArray := prog_4_method_3_code
def yX2_addCrate : MethodName := ⟨RX2, "addCrate", "(II)V"⟩
abbrev cX2_waysOf : ByteArray := prog_4_method_4_code
def yX2_waysOf : MethodName := ⟨RX2, "waysOf", "(I)I"⟩
abbrev cX2_setsWith : ByteArray := prog_4_method_5_code
def yX2_setsWith : MethodName := ⟨RX2, "setsWith", "(LDayPort$Port;LDayPort$Yard;I)I"⟩
abbrev cX2_choose : ByteArray := prog_4_method_6_code
def yX2_choose : MethodName := ⟨RX2, "choose", "(LDayPort$Port;LDayPort$Yard;)V"⟩
def RX3 : String := "DayPort$Outing"
def TX3 : u_T := fun k => match k with
  | 0 => ("DayPort$Outing", "path", "[I", true)
  | 1 => ("DayPort$Outing", "pathLength", "I", false)
  | 2 => ("DayPort$Outing", "fewestLifts", "I", false)
  | 3 => ("DayPort$Outing", "possible", "Z", false)
  | 4 => ("DayPort$Outing", "piles", "[I", true)
  | 5 => ("DayPort$Outing", "heights", "[I", true)
  | 6 => ("DayPort$Outing", "efforts", "[I", true)
  | 7 => ("DayPort$Outing", "frail", "[Z", true)
  | 8 => ("DayPort$Outing", "count", "I", false)
  | _ => ("DayPort$Outing", "bound", "I", false)
def tyX3 : Nat → FieldType := fun k => match k with
  | 0 => .array .int
  | 1 => .int
  | 2 => .int
  | 3 => .boolean
  | 4 => .array .int
  | 5 => .array .int
  | 6 => .array .int
  | 7 => .array .boolean
  | 8 => .int
  | _ => .int
abbrev wsX30 : List Cond := u_ws RX3 TX3 10
theorem nmX3 : ∀ a, a < 10 → ∀ b, b < 10 → a ≠ b → (TX3 a).2.1 ≠ (TX3 b).2.1 := by decide +kernel
theorem tyX3_ok : ∀ k, k < 10 → parseFieldDescriptor (TX3 k).2.2.1 = some (tyX3 k) := by decide +kernel
abbrev cX3_init : ByteArray := prog_5_method_1_code
def yX3_init : MethodName := ⟨RX3, "<init>", "()V"⟩
abbrev cX3_solve : ByteArray := prog_5_method_2_code
def yX3_solve : MethodName := ⟨RX3, "solve", "(LDayPort$Port;LDayPort$Yard;I)V"⟩
abbrev cX3_load : ByteArray := prog_5_method_3_code
def yX3_load : MethodName := ⟨RX3, "load", "(LDayPort$Port;LDayPort$Yard;I)V"⟩
abbrev cX3_rankOf : ByteArray := prog_5_method_4_code
def yX3_rankOf : MethodName := ⟨RX3, "rankOf", "(LDayPort$Port;LDayPort$Yard;I)I"⟩
abbrev cX3_canCome : ByteArray := prog_5_method_5_code
def yX3_canCome : MethodName := ⟨RX3, "canCome", "(LDayPort$Port;LDayPort$Yard;I)Z"⟩
abbrev cX3_stillNeeded : ByteArray := prog_5_method_6_code
def yX3_stillNeeded : MethodName := ⟨RX3, "stillNeeded", "(I)I"⟩
abbrev cX3_seek : ByteArray := prog_5_method_7_code
def yX3_seek : MethodName := ⟨RX3, "seek", "(IIII)Z"⟩
abbrev cX3_seekFrom : ByteArray := prog_5_method_8_code
def yX3_seekFrom : MethodName := ⟨RX3, "seekFrom", "(IIII)Z"⟩
abbrev cX3_move : ByteArray := prog_5_method_9_code
def yX3_move : MethodName := ⟨RX3, "move", "(II)V"⟩
def RX4 : String := "DayPort$Port"
def TX4 : u_T := fun k => match k with
  | 0 => ("DayPort$Port", "straw", "I", false)
  | 1 => ("DayPort$Port", "wage", "I", false)
  | 2 => ("DayPort$Port", "gang", "I", false)
  | 3 => ("DayPort$Port", "council", "I", false)
  | 4 => ("DayPort$Port", "ships", "[LDayPort$Ship;", true)
  | 5 => ("DayPort$Port", "shipCount", "I", false)
  | 6 => ("DayPort$Port", "crates", "[LDayPort$Crate;", true)
  | 7 => ("DayPort$Port", "crateCount", "I", false)
  | 8 => ("DayPort$Port", "people", "[I", true)
  | 9 => ("DayPort$Port", "townCount", "I", false)
  | 10 => ("DayPort$Port", "roadDays", "[[I", true)
  | _ => ("DayPort$Port", "roadCount", "I", false)
def tyX4 : Nat → FieldType := fun k => match k with
  | 0 => .int
  | 1 => .int
  | 2 => .int
  | 3 => .int
  | 4 => .array (.object "DayPort$Ship")
  | 5 => .int
  | 6 => .array (.object "DayPort$Crate")
  | 7 => .int
  | 8 => .array .int
  | 9 => .int
  | 10 => .array (.array .int)
  | _ => .int
abbrev wsX40 : List Cond := u_ws RX4 TX4 12
theorem nmX4 : ∀ a, a < 12 → ∀ b, b < 12 → a ≠ b → (TX4 a).2.1 ≠ (TX4 b).2.1 := by decide +kernel
theorem tyX4_ok : ∀ k, k < 12 → parseFieldDescriptor (TX4 k).2.2.1 = some (tyX4 k) := by decide +kernel
abbrev cX4_init : ByteArray := prog_6_method_1_code
def yX4_init : MethodName := ⟨RX4, "<init>", "()V"⟩
abbrev cX4_empty : ByteArray := prog_6_method_2_code
def yX4_empty : MethodName := ⟨RX4, "empty", "()V"⟩
abbrev cX4_hasNumber : ByteArray := prog_6_method_3_code
def yX4_hasNumber : MethodName := ⟨RX4, "hasNumber", "(I)Z"⟩
abbrev cX4_peopleOfAll : ByteArray := prog_6_method_4_code
def yX4_peopleOfAll : MethodName := ⟨RX4, "peopleOfAll", "()I"⟩
def RX5 : String := "DayPort$Reader"
def TX5 : u_T := fun k => match k with
  | 0 => ("DayPort$Reader", "text", "[B", true)
  | 1 => ("DayPort$Reader", "length", "I", false)
  | 2 => ("DayPort$Reader", "port", "LDayPort$Port;", false)
  | 3 => ("DayPort$Reader", "begun", "Z", false)
  | 4 => ("DayPort$Reader", "kind", "I", false)
  | 5 => ("DayPort$Reader", "place", "I", false)
  | 6 => ("DayPort$Reader", "stop", "I", false)
  | 7 => ("DayPort$Reader", "letters", "J", false)
  | 8 => ("DayPort$Reader", "value", "I", false)
  | 9 => ("DayPort$Reader", "takenPlace", "I", false)
  | 10 => ("DayPort$Reader", "takenValue", "I", false)
  | 11 => ("DayPort$Reader", "takenIndex", "I", false)
  | 12 => ("DayPort$Reader", "names", "[J", true)
  | 13 => ("DayPort$Reader", "nameSorts", "[I", true)
  | 14 => ("DayPort$Reader", "nameIndices", "[I", true)
  | 15 => ("DayPort$Reader", "nameCount", "I", false)
  | 16 => ("DayPort$Reader", "fault", "I", false)
  | _ => ("DayPort$Reader", "faultPlace", "I", false)
def tyX5 : Nat → FieldType := fun k => match k with
  | 0 => .array .byte
  | 1 => .int
  | 2 => .object "DayPort$Port"
  | 3 => .boolean
  | 4 => .int
  | 5 => .int
  | 6 => .int
  | 7 => .long
  | 8 => .int
  | 9 => .int
  | 10 => .int
  | 11 => .int
  | 12 => .array .long
  | 13 => .array .int
  | 14 => .array .int
  | 15 => .int
  | 16 => .int
  | _ => .int
abbrev wsX50 : List Cond := u_ws RX5 TX5 18
theorem nmX5 : ∀ a, a < 18 → ∀ b, b < 18 → a ≠ b → (TX5 a).2.1 ≠ (TX5 b).2.1 := by decide +kernel
theorem tyX5_ok : ∀ k, k < 18 → parseFieldDescriptor (TX5 k).2.2.1 = some (tyX5 k) := by decide +kernel
abbrev cX5_init : ByteArray := prog_7_method_1_code
def yX5_init : MethodName := ⟨RX5, "<init>", "([BLDayPort$Port;)V"⟩
abbrev cX5_read : ByteArray := prog_7_method_2_code
def yX5_read : MethodName := ⟨RX5, "read", "(LDayPort$Port;I)Z"⟩
abbrev cX5_wrong : ByteArray := prog_7_method_3_code
def yX5_wrong : MethodName := ⟨RX5, "wrong", "(I)Z"⟩
abbrev cX5_wrongBehind : ByteArray := prog_7_method_4_code
def yX5_wrongBehind : MethodName := ⟨RX5, "wrongBehind", "(I)Z"⟩
abbrev cX5_step : ByteArray := prog_7_method_5_code
def yX5_step : MethodName := ⟨RX5, "step", "()V"⟩
abbrev cX5_kindOf : ByteArray := prog_7_method_6_code
def yX5_kindOf : MethodName := ⟨RX5, "kindOf", "(B)I"⟩
abbrev cX5_is : ByteArray := prog_7_method_7_code
def yX5_is : MethodName := ⟨RX5, "is", "(Ljava/lang/String;)Z"⟩
abbrev cX5_word : ByteArray := prog_7_method_8_code
def yX5_word : MethodName := ⟨RX5, "word", "(Ljava/lang/String;)Z"⟩
abbrev cX5_wordAndWhole : ByteArray := prog_7_method_9_code
def yX5_wordAndWhole : MethodName := ⟨RX5, "wordAndWhole", "(Ljava/lang/String;II)Z"⟩
abbrev cX5_beginsLine : ByteArray := prog_7_method_10_code
def yX5_beginsLine : MethodName := ⟨RX5, "beginsLine", "()Z"⟩
abbrev cX5_nameAt : ByteArray := prog_7_method_11_code
def yX5_nameAt : MethodName := ⟨RX5, "nameAt", "()I"⟩
abbrev cX5_newName : ByteArray := prog_7_method_12_code
def yX5_newName : MethodName := ⟨RX5, "newName", "(II)Z"⟩
abbrev cX5_toldName : ByteArray := prog_7_method_13_code
def yX5_toldName : MethodName := ⟨RX5, "toldName", "(I)Z"⟩
abbrev cX5_line : ByteArray := prog_7_method_14_code
def yX5_line : MethodName := ⟨RX5, "line", "()Z"⟩
abbrev cX5_portLine : ByteArray := prog_7_method_15_code
def yX5_portLine : MethodName := ⟨RX5, "portLine", "()Z"⟩
abbrev cX5_shipLine : ByteArray := prog_7_method_16_code
def yX5_shipLine : MethodName := ⟨RX5, "shipLine", "()Z"⟩
abbrev cX5_crateLine : ByteArray := prog_7_method_17_code
def yX5_crateLine : MethodName := ⟨RX5, "crateLine", "()Z"⟩
abbrev cX5_kindOfCrate : ByteArray := prog_7_method_18_code
def yX5_kindOfCrate : MethodName := ⟨RX5, "kindOfCrate", "()I"⟩
abbrev cX5_townLine : ByteArray := prog_7_method_19_code
def yX5_townLine : MethodName := ⟨RX5, "townLine", "()Z"⟩
abbrev cX5_roadLine : ByteArray := prog_7_method_20_code
def yX5_roadLine : MethodName := ⟨RX5, "roadLine", "()Z"⟩
abbrev cX5_openedLine : ByteArray := prog_7_method_21_code
def yX5_openedLine : MethodName := ⟨RX5, "openedLine", "()Z"⟩
def RX6 : String := "DayPort$Ship"
def TX6 : u_T := fun k => match k with
  | 0 => ("DayPort$Ship", "day", "I", false)
  | 1 => ("DayPort$Ship", "chance", "I", false)
  | 2 => ("DayPort$Ship", "late", "I", false)
  | 3 => ("DayPort$Ship", "says", "I", false)
  | _ => ("DayPort$Ship", "crates", "I", false)
def tyX6 : Nat → FieldType := fun k => match k with
  | 0 => .int
  | 1 => .int
  | 2 => .int
  | 3 => .int
  | _ => .int
abbrev wsX60 : List Cond := u_ws RX6 TX6 5
theorem nmX6 : ∀ a, a < 5 → ∀ b, b < 5 → a ≠ b → (TX6 a).2.1 ≠ (TX6 b).2.1 := by decide +kernel
theorem tyX6_ok : ∀ k, k < 5 → parseFieldDescriptor (TX6 k).2.2.1 = some (tyX6 k) := by decide +kernel
abbrev cX6_init : ByteArray := prog_8_method_1_code
def yX6_init : MethodName := ⟨RX6, "<init>", "()V"⟩
abbrev cX6_hundredthsBy : ByteArray := prog_8_method_2_code
def yX6_hundredthsBy : MethodName := ⟨RX6, "hundredthsBy", "(I)I"⟩
abbrev cX6_isLateBy : ByteArray := prog_8_method_3_code
def yX6_isLateBy : MethodName := ⟨RX6, "isLateBy", "(I)Z"⟩
abbrev cX6_comesOn : ByteArray := prog_8_method_4_code
def yX6_comesOn : MethodName := ⟨RX6, "comesOn", "(I)I"⟩
def RX7 : String := "DayPort$Strike"
def TX7 : u_T := fun k => match k with
  | 0 => ("DayPort$Strike", "restRow", "[I", true)
  | 1 => ("DayPort$Strike", "restCount", "I", false)
  | 2 => ("DayPort$Strike", "gangBest", "[I", true)
  | _ => ("DayPort$Strike", "councilBest", "[I", true)
def tyX7 : Nat → FieldType := fun k => match k with
  | 0 => .array .int
  | 1 => .int
  | 2 => .array .int
  | _ => .array .int
abbrev wsX70 : List Cond := u_ws RX7 TX7 4
theorem nmX7 : ∀ a, a < 4 → ∀ b, b < 4 → a ≠ b → (TX7 a).2.1 ≠ (TX7 b).2.1 := by decide +kernel
theorem tyX7_ok : ∀ k, k < 4 → parseFieldDescriptor (TX7 k).2.2.1 = some (tyX7 k) := by decide +kernel
abbrev cX7_init : ByteArray := prog_9_method_1_code
def yX7_init : MethodName := ⟨RX7, "<init>", "()V"⟩
abbrev cX7_ofGang : ByteArray := prog_9_method_2_code
def yX7_ofGang : MethodName := ⟨RX7, "ofGang", "(LDayPort$Port;II)I"⟩
abbrev cX7_ofCouncil : ByteArray := prog_9_method_3_code
def yX7_ofCouncil : MethodName := ⟨RX7, "ofCouncil", "(LDayPort$Port;II)I"⟩
abbrev cX7_settle : ByteArray := prog_9_method_4_code
def yX7_settle : MethodName := ⟨RX7, "settle", "(LDayPort$Port;)V"⟩
def RX8 : String := "DayPort$Yard"
def TX8 : u_T := fun k => match k with
  | 0 => ("DayPort$Yard", "piles", "[I", true)
  | 1 => ("DayPort$Yard", "heights", "[I", true)
  | 2 => ("DayPort$Yard", "quayRow", "[I", true)
  | 3 => ("DayPort$Yard", "onQuay", "I", false)
  | 4 => ("DayPort$Yard", "place", "[I", true)
  | 5 => ("DayPort$Yard", "lifted", "[I", true)
  | 6 => ("DayPort$Yard", "opened", "[I", true)
  | 7 => ("DayPort$Yard", "cameOn", "[I", true)
  | 8 => ("DayPort$Yard", "hadDay", "[I", true)
  | 9 => ("DayPort$Yard", "day", "I", false)
  | _ => ("DayPort$Yard", "lifts", "I", false)
def tyX8 : Nat → FieldType := fun k => match k with
  | 0 => .array .int
  | 1 => .array .int
  | 2 => .array .int
  | 3 => .int
  | 4 => .array .int
  | 5 => .array .int
  | 6 => .array .int
  | 7 => .array .int
  | 8 => .array .int
  | 9 => .int
  | _ => .int
abbrev wsX80 : List Cond := u_ws RX8 TX8 11
theorem nmX8 : ∀ a, a < 11 → ∀ b, b < 11 → a ≠ b → (TX8 a).2.1 ≠ (TX8 b).2.1 := by decide +kernel
theorem tyX8_ok : ∀ k, k < 11 → parseFieldDescriptor (TX8 k).2.2.1 = some (tyX8 k) := by decide +kernel
abbrev cX8_init : ByteArray := prog_10_method_1_code
def yX8_init : MethodName := ⟨RX8, "<init>", "()V"⟩
abbrev cX8_begin : ByteArray := prog_10_method_2_code
def yX8_begin : MethodName := ⟨RX8, "begin", "(LDayPort$Port;)V"⟩
abbrev cX8_become : ByteArray := prog_10_method_3_code
def yX8_become : MethodName := ⟨RX8, "become", "(LDayPort$Yard;)V"⟩
abbrev cX8_height : ByteArray := prog_10_method_4_code
def yX8_height : MethodName := ⟨RX8, "height", "(II)I"⟩
abbrev cX8_crateAt : ByteArray := prog_10_method_5_code
def yX8_crateAt : MethodName := ⟨RX8, "crateAt", "(III)I"⟩
abbrev cX8_pile : ByteArray := prog_10_method_6_code
def yX8_pile : MethodName := ⟨RX8, "pile", "(III)V"⟩
abbrev cX8_isBroken : ByteArray := prog_10_method_7_code
def yX8_isBroken : MethodName := ⟨RX8, "isBroken", "(LDayPort$Port;I)Z"⟩
abbrev cX8_liesAboveLesser : ByteArray := prog_10_method_8_code
def yX8_liesAboveLesser : MethodName := ⟨RX8, "liesAboveLesser", "(LDayPort$Port;III)Z"⟩
abbrev cX8_stackWeighs : ByteArray := prog_10_method_9_code
def yX8_stackWeighs : MethodName := ⟨RX8, "stackWeighs", "(LDayPort$Port;II)I"⟩
abbrev cX8_openedCount : ByteArray := prog_10_method_10_code
def yX8_openedCount : MethodName := ⟨RX8, "openedCount", "()I"⟩
abbrev cX8_firstDry : ByteArray := prog_10_method_11_code
def yX8_firstDry : MethodName := ⟨RX8, "firstDry", "(LDayPort$Port;)I"⟩
abbrev cX8_numberHadOn : ByteArray := prog_10_method_12_code
def yX8_numberHadOn : MethodName := ⟨RX8, "numberHadOn", "(LDayPort$Port;I)I"⟩
abbrev cX8_dayOfNumber : ByteArray := prog_10_method_13_code
def yX8_dayOfNumber : MethodName := ⟨RX8, "dayOfNumber", "(LDayPort$Port;I)I"⟩
abbrev cX8_hoist : ByteArray := prog_10_method_14_code
def yX8_hoist : MethodName := ⟨RX8, "hoist", "(LDayPort$Port;III)I"⟩
abbrev cX8_land : ByteArray := prog_10_method_15_code
def yX8_land : MethodName := ⟨RX8, "land", "(I)V"⟩
abbrev cX8_breakDay : ByteArray := prog_10_method_16_code
def yX8_breakDay : MethodName := ⟨RX8, "breakDay", "(LDayPort$Port;)I"⟩
def RX9 : String := "DayPort"
def TX9 : u_T := fun k => match k with
  | 0 => ("DayPort", "tape", "[B", true)
  | 1 => ("DayPort", "tapeLength", "I", false)
  | 2 => ("DayPort", "port", "LDayPort$Port;", false)
  | 3 => ("DayPort", "draft", "LDayPort$Port;", false)
  | 4 => ("DayPort", "reader", "LDayPort$Reader;", true)
  | 5 => ("DayPort", "told", "Z", false)
  | 6 => ("DayPort", "fault", "I", false)
  | 7 => ("DayPort", "trouble", "I", false)
  | 8 => ("DayPort", "now", "LDayPort$Yard;", true)
  | 9 => ("DayPort", "kept", "[LDayPort$Yard;", true)
  | 10 => ("DayPort", "keptCount", "I", false)
  | 11 => ("DayPort", "images", "[LDayPort$Yard;", true)
  | 12 => ("DayPort", "imageCount", "I", false)
  | 13 => ("DayPort", "outing", "LDayPort$Outing;", true)
  | 14 => ("DayPort", "nights", "LDayPort$Night;", true)
  | 15 => ("DayPort", "roads", "LDayPort$Inland;", true)
  | _ => ("DayPort", "dispute", "LDayPort$Strike;", true)
def tyX9 : Nat → FieldType := fun k => match k with
  | 0 => .array .byte
  | 1 => .int
  | 2 => .object "DayPort$Port"
  | 3 => .object "DayPort$Port"
  | 4 => .object "DayPort$Reader"
  | 5 => .boolean
  | 6 => .int
  | 7 => .int
  | 8 => .object "DayPort$Yard"
  | 9 => .array (.object "DayPort$Yard")
  | 10 => .int
  | 11 => .array (.object "DayPort$Yard")
  | 12 => .int
  | 13 => .object "DayPort$Outing"
  | 14 => .object "DayPort$Night"
  | 15 => .object "DayPort$Inland"
  | _ => .object "DayPort$Strike"
abbrev wsX90 : List Cond := u_ws RX9 TX9 17
theorem nmX9 : ∀ a, a < 17 → ∀ b, b < 17 → a ≠ b → (TX9 a).2.1 ≠ (TX9 b).2.1 := by decide +kernel
theorem tyX9_ok : ∀ k, k < 17 → parseFieldDescriptor (TX9 k).2.2.1 = some (tyX9 k) := by decide +kernel
abbrev cX9_init : ByteArray := prog_1_method_1_code
def yX9_init : MethodName := ⟨RX9, "<init>", "()V"⟩
abbrev cX9_feed : ByteArray := prog_1_method_2_code
def yX9_feed : MethodName := ⟨RX9, "feed", "(IIIII)I"⟩
abbrev cX9_port : ByteArray := prog_1_method_3_code
def yX9_port : MethodName := ⟨RX9, "port", "(I)I"⟩
abbrev cX9_fault : ByteArray := prog_1_method_4_code
def yX9_fault : MethodName := ⟨RX9, "fault", "()I"⟩
abbrev cX9_where : ByteArray := prog_1_method_5_code
def yX9_where : MethodName := ⟨RX9, "where", "()I"⟩
abbrev cX9_crate : ByteArray := prog_1_method_6_code
def yX9_crate : MethodName := ⟨RX9, "crate", "(II)I"⟩
abbrev cX9_high : ByteArray := prog_1_method_7_code
def yX9_high : MethodName := ⟨RX9, "high", "(II)I"⟩
abbrev cX9_lies : ByteArray := prog_1_method_8_code
def yX9_lies : MethodName := ⟨RX9, "lies", "(III)I"⟩
abbrev cX9_quay : ByteArray := prog_1_method_9_code
def yX9_quay : MethodName := ⟨RX9, "quay", "(I)I"⟩
abbrev cX9_next : ByteArray := prog_1_method_10_code
def yX9_next : MethodName := ⟨RX9, "next", "()I"⟩
abbrev cX9_had : ByteArray := prog_1_method_11_code
def yX9_had : MethodName := ⟨RX9, "had", "(I)I"⟩
abbrev cX9_hadOn : ByteArray := prog_1_method_12_code
def yX9_hadOn : MethodName := ⟨RX9, "hadOn", "(I)I"⟩
abbrev cX9_missing : ByteArray := prog_1_method_13_code
def yX9_missing : MethodName := ⟨RX9, "missing", "()I"⟩
abbrev cX9_evenings : ByteArray := prog_1_method_14_code
def yX9_evenings : MethodName := ⟨RX9, "evenings", "()I"⟩
abbrev cX9_judge : ByteArray := prog_1_method_15_code
def yX9_judge : MethodName := ⟨RX9, "judge", "()I"⟩
abbrev cX9_come : ByteArray := prog_1_method_16_code
def yX9_come : MethodName := ⟨RX9, "come", "(IIZ)J"⟩
abbrev cX9_allCome : ByteArray := prog_1_method_17_code
def yX9_allCome : MethodName := ⟨RX9, "allCome", "(IZ)J"⟩
abbrev cX9_sure : ByteArray := prog_1_method_18_code
def yX9_sure : MethodName := ⟨RX9, "sure", "(I)I"⟩
abbrev cX9_mean : ByteArray := prog_1_method_19_code
def yX9_mean : MethodName := ⟨RX9, "mean", "(IZ)J"⟩
abbrev cX9_weight : ByteArray := prog_1_method_20_code
def yX9_weight : MethodName := ⟨RX9, "weight", "(I)I"⟩
abbrev cX9_heaviest : ByteArray := prog_1_method_21_code
def yX9_heaviest : MethodName := ⟨RX9, "heaviest", "(I)I"⟩
abbrev cX9_fewest : ByteArray := prog_1_method_22_code
def yX9_fewest : MethodName := ⟨RX9, "fewest", "(I)I"⟩
abbrev cX9_liftAt : ByteArray := prog_1_method_23_code
def yX9_liftAt : MethodName := ⟨RX9, "liftAt", "(II)I"⟩
abbrev cX9_wrongly : ByteArray := prog_1_method_24_code
def yX9_wrongly : MethodName := ⟨RX9, "wrongly", "(I)I"⟩
abbrev cX9_fits : ByteArray := prog_1_method_25_code
def yX9_fits : MethodName := ⟨RX9, "fits", "()I"⟩
abbrev cX9_could : ByteArray := prog_1_method_26_code
def yX9_could : MethodName := ⟨RX9, "could", "()I"⟩
abbrev cX9_surely : ByteArray := prog_1_method_27_code
def yX9_surely : MethodName := ⟨RX9, "surely", "()I"⟩
abbrev cX9_ask : ByteArray := prog_1_method_28_code
def yX9_ask : MethodName := ⟨RX9, "ask", "()I"⟩
abbrev cX9_askLeaves : ByteArray := prog_1_method_29_code
def yX9_askLeaves : MethodName := ⟨RX9, "askLeaves", "()I"⟩
abbrev cX9_share : ByteArray := prog_1_method_30_code
def yX9_share : MethodName := ⟨RX9, "share", "(II)I"⟩
abbrev cX9_late : ByteArray := prog_1_method_31_code
def yX9_late : MethodName := ⟨RX9, "late", "(I)I"⟩
abbrev cX9_farthest : ByteArray := prog_1_method_32_code
def yX9_farthest : MethodName := ⟨RX9, "farthest", "()I"⟩
abbrev cX9_wayAt : ByteArray := prog_1_method_33_code
def yX9_wayAt : MethodName := ⟨RX9, "wayAt", "(II)I"⟩
abbrev cX9_inland : ByteArray := prog_1_method_34_code
def yX9_inland : MethodName := ⟨RX9, "inland", "(II)I"⟩
abbrev cX9_people : ByteArray := prog_1_method_35_code
def yX9_people : MethodName := ⟨RX9, "people", "(II)I"⟩
abbrev cX9_strike : ByteArray := prog_1_method_36_code
def yX9_strike : MethodName := ⟨RX9, "strike", "(IIZ)I"⟩
abbrev cX9_rests : ByteArray := prog_1_method_37_code
def yX9_rests : MethodName := ⟨RX9, "rests", "()I"⟩
abbrev cX9_rest : ByteArray := prog_1_method_38_code
def yX9_rest : MethodName := ⟨RX9, "rest", "(I)I"⟩
abbrev cX9_winter : ByteArray := prog_1_method_39_code
def yX9_winter : MethodName := ⟨RX9, "winter", "(I)I"⟩
abbrev cX9_lates : ByteArray := prog_1_method_40_code
def yX9_lates : MethodName := ⟨RX9, "lates", "(III)I"⟩
abbrev cX9_lift : ByteArray := prog_1_method_41_code
def yX9_lift : MethodName := ⟨RX9, "lift", "(III)I"⟩
abbrev cX9_dawn : ByteArray := prog_1_method_42_code
def yX9_dawn : MethodName := ⟨RX9, "dawn", "()I"⟩
abbrev cX9_open : ByteArray := prog_1_method_43_code
def yX9_open : MethodName := ⟨RX9, "open", "(IZ)Z"⟩
abbrev cX9_undo : ByteArray := prog_1_method_44_code
def yX9_undo : MethodName := ⟨RX9, "undo", "()Z"⟩
abbrev cX9_image : ByteArray := prog_1_method_45_code
def yX9_image : MethodName := ⟨RX9, "image", "()I"⟩
abbrev cX9_back : ByteArray := prog_1_method_46_code
def yX9_back : MethodName := ⟨RX9, "back", "(I)Z"⟩
abbrev cX9_led : ByteArray := prog_1_method_47_code
def yX9_led : MethodName := ⟨RX9, "led", "(I)I"⟩
abbrev cX9_size : ByteArray := prog_1_method_48_code
def yX9_size : MethodName := ⟨RX9, "size", "(I)I"⟩
abbrev cX9_trouble : ByteArray := prog_1_method_49_code
def yX9_trouble : MethodName := ⟨RX9, "trouble", "()I"⟩
abbrev cX9_refused : ByteArray := prog_1_method_50_code
def yX9_refused : MethodName := ⟨RX9, "refused", "(I)I"⟩
abbrev cX9_answered : ByteArray := prog_1_method_51_code
def yX9_answered : MethodName := ⟨RX9, "answered", "(I)I"⟩
abbrev cX9_denied : ByteArray := prog_1_method_52_code
def yX9_denied : MethodName := ⟨RX9, "denied", "(I)Z"⟩
abbrev cX9_granted : ByteArray := prog_1_method_53_code
def yX9_granted : MethodName := ⟨RX9, "granted", "()Z"⟩
abbrev cX9_noShip : ByteArray := prog_1_method_54_code
def yX9_noShip : MethodName := ⟨RX9, "noShip", "(I)Z"⟩
abbrev cX9_noStack : ByteArray := prog_1_method_55_code
def yX9_noStack : MethodName := ⟨RX9, "noStack", "(II)Z"⟩
abbrev cX9_noCrate : ByteArray := prog_1_method_56_code
def yX9_noCrate : MethodName := ⟨RX9, "noCrate", "(I)Z"⟩
abbrev cX9_noTown : ByteArray := prog_1_method_57_code
def yX9_noTown : MethodName := ⟨RX9, "noTown", "(I)Z"⟩
abbrev cX9_noNumber : ByteArray := prog_1_method_58_code
def yX9_noNumber : MethodName := ⟨RX9, "noNumber", "(I)Z"⟩
abbrev cX9_noComingDay : ByteArray := prog_1_method_59_code
def yX9_noComingDay : MethodName := ⟨RX9, "noComingDay", "(I)Z"⟩
abbrev cX9_noHold : ByteArray := prog_1_method_60_code
def yX9_noHold : MethodName := ⟨RX9, "noHold", "(I)Z"⟩
abbrev cX9_noSeed : ByteArray := prog_1_method_61_code
def yX9_noSeed : MethodName := ⟨RX9, "noSeed", "(I)Z"⟩
abbrev cX9_write : ByteArray := prog_1_method_62_code
def yX9_write : MethodName := ⟨RX9, "write", "(I)V"⟩
abbrev cX9_hadInland : ByteArray := prog_1_method_63_code
def yX9_hadInland : MethodName := ⟨RX9, "hadInland", "(II)I"⟩
abbrev cX9_draw : ByteArray := prog_1_method_64_code
def yX9_draw : MethodName := ⟨RX9, "draw", "(I)I"⟩
abbrev cX9_inLowestTerms : ByteArray := prog_1_method_65_code
def yX9_inLowestTerms : MethodName := ⟨RX9, "inLowestTerms", "(JJZ)J"⟩
abbrev cX9_commonDivisor : ByteArray := prog_1_method_66_code
def yX9_commonDivisor : MethodName := ⟨RX9, "commonDivisor", "(JJ)J"⟩
abbrev cX9_keepNow : ByteArray := prog_1_method_67_code
def yX9_keepNow : MethodName := ⟨RX9, "keepNow", "()V"⟩
def RX10 : String := "DayPortModel"
def TX10 : u_T := fun k => match k with
  | 0 => ("DayPortModel", "thrown", "I", false)
  | 1 => ("DayPortModel", "tape", "[I", true)
  | 2 => ("DayPortModel", "taped", "I", false)
  | 3 => ("DayPortModel", "size", "I", false)
  | 4 => ("DayPortModel", "at", "I", false)
  | 5 => ("DayPortModel", "end", "I", false)
  | 6 => ("DayPortModel", "token", "I", false)
  | 7 => ("DayPortModel", "whole", "I", false)
  | 8 => ("DayPortModel", "nameSize", "I", false)
  | 9 => ("DayPortModel", "fault", "I", false)
  | 10 => ("DayPortModel", "place", "I", false)
  | 11 => ("DayPortModel", "trouble", "I", false)
  | 12 => ("DayPortModel", "letters", "[I", true)
  | 13 => ("DayPortModel", "failed", "Z", false)
  | 14 => ("DayPortModel", "hasPort", "Z", false)
  | 15 => ("DayPortModel", "\x72", "[I", true)
  | 16 => ("DayPortModel", "fresh", "[I", true)
  | 17 => ("DayPortModel", "st", "[I", true)
  | 18 => ("DayPortModel", "undone", "[I", true)
  | 19 => ("DayPortModel", "kept", "[I", true)
  | 20 => ("DayPortModel", "undos", "I", false)
  | 21 => ("DayPortModel", "images", "I", false)
  | 22 => ("DayPortModel", "ways", "[J", true)
  | 23 => ("DayPortModel", "far", "[I", true)
  | 24 => ("DayPortModel", "found", "[I", true)
  | 25 => ("DayPortModel", "mine", "[I", true)
  | 26 => ("DayPortModel", "foundMany", "I", false)
  | 27 => ("DayPortModel", "mineMany", "I", false)
  | 28 => ("DayPortModel", "start", "J", false)
  | 29 => ("DayPortModel", "withIt", "[I", true)
  | 30 => ("DayPortModel", "setMany", "I", false)
  | 31 => ("DayPortModel", "days", "[I", true)
  | 32 => ("DayPortModel", "restMany", "I", false)
  | 33 => ("DayPortModel", "seedNow", "I", false)
  | 34 => ("DayPortModel", "lastDay", "I", false)
  | _ => ("DayPortModel", "lateSet", "I", false)
def tyX10 : Nat → FieldType := fun k => match k with
  | 0 => .int
  | 1 => .array .int
  | 2 => .int
  | 3 => .int
  | 4 => .int
  | 5 => .int
  | 6 => .int
  | 7 => .int
  | 8 => .int
  | 9 => .int
  | 10 => .int
  | 11 => .int
  | 12 => .array .int
  | 13 => .boolean
  | 14 => .boolean
  | 15 => .array .int
  | 16 => .array .int
  | 17 => .array .int
  | 18 => .array .int
  | 19 => .array .int
  | 20 => .int
  | 21 => .int
  | 22 => .array .long
  | 23 => .array .int
  | 24 => .array .int
  | 25 => .array .int
  | 26 => .int
  | 27 => .int
  | 28 => .long
  | 29 => .array .int
  | 30 => .int
  | 31 => .array .int
  | 32 => .int
  | 33 => .int
  | 34 => .int
  | _ => .int
abbrev wsX100 : List Cond := u_ws RX10 TX10 36
theorem nmX10 : ∀ a, a < 36 → ∀ b, b < 36 → a ≠ b → (TX10 a).2.1 ≠ (TX10 b).2.1 := by decide +kernel
theorem tyX10_ok : ∀ k, k < 36 → parseFieldDescriptor (TX10 k).2.2.1 = some (tyX10 k) := by decide +kernel
abbrev cX10_init : ByteArray := prog_12_method_1_code
def yX10_init : MethodName := ⟨RX10, "<init>", "()V"⟩
abbrev cX10_thrown : ByteArray := prog_12_method_2_code
def yX10_thrown : MethodName := ⟨RX10, "thrown", "()I"⟩
abbrev cX10_good : ByteArray := prog_12_method_3_code
def yX10_good : MethodName := ⟨RX10, "good", "()V"⟩
abbrev cX10_no : ByteArray := prog_12_method_4_code
def yX10_no : MethodName := ⟨RX10, "no", "(I)I"⟩
abbrev cX10_isNot : ByteArray := prog_12_method_5_code
def yX10_isNot : MethodName := ⟨RX10, "isNot", "(I)Z"⟩
abbrev cX10_in : ByteArray := prog_12_method_6_code
def yX10_in : MethodName := ⟨RX10, "in", "(III)Z"⟩
abbrev cX10_hasBit : ByteArray := prog_12_method_7_code
def yX10_hasBit : MethodName := ⟨RX10, "hasBit", "(II)Z"⟩
abbrev cX10_copy : ByteArray := prog_12_method_8_code
def yX10_copy : MethodName := ⟨RX10, "copy", "([II[III)V"⟩
abbrev cX10_lowest : ByteArray := prog_12_method_9_code
def yX10_lowest : MethodName := ⟨RX10, "lowest", "(JJZ)J"⟩
abbrev cX10_feed : ByteArray := prog_12_method_10_code
def yX10_feed : MethodName := ⟨RX10, "feed", "(IIIII)I"⟩
abbrev cX10_look : ByteArray := prog_12_method_11_code
def yX10_look : MethodName := ⟨RX10, "look", "(I)I"⟩
abbrev cX10_isSmall : ByteArray := prog_12_method_12_code
def yX10_isSmall : MethodName := ⟨RX10, "isSmall", "(I)Z"⟩
abbrev cX10_isDigit : ByteArray := prog_12_method_13_code
def yX10_isDigit : MethodName := ⟨RX10, "isDigit", "(I)Z"⟩
abbrev cX10_pass : ByteArray := prog_12_method_14_code
def yX10_pass : MethodName := ⟨RX10, "pass", "()V"⟩
abbrev cX10_wrong : ByteArray := prog_12_method_15_code
def yX10_wrong : MethodName := ⟨RX10, "wrong", "(II)V"⟩
abbrev cX10_isWord : ByteArray := prog_12_method_16_code
def yX10_isWord : MethodName := ⟨RX10, "isWord", "(Ljava/lang/String;)Z"⟩
abbrev cX10_takesWord : ByteArray := prog_12_method_17_code
def yX10_takesWord : MethodName := ⟨RX10, "takesWord", "(Ljava/lang/String;)Z"⟩
abbrev cX10_must : ByteArray := prog_12_method_18_code
def yX10_must : MethodName := ⟨RX10, "must", "(Ljava/lang/String;)V"⟩
abbrev cX10_mustName : ByteArray := prog_12_method_19_code
def yX10_mustName : MethodName := ⟨RX10, "mustName", "()V"⟩
abbrev cX10_find : ByteArray := prog_12_method_20_code
def yX10_find : MethodName := ⟨RX10, "find", "()I"⟩
abbrev cX10_newName : ByteArray := prog_12_method_21_code
def yX10_newName : MethodName := ⟨RX10, "newName", "(I)V"⟩
abbrev cX10_named : ByteArray := prog_12_method_22_code
def yX10_named : MethodName := ⟨RX10, "named", "(II)I"⟩
abbrev cX10_townHere : ByteArray := prog_12_method_23_code
def yX10_townHere : MethodName := ⟨RX10, "townHere", "()I"⟩
abbrev cX10_numberHere : ByteArray := prog_12_method_24_code
def yX10_numberHere : MethodName := ⟨RX10, "numberHere", "(II)I"⟩
abbrev cX10_number : ByteArray := prog_12_method_25_code
def yX10_number : MethodName := ⟨RX10, "number", "(II)I"⟩
abbrev cX10_after : ByteArray := prog_12_method_26_code
def yX10_after : MethodName := ⟨RX10, "after", "(Ljava/lang/String;II)I"⟩
abbrev cX10_port : ByteArray := prog_12_method_27_code
def yX10_port : MethodName := ⟨RX10, "port", "(I)I"⟩
abbrev cX10_begins : ByteArray := prog_12_method_28_code
def yX10_begins : MethodName := ⟨RX10, "begins", "(Ljava/lang/String;Z)Z"⟩
abbrev cX10_readLine : ByteArray := prog_12_method_29_code
def yX10_readLine : MethodName := ⟨RX10, "readLine", "()V"⟩
abbrev cX10_portLine : ByteArray := prog_12_method_30_code
def yX10_portLine : MethodName := ⟨RX10, "portLine", "()V"⟩
abbrev cX10_shipLine : ByteArray := prog_12_method_31_code
def yX10_shipLine : MethodName := ⟨RX10, "shipLine", "()V"⟩
abbrev cX10_crateLine : ByteArray := prog_12_method_32_code
def yX10_crateLine : MethodName := ⟨RX10, "crateLine", "()V"⟩
abbrev cX10_townLine : ByteArray := prog_12_method_33_code
def yX10_townLine : MethodName := ⟨RX10, "townLine", "()V"⟩
abbrev cX10_roadLine : ByteArray := prog_12_method_34_code
def yX10_roadLine : MethodName := ⟨RX10, "roadLine", "()V"⟩
abbrev cX10_openedLine : ByteArray := prog_12_method_35_code
def yX10_openedLine : MethodName := ⟨RX10, "openedLine", "()V"⟩
abbrev cX10_fault : ByteArray := prog_12_method_36_code
def yX10_fault : MethodName := ⟨RX10, "fault", "()I"⟩
abbrev cX10_where : ByteArray := prog_12_method_37_code
def yX10_where : MethodName := ⟨RX10, "where", "()I"⟩
abbrev cX10_isShip : ByteArray := prog_12_method_38_code
def yX10_isShip : MethodName := ⟨RX10, "isShip", "(I)Z"⟩
abbrev cX10_isCrate : ByteArray := prog_12_method_39_code
def yX10_isCrate : MethodName := ⟨RX10, "isCrate", "(I)Z"⟩
abbrev cX10_isTown : ByteArray := prog_12_method_40_code
def yX10_isTown : MethodName := ⟨RX10, "isTown", "(I)Z"⟩
abbrev cX10_ofCrate : ByteArray := prog_12_method_41_code
def yX10_ofCrate : MethodName := ⟨RX10, "ofCrate", "(II)I"⟩
abbrev cX10_ofShip : ByteArray := prog_12_method_42_code
def yX10_ofShip : MethodName := ⟨RX10, "ofShip", "(II)I"⟩
abbrev cX10_crate : ByteArray := prog_12_method_43_code
def yX10_crate : MethodName := ⟨RX10, "crate", "(II)I"⟩
abbrev cX10_isStack : ByteArray := prog_12_method_44_code
def yX10_isStack : MethodName := ⟨RX10, "isStack", "(II)Z"⟩
abbrev cX10_highOf : ByteArray := prog_12_method_45_code
def yX10_highOf : MethodName := ⟨RX10, "highOf", "(II)I"⟩
abbrev cX10_lyingAt : ByteArray := prog_12_method_46_code
def yX10_lyingAt : MethodName := ⟨RX10, "lyingAt", "(III)I"⟩
abbrev cX10_high : ByteArray := prog_12_method_47_code
def yX10_high : MethodName := ⟨RX10, "high", "(II)I"⟩
abbrev cX10_lies : ByteArray := prog_12_method_48_code
def yX10_lies : MethodName := ⟨RX10, "lies", "(III)I"⟩
abbrev cX10_quay : ByteArray := prog_12_method_49_code
def yX10_quay : MethodName := ⟨RX10, "quay", "(I)I"⟩
abbrev cX10_nextOnQuay : ByteArray := prog_12_method_50_code
def yX10_nextOnQuay : MethodName := ⟨RX10, "nextOnQuay", "()I"⟩
abbrev cX10_next : ByteArray := prog_12_method_51_code
def yX10_next : MethodName := ⟨RX10, "next", "()I"⟩
abbrev cX10_numberHad : ByteArray := prog_12_method_52_code
def yX10_numberHad : MethodName := ⟨RX10, "numberHad", "(I)I"⟩
abbrev cX10_had : ByteArray := prog_12_method_53_code
def yX10_had : MethodName := ⟨RX10, "had", "(I)I"⟩
abbrev cX10_dayOf : ByteArray := prog_12_method_54_code
def yX10_dayOf : MethodName := ⟨RX10, "dayOf", "(I)I"⟩
abbrev cX10_hadOn : ByteArray := prog_12_method_55_code
def yX10_hadOn : MethodName := ⟨RX10, "hadOn", "(I)I"⟩
abbrev cX10_missing : ByteArray := prog_12_method_56_code
def yX10_missing : MethodName := ⟨RX10, "missing", "()I"⟩
abbrev cX10_evenings : ByteArray := prog_12_method_57_code
def yX10_evenings : MethodName := ⟨RX10, "evenings", "()I"⟩
abbrev cX10_cratesOf : ByteArray := prog_12_method_58_code
def yX10_cratesOf : MethodName := ⟨RX10, "cratesOf", "(I)I"⟩
abbrev cX10_judge : ByteArray := prog_12_method_59_code
def yX10_judge : MethodName := ⟨RX10, "judge", "()I"⟩
abbrev cX10_comeOf : ByteArray := prog_12_method_60_code
def yX10_comeOf : MethodName := ⟨RX10, "comeOf", "(II)I"⟩
abbrev cX10_come : ByteArray := prog_12_method_61_code
def yX10_come : MethodName := ⟨RX10, "come", "(IIZ)J"⟩
abbrev cX10_allCome : ByteArray := prog_12_method_62_code
def yX10_allCome : MethodName := ⟨RX10, "allCome", "(IZ)J"⟩
abbrev cX10_sure : ByteArray := prog_12_method_63_code
def yX10_sure : MethodName := ⟨RX10, "sure", "(I)I"⟩
abbrev cX10_heightIn : ByteArray := prog_12_method_64_code
def yX10_heightIn : MethodName := ⟨RX10, "heightIn", "(JI)I"⟩
abbrev cX10_topIn : ByteArray := prog_12_method_65_code
def yX10_topIn : MethodName := ⟨RX10, "topIn", "(JI)I"⟩
abbrev cX10_placeOf : ByteArray := prog_12_method_66_code
def yX10_placeOf : MethodName := ⟨RX10, "placeOf", "(J)I"⟩
abbrev cX10_lifted : ByteArray := prog_12_method_67_code
def yX10_lifted : MethodName := ⟨RX10, "lifted", "(JII)J"⟩
abbrev cX10_costOf : ByteArray := prog_12_method_68_code
def yX10_costOf : MethodName := ⟨RX10, "costOf", "(JI)I"⟩
abbrev cX10_layWays : ByteArray := prog_12_method_69_code
def yX10_layWays : MethodName := ⟨RX10, "layWays", "(I)Z"⟩
abbrev cX10_nearer : ByteArray := prog_12_method_70_code
def yX10_nearer : MethodName := ⟨RX10, "nearer", "(I)Z"⟩
abbrev cX10_fewest : ByteArray := prog_12_method_71_code
def yX10_fewest : MethodName := ⟨RX10, "fewest", "(I)I"⟩
abbrev cX10_firstLift : ByteArray := prog_12_method_72_code
def yX10_firstLift : MethodName := ⟨RX10, "firstLift", "(J)I"⟩
abbrev cX10_liftAt : ByteArray := prog_12_method_73_code
def yX10_liftAt : MethodName := ⟨RX10, "liftAt", "(II)I"⟩
abbrev cX10_wrongly : ByteArray := prog_12_method_74_code
def yX10_wrongly : MethodName := ⟨RX10, "wrongly", "(I)I"⟩
abbrev cX10_mean : ByteArray := prog_12_method_75_code
def yX10_mean : MethodName := ⟨RX10, "mean", "(IZ)J"⟩
abbrev cX10_weight : ByteArray := prog_12_method_76_code
def yX10_weight : MethodName := ⟨RX10, "weight", "(I)I"⟩
abbrev cX10_weightOn : ByteArray := prog_12_method_77_code
def yX10_weightOn : MethodName := ⟨RX10, "weightOn", "(II)I"⟩
abbrev cX10_heaviest : ByteArray := prog_12_method_78_code
def yX10_heaviest : MethodName := ⟨RX10, "heaviest", "(I)I"⟩
abbrev cX10_laySets : ByteArray := prog_12_method_79_code
def yX10_laySets : MethodName := ⟨RX10, "laySets", "()V"⟩
abbrev cX10_fits : ByteArray := prog_12_method_80_code
def yX10_fits : MethodName := ⟨RX10, "fits", "()I"⟩
abbrev cX10_could : ByteArray := prog_12_method_81_code
def yX10_could : MethodName := ⟨RX10, "could", "()I"⟩
abbrev cX10_surely : ByteArray := prog_12_method_82_code
def yX10_surely : MethodName := ⟨RX10, "surely", "()I"⟩
abbrev cX10_leftBy : ByteArray := prog_12_method_83_code
def yX10_leftBy : MethodName := ⟨RX10, "leftBy", "(I)I"⟩
abbrev cX10_askOf : ByteArray := prog_12_method_84_code
def yX10_askOf : MethodName := ⟨RX10, "askOf", "()I"⟩
abbrev cX10_ask : ByteArray := prog_12_method_85_code
def yX10_ask : MethodName := ⟨RX10, "ask", "()I"⟩
abbrev cX10_askLeaves : ByteArray := prog_12_method_86_code
def yX10_askLeaves : MethodName := ⟨RX10, "askLeaves", "()I"⟩
abbrev cX10_share : ByteArray := prog_12_method_87_code
def yX10_share : MethodName := ⟨RX10, "share", "(II)I"⟩
abbrev cX10_layDays : ByteArray := prog_12_method_88_code
def yX10_layDays : MethodName := ⟨RX10, "layDays", "(I)V"⟩
abbrev cX10_lateOf : ByteArray := prog_12_method_89_code
def yX10_lateOf : MethodName := ⟨RX10, "lateOf", "(I)I"⟩
abbrev cX10_late : ByteArray := prog_12_method_90_code
def yX10_late : MethodName := ⟨RX10, "late", "(I)I"⟩
abbrev cX10_wayAt : ByteArray := prog_12_method_91_code
def yX10_wayAt : MethodName := ⟨RX10, "wayAt", "(II)I"⟩
abbrev cX10_farthest : ByteArray := prog_12_method_92_code
def yX10_farthest : MethodName := ⟨RX10, "farthest", "()I"⟩
abbrev cX10_inlandOf : ByteArray := prog_12_method_93_code
def yX10_inlandOf : MethodName := ⟨RX10, "inlandOf", "(II)I"⟩
abbrev cX10_inland : ByteArray := prog_12_method_94_code
def yX10_inland : MethodName := ⟨RX10, "inland", "(II)I"⟩
abbrev cX10_people : ByteArray := prog_12_method_95_code
def yX10_people : MethodName := ⟨RX10, "people", "(II)I"⟩
abbrev cX10_strikeOf : ByteArray := prog_12_method_96_code
def yX10_strikeOf : MethodName := ⟨RX10, "strikeOf", "(IIZ)I"⟩
abbrev cX10_strike : ByteArray := prog_12_method_97_code
def yX10_strike : MethodName := ⟨RX10, "strike", "(IIZ)I"⟩
abbrev cX10_isRest : ByteArray := prog_12_method_98_code
def yX10_isRest : MethodName := ⟨RX10, "isRest", "(II)Z"⟩
abbrev cX10_seekRest : ByteArray := prog_12_method_99_code
def yX10_seekRest : MethodName := ⟨RX10, "seekRest", "(I)I"⟩
abbrev cX10_rests : ByteArray := prog_12_method_100_code
def yX10_rests : MethodName := ⟨RX10, "rests", "()I"⟩
abbrev cX10_rest : ByteArray := prog_12_method_101_code
def yX10_rest : MethodName := ⟨RX10, "rest", "(I)I"⟩
abbrev cX10_goThrough : ByteArray := prog_12_method_102_code
def yX10_goThrough : MethodName := ⟨RX10, "goThrough", "()V"⟩
abbrev cX10_winter : ByteArray := prog_12_method_103_code
def yX10_winter : MethodName := ⟨RX10, "winter", "(I)I"⟩
abbrev cX10_lates : ByteArray := prog_12_method_104_code
def yX10_lates : MethodName := ⟨RX10, "lates", "(III)I"⟩
abbrev cX10_note : ByteArray := prog_12_method_105_code
def yX10_note : MethodName := ⟨RX10, "note", "()V"⟩
abbrev cX10_lift : ByteArray := prog_12_method_106_code
def yX10_lift : MethodName := ⟨RX10, "lift", "(III)I"⟩
abbrev cX10_dawn : ByteArray := prog_12_method_107_code
def yX10_dawn : MethodName := ⟨RX10, "dawn", "()I"⟩
abbrev cX10_open : ByteArray := prog_12_method_108_code
def yX10_open : MethodName := ⟨RX10, "open", "(IZ)Z"⟩
abbrev cX10_undo : ByteArray := prog_12_method_109_code
def yX10_undo : MethodName := ⟨RX10, "undo", "()Z"⟩
abbrev cX10_image : ByteArray := prog_12_method_110_code
def yX10_image : MethodName := ⟨RX10, "image", "()I"⟩
abbrev cX10_back : ByteArray := prog_12_method_111_code
def yX10_back : MethodName := ⟨RX10, "back", "(I)Z"⟩
abbrev cX10_led : ByteArray := prog_12_method_112_code
def yX10_led : MethodName := ⟨RX10, "led", "(I)I"⟩
abbrev cX10_openedNow : ByteArray := prog_12_method_113_code
def yX10_openedNow : MethodName := ⟨RX10, "openedNow", "()I"⟩
abbrev cX10_size : ByteArray := prog_12_method_114_code
def yX10_size : MethodName := ⟨RX10, "size", "(I)I"⟩
abbrev cX10_trouble : ByteArray := prog_12_method_115_code
def yX10_trouble : MethodName := ⟨RX10, "trouble", "()I"⟩
def RL : String := "DayPortLaw"
abbrev cL_led : ByteArray := method_3_code
def yL_led : MethodName := ⟨RL, "led", "(LDayPort;I[J)I"⟩
abbrev cL_law : ByteArray := code
def yL_law : MethodName := ⟨RL, "law", "([I)Z"⟩
end
section
-- the tables: classes by number (11: the law), fields, methods by number, what each constant pool entry links
abbrev Rr : Type := Nat → Nat → Option Nat
abbrev Gi : Type := Nat → Nat → Int32
abbrev Gl : Type := Nat → Nat → Int64
def RnL : List String := [RX0, RX1, RX2, RX3, RX4, RX5, RX6, RX7, RX8, RX9, RX10, RL]
def Rn (i : Nat) : String := (RnL[i]?).getD ""
def TnL : List u_T := [TX0, TX1, TX2, TX3, TX4, TX5, TX6, TX7, TX8, TX9, TX10]
def Tn (i : Nat) : u_T := (TnL[i]?).getD TX0
def nfL : List Nat := [6, 1, 5, 10, 12, 18, 5, 4, 11, 17, 36]
def nf (i : Nat) : Nat := (nfL[i]?).getD 0
def tynL : List (Nat → FieldType) := [tyX0, tyX1, tyX2, tyX3, tyX4, tyX5, tyX6, tyX7, tyX8, tyX9, tyX10]
def tyn (i : Nat) : (Nat → FieldType) := (tynL[i]?).getD tyX0
abbrev Vcl : List vw_C := [(RX0, TX0, 6), (RX1, TX1, 1), (RX2, TX2, 5), (RX3, TX3, 10), (RX4, TX4, 12), (RX5, TX5, 18), (RX6, TX6, 5), (RX7, TX7, 4), (RX8, TX8, 11), (RX9, TX9, 17), (RX10, TX10, 36)]
abbrev MT : Type := MethodName × ByteArray × Nat × Option FieldType × Nat × Nat
def mtL0 : List MT := [(yX0_init, cX0_init, 1, none, 0, 1078),
  (yX0_effort, cX0_effort, 1, some .int, 0, 4104),
  (yX1_init, cX1_init, 1, none, 1, 2137),
  (yX1_measure, cX1_measure, 5, none, 1, 3168),
  (yX1_lateOrNothing, cX1_lateOrNothing, 2, some .int, 1, 4204),
  (yX1_townOnWay, cX1_townOnWay, 6, some .int, 1, 4216),
  (yX1_onward, cX1_onward, 6, some .int, 1, 4220),
  (yX1_minutesOf, cX1_minutesOf, 10, some .int, 1, 4192),
  (yX2_init, cX2_init, 1, none, 2, 2112),
  (yX2_count, cX2_count, 6, none, 2, 4144),
  (yX2_addCrate, cX2_addCrate, 4, none, 2, 4148),
  (yX2_waysOf, cX2_waysOf, 2, some .int, 2, 4153),
  (yX2_setsWith, cX2_setsWith, 8, some .int, 2, 4161),
  (yX2_choose, cX2_choose, 6, none, 2, 4174),
  (yX3_init, cX3_init, 1, none, 3, 2070),
  (yX3_solve, cX3_solve, 5, none, 3, 4090),
  (yX3_load, cX3_load, 9, none, 3, 4094),
  (yX3_rankOf, cX3_rankOf, 6, some .int, 3, 4100),
  (yX3_canCome, cX3_canCome, 7, some .boolean, 3, 4107),
  (yX3_stillNeeded, cX3_stillNeeded, 7, some .int, 3, 4115),
  (yX3_seek, cX3_seek, 6, some .boolean, 3, 4119),
  (yX3_seekFrom, cX3_seekFrom, 9, some .boolean, 3, 4123),
  (yX3_move, cX3_move, 3, none, 3, 4127),
  (yX4_init, cX4_init, 2, none, 4, 1034),
  (yX4_empty, cX4_empty, 3, none, 4, 3003),
  (yX4_hasNumber, cX4_hasNumber, 3, some .boolean, 4, 3140),
  (yX4_peopleOfAll, cX4_peopleOfAll, 3, some .int, 4, 4196),
  (yX5_init, cX5_init, 3, none, 5, 1195),
  (yX5_read, cX5_read, 4, some .boolean, 5, 2236),
  (yX5_wrong, cX5_wrong, 2, some .boolean, 5, 3081),
  (yX5_wrongBehind, cX5_wrongBehind, 2, some .boolean, 5, 3134),
  (yX5_step, cX5_step, 1, none, 5, 3007)]
def mtL1 : List MT := [(yX5_kindOf, cX5_kindOf, 1, some .int, 5, 3010),
  (yX5_is, cX5_is, 3, some .boolean, 5, 3024),
  (yX5_word, cX5_word, 2, some .boolean, 5, 3126),
  (yX5_wordAndWhole, cX5_wordAndWhole, 4, some .boolean, 5, 3090),
  (yX5_beginsLine, cX5_beginsLine, 1, some .boolean, 5, 3019),
  (yX5_nameAt, cX5_nameAt, 2, some .int, 5, 3105),
  (yX5_newName, cX5_newName, 3, some .boolean, 5, 3101),
  (yX5_toldName, cX5_toldName, 3, some .boolean, 5, 3130),
  (yX5_line, cX5_line, 1, some .boolean, 5, 3015),
  (yX5_portLine, cX5_portLine, 1, some .boolean, 5, 3085),
  (yX5_shipLine, cX5_shipLine, 2, some .boolean, 5, 3097),
  (yX5_crateLine, cX5_crateLine, 4, some .boolean, 5, 3113),
  (yX5_kindOfCrate, cX5_kindOfCrate, 1, some .int, 5, 3117),
  (yX5_townLine, cX5_townLine, 1, some .boolean, 5, 3145),
  (yX5_roadLine, cX5_roadLine, 3, some .boolean, 5, 3150),
  (yX5_openedLine, cX5_openedLine, 2, some .boolean, 5, 3155),
  (yX6_init, cX6_init, 1, none, 6, 1045),
  (yX6_hundredthsBy, cX6_hundredthsBy, 2, some .int, 6, 4048),
  (yX6_isLateBy, cX6_isLateBy, 2, some .boolean, 6, 5029),
  (yX6_comesOn, cX6_comesOn, 2, some .int, 6, 5025),
  (yX7_init, cX7_init, 1, none, 7, 2148),
  (yX7_ofGang, cX7_ofGang, 4, some .int, 7, 3177),
  (yX7_ofCouncil, cX7_ofCouncil, 4, some .int, 7, 3181),
  (yX7_settle, cX7_settle, 5, none, 7, 3174),
  (yX8_init, cX8_init, 1, none, 8, 2019),
  (yX8_begin, cX8_begin, 4, none, 8, 3160),
  (yX8_become, cX8_become, 2, none, 8, 5046),
  (yX8_height, cX8_height, 3, some .int, 8, 3224),
  (yX8_crateAt, cX8_crateAt, 4, some .int, 8, 3232),
  (yX8_pile, cX8_pile, 5, none, 8, 3164),
  (yX8_isBroken, cX8_isBroken, 3, some .boolean, 8, 3208),
  (yX8_liesAboveLesser, cX8_liesAboveLesser, 7, some .boolean, 8, 4111)]
def mtL2 : List MT := [(yX8_stackWeighs, cX8_stackWeighs, 6, some .int, 8, 4076),
  (yX8_openedCount, cX8_openedCount, 3, some .int, 8, 5100),
  (yX8_firstDry, cX8_firstDry, 4, some .int, 8, 4004),
  (yX8_numberHadOn, cX8_numberHadOn, 4, some .int, 8, 4012),
  (yX8_dayOfNumber, cX8_dayOfNumber, 4, some .int, 8, 4023),
  (yX8_hoist, cX8_hoist, 7, some .int, 8, 5053),
  (yX8_land, cX8_land, 2, none, 8, 5059),
  (yX8_breakDay, cX8_breakDay, 6, some .int, 8, 5067),
  (yX9_init, cX9_init, 2, none, 9, 1026),
  (yX9_feed, cX9_feed, 6, some .int, 9, 2220),
  (yX9_port, cX9_port, 4, some .int, 9, 2228),
  (yX9_fault, cX9_fault, 1, some .int, 9, 3192),
  (yX9_where, cX9_where, 1, some .int, 9, 3196),
  (yX9_crate, cX9_crate, 4, some .int, 9, 3200),
  (yX9_high, cX9_high, 3, some .int, 9, 3212),
  (yX9_lies, cX9_lies, 4, some .int, 9, 3228),
  (yX9_quay, cX9_quay, 2, some .int, 9, 3236),
  (yX9_next, cX9_next, 2, some .int, 9, 4000),
  (yX9_had, cX9_had, 2, some .int, 9, 4008),
  (yX9_hadOn, cX9_hadOn, 2, some .int, 9, 4016),
  (yX9_missing, cX9_missing, 4, some .int, 9, 4027),
  (yX9_evenings, cX9_evenings, 4, some .int, 9, 4033),
  (yX9_judge, cX9_judge, 2, some .int, 9, 4037),
  (yX9_come, cX9_come, 4, some .long, 9, 4041),
  (yX9_allCome, cX9_allCome, 8, some .long, 9, 4060),
  (yX9_sure, cX9_sure, 4, some .int, 9, 4064),
  (yX9_mean, cX9_mean, 4, some .long, 9, 4068),
  (yX9_weight, cX9_weight, 4, some .int, 9, 4072),
  (yX9_heaviest, cX9_heaviest, 4, some .int, 9, 4082),
  (yX9_fewest, cX9_fewest, 2, some .int, 9, 4086),
  (yX9_liftAt, cX9_liftAt, 3, some .int, 9, 4131),
  (yX9_wrongly, cX9_wrongly, 5, some .int, 9, 4135)]
def mtL3 : List MT := [(yX9_fits, cX9_fits, 1, some .int, 9, 4140),
  (yX9_could, cX9_could, 3, some .int, 9, 4157),
  (yX9_surely, cX9_surely, 3, some .int, 9, 4166),
  (yX9_ask, cX9_ask, 1, some .int, 9, 4170),
  (yX9_askLeaves, cX9_askLeaves, 1, some .int, 9, 4180),
  (yX9_share, cX9_share, 3, some .int, 9, 4184),
  (yX9_late, cX9_late, 2, some .int, 9, 4200),
  (yX9_farthest, cX9_farthest, 3, some .int, 9, 4208),
  (yX9_wayAt, cX9_wayAt, 4, some .int, 9, 4212),
  (yX9_inland, cX9_inland, 3, some .int, 9, 4224),
  (yX9_people, cX9_people, 7, some .int, 9, 4232),
  (yX9_strike, cX9_strike, 4, some .int, 9, 4236),
  (yX9_rests, cX9_rests, 1, some .int, 9, 5005),
  (yX9_rest, cX9_rest, 2, some .int, 9, 5009),
  (yX9_winter, cX9_winter, 5, some .int, 9, 5013),
  (yX9_lates, cX9_lates, 8, some .int, 9, 5033),
  (yX9_lift, cX9_lift, 4, some .int, 9, 5038),
  (yX9_dawn, cX9_dawn, 1, some .int, 9, 5063),
  (yX9_open, cX9_open, 3, some .boolean, 9, 5072),
  (yX9_undo, cX9_undo, 1, some .boolean, 9, 5084),
  (yX9_image, cX9_image, 1, some .int, 9, 5088),
  (yX9_back, cX9_back, 2, some .boolean, 9, 5092),
  (yX9_led, cX9_led, 4, some .int, 9, 5112),
  (yX9_size, cX9_size, 2, some .int, 9, 5096),
  (yX9_trouble, cX9_trouble, 1, some .int, 9, 5104),
  (yX9_refused, cX9_refused, 2, some .int, 9, 2232),
  (yX9_answered, cX9_answered, 2, some .int, 9, 3188),
  (yX9_denied, cX9_denied, 2, some .boolean, 9, 5076),
  (yX9_granted, cX9_granted, 1, some .boolean, 9, 5080),
  (yX9_noShip, cX9_noShip, 2, some .boolean, 9, 3220),
  (yX9_noStack, cX9_noStack, 3, some .boolean, 9, 3216),
  (yX9_noCrate, cX9_noCrate, 2, some .boolean, 9, 3204)]
def mtL4 : List MT := [(yX9_noTown, cX9_noTown, 2, some .boolean, 9, 4188),
  (yX9_noNumber, cX9_noNumber, 1, some .boolean, 9, 4019),
  (yX9_noComingDay, cX9_noComingDay, 1, some .boolean, 9, 4044),
  (yX9_noHold, cX9_noHold, 1, some .boolean, 9, 4239),
  (yX9_noSeed, cX9_noSeed, 1, some .boolean, 9, 5016),
  (yX9_write, cX9_write, 3, none, 9, 2224),
  (yX9_hadInland, cX9_hadInland, 5, some .int, 9, 4228),
  (yX9_draw, cX9_draw, 1, some .int, 9, 5020),
  (yX9_inLowestTerms, cX9_inLowestTerms, 7, some .long, 9, 4052),
  (yX9_commonDivisor, cX9_commonDivisor, 11, some .long, 9, 4055),
  (yX9_keepNow, cX9_keepNow, 3, none, 9, 5042),
  (yX10_init, cX10_init, 1, none, 10, 5182),
  (yX10_thrown, cX10_thrown, 1, some .int, 10, 6056),
  (yX10_good, cX10_good, 1, none, 10, 6068),
  (yX10_no, cX10_no, 2, some .int, 10, 6075),
  (yX10_isNot, cX10_isNot, 2, some .boolean, 10, 8027),
  (yX10_in, cX10_in, 3, some .boolean, 10, 6071),
  (yX10_hasBit, cX10_hasBit, 2, some .boolean, 10, 7145),
  (yX10_copy, cX10_copy, 6, none, 10, 6199),
  (yX10_lowest, cX10_lowest, 11, some .long, 10, 7063),
  (yX10_feed, cX10_feed, 8, some .int, 10, 6060),
  (yX10_look, cX10_look, 2, some .int, 10, 6083),
  (yX10_isSmall, cX10_isSmall, 1, some .boolean, 10, 6086),
  (yX10_isDigit, cX10_isDigit, 1, some .boolean, 10, 6089),
  (yX10_pass, cX10_pass, 4, none, 10, 6079),
  (yX10_wrong, cX10_wrong, 3, none, 10, 6108),
  (yX10_isWord, cX10_isWord, 4, some .boolean, 10, 6098),
  (yX10_takesWord, cX10_takesWord, 2, some .boolean, 10, 6121),
  (yX10_must, cX10_must, 2, none, 10, 6117),
  (yX10_mustName, cX10_mustName, 1, none, 10, 6149),
  (yX10_find, cX10_find, 4, some .int, 10, 6157),
  (yX10_newName, cX10_newName, 3, none, 10, 6145)]
def mtL5 : List MT := [(yX10_named, cX10_named, 4, some .int, 10, 6174),
  (yX10_townHere, cX10_townHere, 1, some .int, 10, 6190),
  (yX10_numberHere, cX10_numberHere, 3, some .int, 10, 6129),
  (yX10_number, cX10_number, 4, some .int, 10, 6125),
  (yX10_after, cX10_after, 4, some .int, 10, 6113),
  (yX10_port, cX10_port, 5, some .int, 10, 6064),
  (yX10_begins, cX10_begins, 3, some .boolean, 10, 6137),
  (yX10_readLine, cX10_readLine, 1, none, 10, 6093),
  (yX10_portLine, cX10_portLine, 1, none, 10, 6104),
  (yX10_shipLine, cX10_shipLine, 2, none, 10, 6141),
  (yX10_crateLine, cX10_crateLine, 8, none, 10, 6165),
  (yX10_townLine, cX10_townLine, 1, none, 10, 6181),
  (yX10_roadLine, cX10_roadLine, 4, none, 10, 6186),
  (yX10_openedLine, cX10_openedLine, 3, none, 10, 6195),
  (yX10_fault, cX10_fault, 1, some .int, 10, 6207),
  (yX10_where, cX10_where, 1, some .int, 10, 6211),
  (yX10_isShip, cX10_isShip, 2, some .boolean, 10, 6231),
  (yX10_isCrate, cX10_isCrate, 2, some .boolean, 10, 6219),
  (yX10_isTown, cX10_isTown, 2, some .boolean, 10, 7177),
  (yX10_ofCrate, cX10_ofCrate, 3, some .int, 10, 6203),
  (yX10_ofShip, cX10_ofShip, 3, some .int, 10, 7047),
  (yX10_crate, cX10_crate, 3, some .int, 10, 6215),
  (yX10_isStack, cX10_isStack, 3, some .boolean, 10, 6227),
  (yX10_highOf, cX10_highOf, 3, some .int, 10, 6235),
  (yX10_lyingAt, cX10_lyingAt, 4, some .int, 10, 7003),
  (yX10_high, cX10_high, 3, some .int, 10, 6223),
  (yX10_lies, cX10_lies, 4, some .int, 10, 6239),
  (yX10_quay, cX10_quay, 2, some .int, 10, 7007),
  (yX10_nextOnQuay, cX10_nextOnQuay, 2, some .int, 10, 7015),
  (yX10_next, cX10_next, 1, some .int, 10, 7011),
  (yX10_numberHad, cX10_numberHad, 2, some .int, 10, 7023),
  (yX10_had, cX10_had, 2, some .int, 10, 7019)]
def mtL6 : List MT := [(yX10_dayOf, cX10_dayOf, 3, some .int, 10, 7031),
  (yX10_hadOn, cX10_hadOn, 2, some .int, 10, 7027),
  (yX10_missing, cX10_missing, 4, some .int, 10, 7035),
  (yX10_evenings, cX10_evenings, 4, some .int, 10, 7039),
  (yX10_cratesOf, cX10_cratesOf, 4, some .int, 10, 7051),
  (yX10_judge, cX10_judge, 2, some .int, 10, 7043),
  (yX10_comeOf, cX10_comeOf, 3, some .int, 10, 7059),
  (yX10_come, cX10_come, 4, some .long, 10, 7055),
  (yX10_allCome, cX10_allCome, 8, some .long, 10, 7067),
  (yX10_sure, cX10_sure, 4, some .int, 10, 7071),
  (yX10_heightIn, cX10_heightIn, 4, some .int, 10, 7094),
  (yX10_topIn, cX10_topIn, 3, some .int, 10, 7098),
  (yX10_placeOf, cX10_placeOf, 4, some .int, 10, 7084),
  (yX10_lifted, cX10_lifted, 12, some .long, 10, 7091),
  (yX10_costOf, cX10_costOf, 4, some .int, 10, 7106),
  (yX10_layWays, cX10_layWays, 10, some .boolean, 10, 7079),
  (yX10_nearer, cX10_nearer, 8, some .boolean, 10, 7102),
  (yX10_fewest, cX10_fewest, 2, some .int, 10, 7075),
  (yX10_firstLift, cX10_firstLift, 7, some .int, 10, 7114),
  (yX10_liftAt, cX10_liftAt, 7, some .int, 10, 7110),
  (yX10_wrongly, cX10_wrongly, 7, some .int, 10, 7118),
  (yX10_mean, cX10_mean, 3, some .long, 10, 7122),
  (yX10_weight, cX10_weight, 4, some .int, 10, 7126),
  (yX10_weightOn, cX10_weightOn, 5, some .int, 10, 7134),
  (yX10_heaviest, cX10_heaviest, 4, some .int, 10, 7130),
  (yX10_laySets, cX10_laySets, 7, none, 10, 7142),
  (yX10_fits, cX10_fits, 1, some .int, 10, 7138),
  (yX10_could, cX10_could, 3, some .int, 10, 7149),
  (yX10_surely, cX10_surely, 3, some .int, 10, 7153),
  (yX10_leftBy, cX10_leftBy, 3, some .int, 10, 7165),
  (yX10_askOf, cX10_askOf, 3, some .int, 10, 7161),
  (yX10_ask, cX10_ask, 1, some .int, 10, 7157)]
def mtL7 : List MT := [(yX10_askLeaves, cX10_askLeaves, 2, some .int, 10, 7169),
  (yX10_share, cX10_share, 9, some .int, 10, 7173),
  (yX10_layDays, cX10_layDays, 5, none, 10, 7189),
  (yX10_lateOf, cX10_lateOf, 2, some .int, 10, 7185),
  (yX10_late, cX10_late, 2, some .int, 10, 7181),
  (yX10_wayAt, cX10_wayAt, 6, some .int, 10, 7193),
  (yX10_farthest, cX10_farthest, 3, some .int, 10, 7197),
  (yX10_inlandOf, cX10_inlandOf, 4, some .int, 10, 7205),
  (yX10_inland, cX10_inland, 3, some .int, 10, 7201),
  (yX10_people, cX10_people, 5, some .int, 10, 7209),
  (yX10_strikeOf, cX10_strikeOf, 6, some .int, 10, 7217),
  (yX10_strike, cX10_strike, 4, some .int, 10, 7213),
  (yX10_isRest, cX10_isRest, 5, some .boolean, 10, 7229),
  (yX10_seekRest, cX10_seekRest, 4, some .int, 10, 7225),
  (yX10_rests, cX10_rests, 1, some .int, 10, 7221),
  (yX10_rest, cX10_rest, 3, some .int, 10, 7233),
  (yX10_goThrough, cX10_goThrough, 4, none, 10, 8002),
  (yX10_winter, cX10_winter, 2, some .int, 10, 7237),
  (yX10_lates, cX10_lates, 6, some .int, 10, 8007),
  (yX10_note, cX10_note, 2, none, 10, 8015),
  (yX10_lift, cX10_lift, 7, some .int, 10, 8011),
  (yX10_dawn, cX10_dawn, 5, some .int, 10, 8019),
  (yX10_open, cX10_open, 3, some .boolean, 10, 8023),
  (yX10_undo, cX10_undo, 1, some .boolean, 10, 8031),
  (yX10_image, cX10_image, 1, some .int, 10, 8035),
  (yX10_back, cX10_back, 2, some .boolean, 10, 8039),
  (yX10_led, cX10_led, 4, some .int, 10, 8043),
  (yX10_openedNow, cX10_openedNow, 3, some .int, 10, 8051),
  (yX10_size, cX10_size, 2, some .int, 10, 8047),
  (yX10_trouble, cX10_trouble, 1, some .int, 10, 8055),
  (yL_led, cL_led, 4, some .int, 11, 1000),
  (yL_law, cL_law, 7, some .boolean, 11, 1000)]
def mtLs : List (List MT) := [mtL0, mtL1, mtL2, mtL3, mtL4, mtL5, mtL6, mtL7]
def mt (i : Nat) : MT := (((mtLs[i / 32]?).getD [])[i % 32]?).getD (yX0_init, cX0_init, 0, none, 0, 0)
abbrev mY (i : Nat) : MethodName := (mt i).1
abbrev mB (i : Nat) : ByteArray := (mt i).2.1
abbrev mL (i : Nat) : Nat := (mt i).2.2.1
abbrev mR (i : Nat) : Option FieldType := (mt i).2.2.2.1
abbrev mO (i : Nat) : Nat := (mt i).2.2.2.2.1
def flTL : List (List (Nat × Nat × Nat × Nat)) := [[(9, 0, 0, 1080), (15, 0, 1, 1085), (18, 0, 2, 1090), (21, 0, 3, 1093), (24, 0, 4, 1099), (27, 0, 5, 1104)],
  [(11, 1, 0, 2140), (16, 4, 10, 1161), (32, 4, 9, 1158), (40, 4, 8, 1153)],
  [(9, 2, 0, 2114), (15, 2, 1, 2116), (18, 2, 2, 2118), (21, 2, 3, 2120), (25, 2, 4, 2121), (28, 4, 0, 1121), (33, 4, 7, 1148), (36, 4, 6, 1141), (40, 0, 4, 1100), (45, 8, 6, 2034)],
  [(11, 3, 0, 2072), (15, 3, 1, 2074), (19, 3, 2, 2076), (22, 3, 3, 2078), (26, 3, 4, 2080), (29, 3, 5, 2081), (32, 3, 6, 2082), (35, 3, 7, 2083), (39, 3, 8, 2084), (42, 3, 9, 2085), (80, 4, 6, 1143), (92, 0, 0, 1081), (95, 4, 7, 1150), (98, 0, 1, 1087), (101, 8, 4, 2028), (104, 0, 3, 1095), (107, 8, 5, 2031)],
  [(9, 4, 0, 1120), (15, 4, 1, 1124), (18, 4, 2, 1128), (21, 4, 3, 1131), (26, 4, 4, 1134), (30, 4, 5, 1137), (35, 4, 6, 1140), (39, 4, 7, 1146), (42, 4, 8, 1152), (46, 4, 9, 1156), (51, 4, 10, 1160), (54, 4, 11, 1163), (59, 0, 3, 1094)],
  [(9, 5, 1, 1198), (15, 5, 3, 1200), (19, 5, 4, 1201), (22, 5, 5, 1202), (25, 5, 6, 1203), (28, 5, 7, 1204), (32, 5, 8, 1205), (35, 5, 9, 1206), (38, 5, 10, 1207), (41, 5, 11, 1208), (44, 5, 12, 1209), (48, 5, 13, 1210), (52, 5, 14, 1211), (55, 5, 15, 1212), (58, 5, 16, 1213), (61, 5, 17, 1215), (64, 5, 0, 1197), (68, 5, 2, 1199), (94, 4, 5, 1138), (97, 4, 9, 1157), (160, 4, 0, 1122), (164, 4, 1, 1126), (168, 4, 2, 1130), (172, 4, 3, 1133), (174, 4, 4, 1136), (184, 6, 0, 1048), (190, 6, 1, 1051), (194, 6, 2, 1054), (198, 6, 3, 1058), (200, 6, 4, 1061), (203, 4, 7, 1151), (220, 4, 6, 1145), (223, 0, 0, 1084), (226, 0, 1, 1089), (228, 0, 5, 1106), (232, 0, 2, 1092), (238, 0, 3, 1098), (243, 0, 4, 1103), (255, 4, 8, 1154), (257, 4, 11, 1164), (260, 4, 10, 1162)],
  [(7, 6, 0, 1047), (13, 6, 1, 1050), (16, 6, 2, 1053), (19, 6, 3, 1056), (22, 6, 4, 1059)],
  [(11, 7, 0, 2150), (15, 7, 1, 2152), (19, 7, 2, 2154), (22, 7, 3, 2155), (25, 4, 1, 1125), (36, 4, 2, 1129), (39, 4, 3, 1132)],
  [(9, 8, 0, 2021), (15, 8, 1, 2022), (18, 8, 2, 2023), (21, 8, 3, 2025), (25, 8, 4, 2027), (28, 8, 5, 2030), (31, 8, 6, 2033), (34, 8, 7, 2036), (37, 8, 8, 2037), (40, 8, 9, 2038), (43, 8, 10, 2040), (46, 4, 7, 1147), (51, 4, 6, 1142), (55, 0, 2, 1091), (60, 0, 5, 1105), (62, 0, 1, 1086), (75, 0, 0, 1083), (82, 0, 3, 1097), (89, 0, 4, 1102)],
  [(9, 9, 0, 2165), (13, 9, 1, 2166), (20, 9, 2, 2167), (24, 9, 3, 2168), (32, 9, 4, 2169), (36, 9, 5, 2170), (40, 9, 6, 2171), (43, 9, 7, 2172), (49, 9, 8, 2173), (53, 9, 9, 2174), (57, 9, 10, 2175), (60, 9, 11, 2176), (63, 9, 12, 2177), (69, 9, 13, 2178), (76, 9, 14, 2179), (83, 9, 15, 2180), (90, 9, 16, 2181), (106, 5, 16, 1214), (117, 4, 7, 1149), (123, 5, 17, 1216), (130, 4, 6, 1144), (134, 0, 0, 1082), (139, 0, 1, 1088), (142, 0, 3, 1096), (145, 0, 4, 1101), (148, 8, 4, 2029), (152, 8, 5, 2032), (170, 8, 3, 2026), (173, 8, 2, 2024), (180, 8, 9, 2039), (201, 4, 5, 1139), (204, 4, 4, 1135), (208, 6, 3, 1057), (213, 6, 4, 1060), (230, 6, 0, 1049), (231, 6, 1, 1052), (234, 6, 2, 1055), (245, 3, 3, 2079), (248, 3, 2, 2077), (251, 3, 1, 2075), (254, 3, 0, 2073), (265, 2, 0, 2115), (275, 2, 1, 2117), (278, 2, 2, 2119), (290, 4, 9, 1159), (299, 4, 8, 1155), (311, 7, 1, 2153), (314, 7, 0, 2151), (342, 8, 6, 2035), (360, 4, 0, 1123), (363, 4, 1, 1127), (366, 4, 11, 1165), (373, 8, 10, 2041)],
  [(7, 10, 1, 5185), (13, 10, 10, 5194), (17, 10, 12, 5196), (20, 10, 15, 5199), (23, 10, 16, 5200), (26, 10, 17, 5201), (29, 10, 18, 5202), (32, 10, 19, 5203), (35, 10, 22, 5206), (39, 10, 23, 5207), (42, 10, 24, 5208), (45, 10, 25, 5209), (48, 10, 29, 5213), (51, 10, 31, 5215), (54, 10, 0, 5184), (57, 10, 11, 5195), (60, 10, 2, 5186), (63, 10, 3, 5187), (66, 10, 5, 5189), (73, 10, 4, 5188), (76, 10, 8, 5192), (79, 10, 7, 5191), (82, 10, 6, 5190), (92, 10, 13, 5197), (96, 10, 9, 5193), (175, 10, 14, 5198), (178, 10, 20, 5204), (181, 10, 21, 5205), (308, 10, 26, 5210), (314, 10, 27, 5211), (317, 10, 28, 5212), (344, 10, 30, 5214), (375, 10, 32, 5216), (384, 10, 34, 5218), (387, 10, 35, 5219), (390, 10, 33, 5217)],
  []]
def flT (oc : Nat) : List (Nat × Nat × Nat × Nat) := (flTL[oc]?).getD []
def mlTL : List (List (Nat × Nat × Nat × Nat × List Nat)) := [[],
  [(22, 3, 0, 2, [3170]), (28, 0, 6, 3, [4217, 4219, 33, 1009]), (36, 0, 26, 0, [4193, 4194, 4195, 1002])],
  [(50, 0, 10, 2, [4145, 4147, 30, 1008]), (54, 0, 11, 1, [4150, 4152, 31, 1008]), (58, 3, 0, 2, [4149]), (64, 2, 0, 2, [4162]), (67, 0, 9, 2, [4175, 4142, 4143, 1008]), (71, 0, 12, 3, [4176, 4159, 4160, 1008])],
  [(45, 0, 16, 3, [4091, 4093, 25, 1007]), (49, 1, 18, 3, [4105, 4106, 1007]), (53, 0, 19, 1, [4112, 4114, 26, 1007]), (57, 0, 20, 4, [4116, 4118, 27, 1007]), (61, 0, 59, 2, [4095, 3222, 3223, 1006]), (67, 3, 0, 2, [4096]), (72, 0, 60, 3, [4097, 3230, 3231, 1006]), (76, 1, 17, 3, [4098, 4099, 1007]), (86, 0, 1, 0, [4101, 4102, 4103, 1004]), (110, 0, 63, 4, [4108, 4109, 4110, 1006]), (114, 0, 21, 4, [4120, 4122, 28, 1007]), (117, 0, 22, 2, [4124, 4126, 29, 1007])],
  [],
  [(72, 3, 0, 2, [2237]), (78, 0, 24, 0, [3000, 3001, 3002, 1002]), (83, 0, 31, 0, [3004, 3006, 2, 1005]), (86, 0, 40, 0, [3012, 3014, 3, 1005]), (90, 0, 29, 1, [3078, 3080, 6, 1005]), (100, 1, 32, 1, [3008, 3009, 1005]), (106, 5, 0, 0, [3025]), (111, 6, 0, 1, [3035]), (115, 0, 33, 1, [3021, 3023, 5, 1005]), (130, 0, 36, 0, [3016, 3018, 4, 1005]), (133, 0, 37, 0, [3102, 3104, 11, 1005]), (136, 0, 41, 0, [3082, 3084, 7, 1005]), (139, 0, 42, 0, [3094, 3096, 9, 1005]), (142, 0, 43, 0, [3110, 3112, 12, 1005]), (145, 0, 45, 0, [3142, 3144, 17, 1005]), (148, 0, 46, 0, [3147, 3149, 18, 1005]), (151, 0, 47, 0, [3152, 3154, 19, 1005]), (156, 0, 35, 3, [3087, 3089, 8, 1005]), (178, 0, 38, 2, [3098, 3100, 10, 1005]), (206, 0, 44, 0, [3114, 3116, 13, 1005]), (211, 0, 34, 1, [3123, 3125, 14, 1005]), (214, 0, 39, 1, [3127, 3129, 15, 1005]), (217, 0, 30, 1, [3131, 3133, 16, 1005]), (235, 0, 25, 1, [3137, 3138, 3139, 1002])],
  [(25, 0, 50, 1, [5026, 5027, 5028, 1003])],
  [(30, 3, 0, 2, [3178]), (42, 1, 53, 3, [3175, 3176, 1010]), (46, 1, 54, 3, [3179, 3180, 1010]), (49, 2, 0, 2, [3182])],
  [(65, 0, 61, 3, [3161, 3163, 20, 1006]), (69, 4, 0, 5, [5047]), (78, 0, 60, 3, [4078, 3230, 3231, 1006]), (85, 0, 59, 2, [4077, 3222, 3223, 1006]), (92, 0, 1, 0, [5054, 4102, 4103, 1004]), (96, 0, 62, 2, [5055, 3206, 3207, 1006]), (100, 0, 70, 1, [5056, 5058, 36, 1006]), (104, 0, 66, 1, [5068, 4002, 4003, 1006])],
  [(94, 0, 133, 1, [2221, 2223, 0, 1001]), (98, 0, 121, 1, [2229, 2231, 1, 1001]), (102, 0, 28, 2, [2233, 2234, 2235, 1005]), (107, 0, 57, 1, [3157, 3158, 3159, 1006]), (111, 0, 3, 1, [3165, 3166, 3167, 1009]), (114, 0, 55, 1, [3171, 3172, 3173, 1010]), (120, 0, 122, 1, [3185, 3187, 21, 1001]), (126, 0, 127, 1, [3201, 3203, 22, 1001]), (155, 0, 62, 2, [3205, 3206, 3207, 1006]), (158, 0, 126, 2, [3213, 3215, 23, 1001]), (162, 0, 59, 2, [3221, 3222, 3223, 1006]), (166, 0, 60, 3, [3229, 3230, 3231, 1006]), (176, 0, 66, 1, [4001, 4002, 4003, 1006]), (183, 0, 67, 2, [4009, 4010, 4011, 1006]), (187, 1, 129, 1, [4017, 4018, 1001]), (190, 0, 68, 2, [4020, 4021, 4022, 1006]), (193, 2, 0, 2, [4028]), (198, 3, 0, 2, [4029]), (215, 0, 125, 1, [3217, 3219, 24, 1001]), (218, 1, 130, 1, [4042, 4043, 1001]), (221, 0, 49, 1, [4045, 4046, 4047, 1003]), (226, 1, 136, 3, [4050, 4051, 1001]), (237, 0, 64, 3, [4073, 4074, 4075, 1006]), (241, 0, 15, 3, [4087, 4088, 4089, 1007]), (257, 0, 63, 4, [4136, 4109, 4110, 1006]), (261, 0, 9, 2, [4141, 4142, 4143, 1008]), (268, 0, 12, 3, [4158, 4159, 4160, 1008]), (272, 0, 13, 2, [4171, 4172, 4173, 1008]), (281, 0, 128, 1, [4185, 4187, 32, 1001]), (284, 0, 7, 3, [4189, 4190, 4191, 1009]), (287, 0, 4, 1, [4201, 4202, 4203, 1009]), (293, 0, 5, 3, [4213, 4214, 4215, 1009]), (296, 0, 134, 2, [4225, 4227, 34, 1001]), (302, 1, 131, 1, [4237, 4238, 1001]), (305, 1, 54, 3, [5000, 3180, 1010]), (308, 1, 53, 3, [5001, 3176, 1010]), (317, 1, 132, 1, [5014, 5015, 1001]), (320, 1, 135, 1, [5018, 5019, 1001]), (323, 0, 51, 1, [5022, 5023, 5024, 1003]), (326, 0, 50, 1, [5034, 5027, 5028, 1003]), (329, 0, 138, 0, [5039, 5041, 35, 1001]), (332, 0, 69, 4, [5050, 5051, 5052, 1006]), (336, 0, 71, 1, [5064, 5065, 5066, 1006]), (339, 0, 123, 1, [5073, 5075, 37, 1001]), (345, 0, 124, 0, [5077, 5079, 38, 1001]), (349, 0, 58, 1, [5043, 5044, 5045, 1006]), (369, 0, 65, 0, [5097, 5098, 5099, 1006]), (378, 1, 137, 2, [4053, 4054, 1001])],
  [(69, 0, 149, 1, [6080, 6082, 43, 1011]), (85, 1, 150, 1, [6084, 6085, 1011]), (89, 1, 151, 1, [6087, 6088, 1011]), (99, 5, 0, 0, [6099]), (105, 6, 0, 1, [6100]), (109, 0, 154, 1, [6095, 6097, 45, 1011]), (113, 0, 152, 0, [6076, 6078, 42, 1011]), (116, 0, 155, 1, [6118, 6120, 50, 1011]), (119, 0, 153, 2, [6105, 6107, 47, 1011]), (135, 0, 157, 0, [6146, 6148, 56, 1011]), (138, 0, 158, 0, [6154, 6156, 57, 1011]), (141, 1, 144, 3, [6069, 6070, 1011]), (145, 0, 160, 2, [6171, 6173, 59, 1011]), (149, 0, 162, 2, [6126, 6128, 52, 1011]), (152, 0, 156, 1, [6114, 6116, 49, 1011]), (156, 0, 163, 2, [6122, 6124, 51, 1011]), (159, 0, 141, 0, [6065, 6067, 40, 1011]), (162, 0, 142, 1, [6072, 6074, 41, 1011]), (165, 0, 167, 0, [6090, 6092, 44, 1011]), (168, 1, 146, 5, [6197, 6198, 1011]), (172, 0, 179, 2, [6200, 6202, 64, 1011]), (184, 0, 168, 0, [6101, 6103, 46, 1011]), (187, 0, 166, 2, [6134, 6136, 53, 1011]), (191, 0, 169, 0, [6138, 6140, 54, 1011]), (194, 0, 170, 0, [6162, 6164, 58, 1011]), (197, 0, 171, 0, [6178, 6180, 60, 1011]), (200, 0, 172, 0, [6183, 6185, 61, 1011]), (203, 0, 173, 0, [6192, 6194, 63, 1011]), (208, 0, 164, 3, [6110, 6112, 48, 1011]), (218, 0, 159, 1, [6142, 6144, 55, 1011]), (248, 0, 161, 0, [6187, 6189, 62, 1011]), (254, 0, 177, 1, [6216, 6218, 65, 1011]), (257, 0, 176, 1, [6228, 6230, 67, 1011]), (260, 0, 182, 2, [6224, 6226, 66, 1011]), (264, 0, 183, 2, [6232, 6234, 68, 1011]), (267, 0, 184, 3, [7000, 7002, 69, 1011]), (271, 0, 188, 0, [7012, 7014, 70, 1011]), (274, 0, 190, 1, [7020, 7022, 71, 1011]), (277, 0, 192, 1, [7028, 7030, 72, 1011]), (280, 0, 180, 2, [7044, 7046, 73, 1011]), (283, 0, 196, 1, [7048, 7050, 74, 1011]), (286, 0, 198, 2, [7056, 7058, 75, 1011]), (291, 1, 147, 3, [7061, 7062, 1011]), (297, 1, 202, 2, [7092, 7093, 1011]), (311, 1, 203, 2, [7096, 7097, 1011]), (321, 0, 204, 1, [7081, 7083, 77, 1011]), (325, 0, 205, 3, [7088, 7090, 78, 1011]), (329, 0, 208, 1, [7099, 7101, 79, 1011]), (332, 0, 206, 2, [7103, 7105, 80, 1011]), (335, 0, 207, 1, [7076, 7078, 76, 1011]), (338, 0, 210, 1, [7111, 7113, 81, 1011]), (341, 0, 215, 2, [7131, 7133, 82, 1011]), (347, 1, 145, 2, [7143, 7144, 1011]), (350, 0, 217, 0, [7139, 7141, 83, 1011]), (353, 0, 221, 1, [7162, 7164, 85, 1011]), (356, 0, 222, 0, [7158, 7160, 84, 1011]), (359, 0, 178, 1, [7174, 7176, 86, 1011]), (362, 0, 226, 1, [7186, 7188, 88, 1011]), (365, 0, 227, 1, [7182, 7184, 87, 1011]), (368, 0, 231, 2, [7202, 7204, 89, 1011]), (371, 0, 234, 3, [7214, 7216, 90, 1011]), (378, 0, 236, 2, [7226, 7228, 92, 1011]), (381, 0, 237, 1, [7222, 7224, 91, 1011]), (395, 0, 240, 0, [7239, 8001, 93, 1011]), (398, 0, 243, 0, [8012, 8014, 94, 1011]), (401, 0, 143, 1, [8024, 8026, 95, 1011]), (404, 0, 251, 0, [8048, 8050, 96, 1011])],
  [(7, 0, 118, 1, [5109, 5110, 5111, 1001]), (19, 0, 73, 5, [2217, 2218, 2219, 1001]), (23, 0, 148, 5, [6057, 6058, 6059, 1011]), (24, 0, 74, 1, [2225, 2226, 2227, 1001]), (27, 0, 165, 1, [6061, 6062, 6063, 1011]), (28, 0, 75, 0, [3189, 3190, 3191, 1001]), (32, 0, 174, 0, [6204, 6205, 6206, 1011]), (33, 0, 76, 0, [3193, 3194, 3195, 1001]), (36, 0, 175, 0, [6208, 6209, 6210, 1011]), (37, 0, 77, 2, [3197, 3198, 3199, 1001]), (41, 0, 181, 2, [6212, 6213, 6214, 1011]), (42, 0, 78, 2, [3209, 3210, 3211, 1001]), (45, 0, 185, 2, [6220, 6221, 6222, 1011]), (46, 0, 79, 3, [3225, 3226, 3227, 1001]), (50, 0, 186, 3, [6236, 6237, 6238, 1011]), (51, 0, 80, 1, [3233, 3234, 3235, 1001]), (54, 0, 187, 1, [7004, 7005, 7006, 1011]), (55, 0, 81, 0, [3237, 3238, 3239, 1001]), (58, 0, 189, 0, [7008, 7009, 7010, 1011]), (59, 0, 82, 1, [4005, 4006, 4007, 1001]), (62, 0, 191, 1, [7016, 7017, 7018, 1011]), (63, 0, 83, 1, [4013, 4014, 4015, 1001]), (66, 0, 193, 1, [7024, 7025, 7026, 1011]), (67, 0, 84, 0, [4024, 4025, 4026, 1001]), (70, 0, 194, 0, [7032, 7033, 7034, 1011]), (71, 0, 85, 0, [4030, 4031, 4032, 1001]), (74, 0, 195, 0, [7036, 7037, 7038, 1011]), (75, 0, 86, 0, [4034, 4035, 4036, 1001]), (78, 0, 197, 0, [7040, 7041, 7042, 1011]), (79, 0, 87, 3, [4038, 4039, 4040, 1001]), (83, 0, 199, 3, [7052, 7053, 7054, 1011]), (84, 0, 88, 2, [4057, 4058, 4059, 1001]), (88, 0, 200, 2, [7064, 7065, 7066, 1011]), (89, 0, 89, 1, [4061, 4062, 4063, 1001]), (92, 0, 201, 1, [7068, 7069, 7070, 1011]), (93, 0, 90, 2, [4065, 4066, 4067, 1001]), (96, 0, 213, 2, [7119, 7120, 7121, 1011]), (97, 0, 91, 1, [4069, 4070, 4071, 1001]), (100, 0, 214, 1, [7123, 7124, 7125, 1011]), (101, 0, 92, 1, [4079, 4080, 4081, 1001]), (104, 0, 216, 1, [7127, 7128, 7129, 1011]), (105, 0, 93, 1, [4083, 4084, 4085, 1001]), (108, 0, 209, 1, [7072, 7073, 7074, 1011]), (109, 0, 94, 2, [4128, 4129, 4130, 1001]), (112, 0, 211, 2, [7107, 7108, 7109, 1011]), (113, 0, 95, 1, [4132, 4133, 4134, 1001]), (116, 0, 212, 1, [7115, 7116, 7117, 1011]), (117, 0, 96, 0, [4137, 4138, 4139, 1001]), (120, 0, 218, 0, [7135, 7136, 7137, 1011]), (121, 0, 97, 0, [4154, 4155, 4156, 1001]), (124, 0, 219, 0, [7146, 7147, 7148, 1011]), (125, 0, 98, 0, [4163, 4164, 4165, 1001]), (128, 0, 220, 0, [7150, 7151, 7152, 1011]), (129, 0, 99, 0, [4167, 4168, 4169, 1001]), (132, 0, 223, 0, [7154, 7155, 7156, 1011]), (133, 0, 100, 0, [4177, 4178, 4179, 1001]), (136, 0, 224, 0, [7166, 7167, 7168, 1011]), (137, 0, 101, 2, [4181, 4182, 4183, 1001]), (140, 0, 225, 2, [7170, 7171, 7172, 1011]), (141, 0, 102, 1, [4197, 4198, 4199, 1001]), (144, 0, 228, 1, [7178, 7179, 7180, 1011]), (145, 0, 103, 0, [4205, 4206, 4207, 1001]), (148, 0, 230, 0, [7194, 7195, 7196, 1011]), (149, 0, 104, 2, [4209, 4210, 4211, 1001]), (152, 0, 229, 2, [7190, 7191, 7192, 1011]), (153, 0, 105, 2, [4221, 4222, 4223, 1001]), (156, 0, 232, 2, [7198, 7199, 7200, 1011]), (157, 0, 106, 2, [4229, 4230, 4231, 1001]), (160, 0, 233, 2, [7206, 7207, 7208, 1011]), (161, 0, 107, 3, [4233, 4234, 4235, 1001]), (165, 0, 235, 3, [7210, 7211, 7212, 1011]), (166, 0, 108, 0, [5002, 5003, 5004, 1001]), (169, 0, 238, 0, [7218, 7219, 7220, 1011]), (170, 0, 109, 1, [5006, 5007, 5008, 1001]), (173, 0, 239, 1, [7230, 7231, 7232, 1011]), (174, 0, 110, 1, [5010, 5011, 5012, 1001]), (177, 0, 241, 1, [7234, 7235, 7236, 1011]), (178, 0, 111, 3, [5030, 5031, 5032, 1001]), (181, 0, 242, 3, [8004, 8005, 8006, 1011]), (182, 0, 112, 3, [5035, 5036, 5037, 1001]), (185, 0, 244, 3, [8008, 8009, 8010, 1011]), (186, 0, 113, 0, [5060, 5061, 5062, 1001]), (189, 0, 245, 0, [8016, 8017, 8018, 1011]), (190, 0, 114, 2, [5069, 5070, 5071, 1001]), (194, 0, 246, 2, [8020, 8021, 8022, 1011]), (195, 0, 115, 0, [5081, 5082, 5083, 1001]), (199, 0, 247, 0, [8028, 8029, 8030, 1011]), (200, 0, 116, 0, [5085, 5086, 5087, 1001]), (203, 0, 248, 0, [8032, 8033, 8034, 1011]), (204, 0, 117, 1, [5089, 5090, 5091, 1001]), (208, 0, 249, 1, [8036, 8037, 8038, 1011]), (214, 0, 250, 1, [8040, 8041, 8042, 1011]), (215, 0, 140, 0, [6053, 6054, 6055, 1011]), (218, 0, 119, 1, [5093, 5094, 5095, 1001]), (221, 0, 252, 1, [8044, 8045, 8046, 1011]), (222, 0, 120, 0, [5101, 5102, 5103, 1001]), (225, 0, 253, 0, [8052, 8053, 8054, 1011])]]
def mlT (oc : Nat) : List (Nat × Nat × Nat × Nat × List Nat) := (mlTL[oc]?).getD []
def ciTL : List (List (Nat × Int × Nat)) := [[], [(21, 1000000, 3169)], [], [], [], [], [], [], [], [(376, 65536, 5017), (377, 65537, 5021)], [(307, 1000000, 7087), (393, 65537, 8003), (394, 65536, 7238)], []]
def clTL : List (List (Nat × Int × Nat)) := [[], [], [], [], [], [(104, 32, 3011)], [], [], [], [(224, 100, 4049), (382, -1, 4056)], [(289, 100, 7060), (295, 7, 7095), (301, 31, 7085), (303, 8191, 7086), (305, -1, 7080)], []]
def csTL : List (List (Nat × Nat × Nat)) := [[], [], [], [], [], [(119, 0, 3020), (120, 1, 3073), (122, 2, 3074), (124, 3, 3075), (126, 4, 3076), (128, 5, 3077), (154, 6, 3086), (162, 7, 3091), (166, 8, 3092), (170, 9, 3093), (182, 10, 3106), (188, 11, 3107), (192, 12, 3108), (196, 13, 3109), (209, 18, 3122), (230, 19, 3135), (234, 20, 3136), (241, 21, 3141), (245, 14, 3118), (247, 15, 3119), (249, 16, 3120), (251, 17, 3121), (253, 22, 3146), (264, 23, 3151), (266, 24, 3156)], [], [], [], [], [(123, 0, 6094), (125, 1, 6133), (127, 2, 6150), (129, 3, 6151), (131, 4, 6152), (133, 5, 6153), (206, 6, 6109), (212, 7, 6130), (214, 8, 6131), (216, 9, 6132), (222, 10, 6158), (224, 11, 6159), (226, 12, 6160), (228, 13, 6161), (230, 14, 6166), (232, 15, 6167), (234, 16, 6168), (236, 17, 6169), (238, 18, 6170), (240, 19, 6175), (242, 20, 6176), (244, 21, 6177), (246, 22, 6182), (251, 23, 6191), (252, 24, 6196)], []]
def txL : List String := ["port", "ship", "crate", "town", "road", "opened", "straw", "wage", "gang", "council", "day", "chance", "late", "says", "plain", "wet", "frail", "lashed", "on", "stack", "is", "weighs", "people", "days", "night"]
abbrev KD : Type := Nat ⊕ (Nat × Nat)
def shL0 : List KD := [.inl 9, .inr (1, 1000), .inl 4, .inr (4, 3), .inr (5, 15), .inr (0, 5), .inr (7, 5), .inr (0, 5), .inr (0, 5), .inr (0, 5), .inr (0, 5), .inr (0, 5), .inl 6, .inl 6, .inl 6, .inl 0]
def shL1 : List KD := [.inl 0, .inl 0, .inl 0, .inl 0, .inl 0, .inl 0, .inl 0, .inl 0, .inl 0, .inl 0, .inl 0, .inl 0, .inl 0, .inl 0, .inl 4, .inr (4, 3)]
def shL2 : List KD := [.inr (5, 15), .inr (0, 5), .inr (7, 5), .inr (0, 5), .inr (0, 5), .inr (0, 5), .inr (0, 5), .inr (0, 5), .inl 6, .inl 6, .inl 6, .inl 0, .inl 0, .inl 0, .inl 0, .inl 0]
def shL3 : List KD := [.inl 0, .inl 0, .inl 0, .inl 0, .inl 0, .inl 0, .inl 0, .inl 0, .inl 0, .inl 0, .inl 5, .inr (3, 23), .inr (0, 23), .inr (0, 23), .inl 8, .inr (0, 45)]
def shL4 : List KD := [.inr (0, 9), .inr (0, 15), .inr (0, 15), .inr (0, 15), .inr (0, 15), .inr (0, 15), .inr (0, 15), .inr (6, 16), .inr (6, 3), .inl 3, .inr (0, 30), .inr (0, 15), .inr (0, 3), .inr (0, 5), .inr (2, 5), .inl 2]
def shL5 : List KD := [.inr (0, 451), .inl 1, .inr (7, 5), .inr (0, 5), .inr (0, 5), .inr (0, 5), .inr (0, 5), .inr (0, 5), .inl 7, .inr (0, 100), .inr (0, 10), .inr (0, 10), .inl 8, .inr (0, 45), .inr (0, 9), .inr (0, 15)]
def shL6 : List KD := [.inr (0, 15), .inr (0, 15), .inr (0, 15), .inr (0, 15), .inr (0, 15), .inl 8, .inr (0, 45), .inr (0, 9), .inr (0, 15), .inr (0, 15), .inr (0, 15), .inr (0, 15), .inr (0, 15), .inr (0, 15), .inl 8, .inr (0, 45)]
def shL7 : List KD := [.inr (0, 9), .inr (0, 15), .inr (0, 15), .inr (0, 15), .inr (0, 15), .inr (0, 15), .inr (0, 15), .inl 8, .inr (0, 45), .inr (0, 9), .inr (0, 15), .inr (0, 15), .inr (0, 15), .inr (0, 15), .inr (0, 15), .inr (0, 15)]
def shL8 : List KD := [.inl 8, .inr (0, 45), .inr (0, 9), .inr (0, 15), .inr (0, 15), .inr (0, 15), .inr (0, 15), .inr (0, 15), .inr (0, 15), .inl 8, .inr (0, 45), .inr (0, 9), .inr (0, 15), .inr (0, 15), .inr (0, 15), .inr (0, 15)]
def shL9 : List KD := [.inr (0, 15), .inr (0, 15), .inl 8, .inr (0, 45), .inr (0, 9), .inr (0, 15), .inr (0, 15), .inr (0, 15), .inr (0, 15), .inr (0, 15), .inr (0, 15), .inl 8, .inr (0, 45), .inr (0, 9), .inr (0, 15), .inr (0, 15)]
def shL10 : List KD := [.inr (0, 15), .inr (0, 15), .inr (0, 15), .inr (0, 15), .inl 8, .inr (0, 45), .inr (0, 9), .inr (0, 15), .inr (0, 15), .inr (0, 15), .inr (0, 15), .inr (0, 15), .inr (0, 15), .inl 8, .inr (0, 45), .inr (0, 9)]
def shL11 : List KD := [.inr (0, 15), .inr (0, 15), .inr (0, 15), .inr (0, 15), .inr (0, 15), .inr (0, 15), .inl 8, .inr (0, 45), .inr (0, 9), .inr (0, 15), .inr (0, 15), .inr (0, 15), .inr (0, 15), .inr (0, 15), .inr (0, 15), .inl 8]
def shL12 : List KD := [.inr (0, 45), .inr (0, 9), .inr (0, 15), .inr (0, 15), .inr (0, 15), .inr (0, 15), .inr (0, 15), .inr (0, 15), .inl 8, .inr (0, 45), .inr (0, 9), .inr (0, 15), .inr (0, 15), .inr (0, 15), .inr (0, 15), .inr (0, 15)]
def shL13 : List KD := [.inr (0, 15), .inl 8, .inr (0, 45), .inr (0, 9), .inr (0, 15), .inr (0, 15), .inr (0, 15), .inr (0, 15), .inr (0, 15), .inr (0, 15), .inl 8, .inr (0, 45), .inr (0, 9), .inr (0, 15), .inr (0, 15), .inr (0, 15)]
def shL14 : List KD := [.inr (0, 15), .inr (0, 15), .inr (0, 15), .inl 8, .inr (0, 45), .inr (0, 9), .inr (0, 15), .inr (0, 15), .inr (0, 15), .inr (0, 15), .inr (0, 15), .inr (0, 15), .inl 8, .inr (0, 45), .inr (0, 9), .inr (0, 15)]
def shL15 : List KD := [.inr (0, 15), .inr (0, 15), .inr (0, 15), .inr (0, 15), .inr (0, 15), .inl 8, .inr (0, 45), .inr (0, 9), .inr (0, 15), .inr (0, 15), .inr (0, 15), .inr (0, 15), .inr (0, 15), .inr (0, 15), .inl 8, .inr (0, 45)]
def shL16 : List KD := [.inr (0, 9), .inr (0, 15), .inr (0, 15), .inr (0, 15), .inr (0, 15), .inr (0, 15), .inr (0, 15), .inl 10, .inr (0, 1000), .inr (0, 8), .inr (0, 348), .inr (0, 348), .inr (0, 246), .inr (0, 3936), .inr (0, 738), .inr (3, 8192)]
def shL17 : List KD := [.inr (0, 8192), .inr (0, 3200), .inr (0, 5), .inr (0, 15), .inr (0, 5), .inr (3, 1)]
def shLs : List (List KD) := [shL0, shL1, shL2, shL3, shL4, shL5, shL6, shL7, shL8, shL9, shL10, shL11, shL12, shL13, shL14, shL15, shL16, shL17]
/-- what lies at a place of the world (places count from its base) -/
def SH (a : Nat) : Option KD := ((shLs[a / 16]?).getD [])[a % 16]?
def atL : List FieldType := [.int, .byte, .boolean, .long, .object "DayPort$Ship", .object "DayPort$Crate", .object "DayPort$Yard", .array .int]
def aT (t : Nat) : FieldType := (atL[t]?).getD .int
/-- fields that hold always the same object: how far off it lies -/
def ofL : List (List (Nat × Nat)) := [[], [(0, 1)], [(3, 1)], [(0, 1), (4, 2), (5, 3), (6, 4), (7, 5)], [(4, 1), (6, 2), (8, 3), (10, 4)], [(12, 1), (13, 2), (14, 3)], [], [(0, 1), (2, 2), (3, 3)], [(0, 1), (1, 2), (2, 3), (4, 4), (5, 5), (6, 6), (7, 7), (8, 8)], [(0, 1), (4, 58), (8, 62), (9, 71), (11, 72), (13, 73), (14, 79), (15, 81), (16, 88)], [(1, 1), (12, 2), (15, 3), (16, 4), (17, 5), (18, 6), (19, 7), (22, 8), (23, 9), (24, 10), (25, 11), (29, 12), (31, 13)]]
def lk2 {α : Type} (l : List (Nat × α)) (i : Nat) : Option α := match l with
  | [] => none
  | q :: t => bif Nat.beq q.1 i then some q.2 else lk2 t i
def RS (a k : Nat) : Option Nat := match SH a with
  | some (.inl ci) => bif Nat.beq ci 5 && Nat.beq k 0 then some 1 else (lk2 ((ofL[ci]?).getD []) k).map (fun o => a + o)
  | some (.inr (4, _)) => bif Nat.blt k 3 then some (a + 9 + k) else none
  | some (.inr (5, _)) => bif Nat.blt k 15 then some (a + 11 + k) else none
  | some (.inr (7, _)) => bif Nat.blt k 5 then some (a + 1 + k) else none
  | some (.inr (6, 3)) => bif Nat.blt k 3 then some (236 + 9 * k) else none
  | _ => none
def tbL : List (List Cond) := [k2_sels lw_privs, tables_1_1, tables_1_2, tables_1_3, tables_1_4, tables_1_5, tables_1_6, tables_1_7, tables_1_8]
def wordAt (i : Nat) : Option Cond := ((tbL[i / 1000]?).getD [])[i % 1000]?
theorem wordAt_in {i : Nat} {w : Cond} (h : wordAt i = some w) : w ∈ lw_tbl := by
  have h1 : ∀ l ∈ tbL, ∀ w ∈ l, w ∈ lw_tbl := by
    intro l hl w hw
    simp only [tbL, List.mem_cons, List.not_mem_nil, or_false] at hl
    show w ∈ k2_sels lw_privs ++ (tables_1_1 ++ (tables_1_2 ++ (tables_1_3 ++ (tables_1_4 ++ (tables_1_5 ++ (tables_1_6 ++ (tables_1_7 ++ tables_1_8)))))))
    simp only [List.mem_append]
    rcases hl with rfl | rfl | rfl | rfl | rfl | rfl | rfl | rfl | rfl <;> simp [hw]
  unfold wordAt at h
  cases hc : tbL[i / 1000]? with
  | none => rw [hc] at h; simp at h
  | some l => rw [hc] at h; exact h1 l (List.mem_of_getElem? hc) w (List.mem_of_getElem? h)
def wordOf (i : Nat) (w : Cond) : Bool := decide (wordAt i = some w) && goodWord w
def flOk (oc : Nat) (e : Nat × Nat × Nat × Nat) : Bool := wordOf e.2.2.2 (.fieldLink (Rn oc) e.1 (Tn e.2.1 e.2.2.1).1 (Tn e.2.1 e.2.2.1).2.1 (Tn e.2.1 e.2.2.1).2.2.1) && (Nat.blt e.2.2.1 (nf e.2.1) && Nat.blt e.2.1 11)
def mtOk (i : Nat) : Bool := plainName (mY i).cls && (Nat.ble (mL i) 24 && (decide (Rn (mO i) = (mY i).cls) && (decide ((mY i).cls ≠ "java/lang/invoke/MethodHandle") && decide ((mY i).cls ≠ "java/lang/invoke/VarHandle"))))
def mlOk (oc : Nat) (e : Nat × Nat × Nat × Nat × List Nat) : Bool :=
  match e.2.1, e.2.2.2.2 with
  | 0, [i0, i1, i2, i3] => wordOf i0 (.methodLink (Rn oc) e.1 (mY e.2.2.1)) && (wordOf i1 (.instanceMethod (mY e.2.2.1)) && (wordOf i2 (.selects (mY e.2.2.1).cls (mY e.2.2.1) (mY e.2.2.1)) && (wordOf i3 (.initialized (mY e.2.2.1).cls) && (decide ((parseMethodDescriptor (mY e.2.2.1).desc).map (fun d => d.parameters.length) = some e.2.2.2.1) && (Nat.blt (mO e.2.2.1) 11 && Nat.blt e.2.2.1 254)))))
  | 1, [i0, i1, i2] => wordOf i0 (.methodLink (Rn oc) e.1 (mY e.2.2.1)) && (wordOf i1 (.static (mY e.2.2.1)) && (wordOf i2 (.initialized (mY e.2.2.1).cls) && (decide ((parseMethodDescriptor (mY e.2.2.1).desc).map (fun d => d.parameters.length) = some e.2.2.2.1) && Nat.blt e.2.2.1 254)))
  | 2, [i0] => wordOf i0 (.methodLink (Rn oc) e.1 Lib.Math.max.name)
  | 3, [i0] => wordOf i0 (.methodLink (Rn oc) e.1 Lib.Math.min.name)
  | 4, [i0] => wordOf i0 (.methodLink (Rn oc) e.1 arraycopyName)
  | 5, _ => true
  | 6, _ => true
  | _, _ => false
set_option maxRecDepth 100000 in
theorem flT_ok0 : (flT 0).all (flOk 0) = true := by decide +kernel
set_option maxRecDepth 100000 in
theorem flT_ok1 : (flT 1).all (flOk 1) = true := by decide +kernel
set_option maxRecDepth 100000 in
theorem flT_ok2 : (flT 2).all (flOk 2) = true := by decide +kernel
set_option maxRecDepth 100000 in
theorem flT_ok3 : (flT 3).all (flOk 3) = true := by decide +kernel
set_option maxRecDepth 100000 in
theorem flT_ok4 : (flT 4).all (flOk 4) = true := by decide +kernel
set_option maxRecDepth 100000 in
theorem flT_ok5 : (flT 5).all (flOk 5) = true := by decide +kernel
set_option maxRecDepth 100000 in
theorem flT_ok6 : (flT 6).all (flOk 6) = true := by decide +kernel
set_option maxRecDepth 100000 in
theorem flT_ok7 : (flT 7).all (flOk 7) = true := by decide +kernel
set_option maxRecDepth 100000 in
theorem flT_ok8 : (flT 8).all (flOk 8) = true := by decide +kernel
set_option maxRecDepth 100000 in
theorem flT_ok9 : (flT 9).all (flOk 9) = true := by decide +kernel
set_option maxRecDepth 100000 in
theorem flT_ok10 : (flT 10).all (flOk 10) = true := by decide +kernel
set_option maxRecDepth 100000 in
theorem flT_ok11 : (flT 11).all (flOk 11) = true := by decide +kernel
theorem flT_ok : ∀ oc, (flT oc).all (flOk oc) = true := by
  intro oc
  match oc with
  | 0 => exact flT_ok0
  | 1 => exact flT_ok1
  | 2 => exact flT_ok2
  | 3 => exact flT_ok3
  | 4 => exact flT_ok4
  | 5 => exact flT_ok5
  | 6 => exact flT_ok6
  | 7 => exact flT_ok7
  | 8 => exact flT_ok8
  | 9 => exact flT_ok9
  | 10 => exact flT_ok10
  | 11 => exact flT_ok11
  | n + 12 => rfl
set_option maxRecDepth 100000 in
theorem mlT_ok0 : (mlT 0).all (mlOk 0) = true := by decide +kernel
set_option maxRecDepth 100000 in
theorem mlT_ok1 : (mlT 1).all (mlOk 1) = true := by decide +kernel
set_option maxRecDepth 100000 in
theorem mlT_ok2 : (mlT 2).all (mlOk 2) = true := by decide +kernel
set_option maxRecDepth 100000 in
theorem mlT_ok3 : (mlT 3).all (mlOk 3) = true := by decide +kernel
set_option maxRecDepth 100000 in
theorem mlT_ok4 : (mlT 4).all (mlOk 4) = true := by decide +kernel
set_option maxRecDepth 100000 in
theorem mlT_ok5 : (mlT 5).all (mlOk 5) = true := by decide +kernel
set_option maxRecDepth 100000 in
theorem mlT_ok6 : (mlT 6).all (mlOk 6) = true := by decide +kernel
set_option maxRecDepth 100000 in
theorem mlT_ok7 : (mlT 7).all (mlOk 7) = true := by decide +kernel
set_option maxRecDepth 100000 in
theorem mlT_ok8 : (mlT 8).all (mlOk 8) = true := by decide +kernel
set_option maxRecDepth 100000 in
theorem mlT_ok9 : (mlT 9).all (mlOk 9) = true := by decide +kernel
set_option maxRecDepth 100000 in
theorem mlT_ok10 : (mlT 10).all (mlOk 10) = true := by decide +kernel
set_option maxRecDepth 100000 in
theorem mlT_ok11 : (mlT 11).all (mlOk 11) = true := by decide +kernel
theorem mlT_ok : ∀ oc, (mlT oc).all (mlOk oc) = true := by
  intro oc
  match oc with
  | 0 => exact mlT_ok0
  | 1 => exact mlT_ok1
  | 2 => exact mlT_ok2
  | 3 => exact mlT_ok3
  | 4 => exact mlT_ok4
  | 5 => exact mlT_ok5
  | 6 => exact mlT_ok6
  | 7 => exact mlT_ok7
  | 8 => exact mlT_ok8
  | 9 => exact mlT_ok9
  | 10 => exact mlT_ok10
  | 11 => exact mlT_ok11
  | n + 12 => rfl
set_option maxRecDepth 100000 in
theorem mt_ok0 : (List.range 254).all mtOk = true := by decide +kernel
theorem mt_ok {i : Nat} (h : i < 254) : mtOk i = true := List.all_eq_true.mp mt_ok0 i (List.mem_range.mpr h)
def mcw (m : MT) : Cond := .code m.1 m.2.1 m.2.2.1 m.2.2.2.1
set_option maxRecDepth 100000 in
theorem mcw0 : mtL0.map (fun m => some (mcw m)) = mtL0.map (fun m => wordAt m.2.2.2.2.2) := rfl
set_option maxRecDepth 100000 in
theorem mcw1 : mtL1.map (fun m => some (mcw m)) = mtL1.map (fun m => wordAt m.2.2.2.2.2) := rfl
set_option maxRecDepth 100000 in
theorem mcw2 : mtL2.map (fun m => some (mcw m)) = mtL2.map (fun m => wordAt m.2.2.2.2.2) := rfl
set_option maxRecDepth 100000 in
theorem mcw3 : mtL3.map (fun m => some (mcw m)) = mtL3.map (fun m => wordAt m.2.2.2.2.2) := rfl
set_option maxRecDepth 100000 in
theorem mcw4 : mtL4.map (fun m => some (mcw m)) = mtL4.map (fun m => wordAt m.2.2.2.2.2) := rfl
set_option maxRecDepth 100000 in
theorem mcw5 : mtL5.map (fun m => some (mcw m)) = mtL5.map (fun m => wordAt m.2.2.2.2.2) := rfl
set_option maxRecDepth 100000 in
theorem mcw6 : mtL6.map (fun m => some (mcw m)) = mtL6.map (fun m => wordAt m.2.2.2.2.2) := rfl
set_option maxRecDepth 100000 in
theorem mcw7 : (mtL7.take 30).map (fun m => some (mcw m)) = (mtL7.take 30).map (fun m => wordAt m.2.2.2.2.2) := rfl
end
section
/-! THE ABSTRACT MACHINE, first half: the world by places, the judgement G (from this pc on the method comes to its end with Q), the contract Cm of a method -/
/-- a value of the machine: places count from the world's base B; a float stands for a String constant by its number -/
def tr (B : Nat) (sa : Nat → Nat) (v : Value) : Value := match v with
  | .ref a => .ref (B + a)
  | .float k => .ref (sa k.toNat)
  | v => v
theorem tr_cat (B : Nat) (sa : Nat → Nat) (v : Value) : (tr B sa v).category = v.category := by cases v <;> rfl
abbrev LV : Type := List (Nat × Value)
def trl (B : Nat) (sa : Nat → Nat) (lv : LV) : LV := lv.map (fun q => (q.1, tr B sa q.2))
def trs (B : Nat) (sa : Nat → Nat) (st : List Value) : List Value := st.map (tr B sa)
def rLk (lv : LV) (i : Nat) : Option Value := match lv with
  | [] => none
  | q :: t => bif Nat.beq q.1 i then some q.2 else rLk t i
theorem rLk_mem {lv : LV} {i : Nat} {v : Value} (h : rLk lv i = some v) : (i, v) ∈ lv := by
  induction lv with
  | nil => simp [rLk] at h
  | cons q t ih =>
    unfold rLk at h
    cases hb : Nat.beq q.1 i with
    | true =>
      rw [hb] at h
      simp only [cond_true, Option.some.injEq] at h
      have := Nat.eq_of_beq_eq_true hb
      subst this
      subst h
      exact List.mem_cons_self
    | false =>
      rw [hb] at h
      exact List.mem_cons_of_mem _ (ih h)
def f1 (i : Nat) (q : Nat × Value) : Bool := !(q.1 == i) && !(q.1 + 1 == i && q.2.category == 2)
def f2 (i : Nat) (q : Nat × Value) : Bool := !(q.1 == i) && (!(q.1 == i + 1) && !(q.1 + 1 == i && q.2.category == 2))
def st1 (lv : LV) (i : Nat) (v : Value) : LV := (i, v) :: lv.filter (f1 i)
def st2 (lv : LV) (i : Nat) (v : Value) : LV := (i, v) :: lv.filter (f2 i)
theorem trl_filter {B : Nat} {sa : Nat → Nat} (f : Nat × Value → Bool) (hf : ∀ q : Nat × Value, f (q.1, tr B sa q.2) = f q) (lv : LV) : (trl B sa lv).filter f = trl B sa (lv.filter f) := by
  induction lv with
  | nil => rfl
  | cons q t ih =>
    show List.filter f ((q.1, tr B sa q.2) :: trl B sa t) = _
    rw [List.filter_cons, List.filter_cons, hf q]
    split
    · rw [ih]; rfl
    · exact ih
theorem trl_st1 {B : Nat} {sa : Nat → Nat} (lv : LV) (i : Nat) (v : Value) : (i, tr B sa v) :: (trl B sa lv).filter (fun q => !(q.1 == i) && !(q.1 + 1 == i && q.2.category == 2)) = trl B sa (st1 lv i v) := by
  show _ :: (trl B sa lv).filter (f1 i) = _
  rw [trl_filter (f1 i) (fun q => by simp only [f1, tr_cat])]
  rfl
theorem trl_st2 {B : Nat} {sa : Nat → Nat} (lv : LV) (i : Nat) (v : Value) : (i, tr B sa v) :: (trl B sa lv).filter (fun q => !(q.1 == i) && (!(q.1 == i + 1) && !(q.1 + 1 == i && q.2.category == 2))) = trl B sa (st2 lv i v) := by
  show _ :: (trl B sa lv).filter (f2 i) = _
  rw [trl_filter (f2 i) (fun q => by simp only [f2, tr_cat])]
  rfl
theorem trl_at {B : Nat} {sa : Nat → Nat} {ls : Array Slot} {n i : Nat} {lv : LV} {v : Value} (hl : lv_has ls n (trl B sa lv)) (h : rLk lv i = some v) : ls[i]? = some (.val (tr B sa v)) := hl.2.2 (i, tr B sa v) (List.mem_map.mpr ⟨_, rLk_mem h, rfl⟩)
/-- the listed places of the locals, in this order -/
def pick (lv : LV) (ks : List Nat) : Option LV := match ks with
  | [] => some []
  | k :: t => match rLk lv k, pick lv t with
    | some v, some l => some ((k, v) :: l)
    | _, _ => none
theorem pick_sub {lv : LV} : ∀ {ks : List Nat} {l : LV}, pick lv ks = some l → ∀ q ∈ l, q ∈ lv := by
  intro ks
  induction ks with
  | nil => intro l h q hq; simp only [pick, Option.some.injEq] at h; subst h; cases hq
  | cons k t ih =>
    intro l h q hq
    unfold pick at h
    cases h1 : rLk lv k with
    | none => rw [h1] at h; simp at h
    | some v =>
      cases h2 : pick lv t with
      | none => rw [h1, h2] at h; simp at h
      | some l2 =>
        rw [h1, h2] at h
        simp only [Option.some.injEq] at h
        subst h
        rcases List.mem_cons.mp hq with rfl | hq
        · exact rLk_mem h1
        · exact ih h2 q hq
theorem trl_sub {B : Nat} {sa : Nat → Nat} {ls : Array Slot} {n : Nat} {lv l : LV} (hl : lv_has ls n (trl B sa lv)) (h : ∀ q ∈ l, q ∈ lv) : lv_has ls n (trl B sa l) := by
  refine ⟨hl.1, hl.2.1, fun q hq => ?_⟩
  obtain ⟨z, hz, rfl⟩ := List.mem_map.mp hq
  exact hl.2.2 _ (List.mem_map.mpr ⟨z, h z hz, rfl⟩)
/-- numbers in the code -/
def c32 (n : Int) : Int32 := match n with
  | .ofNat k => nI k
  | .negSucc 0 => -1
  | .negSucc (k + 1) => -(nI (k + 2))
def c64 (n : Int) : Int64 := match n with
  | .ofNat k => lN k
  | .negSucc k => -(lN (k + 1))
/-- what a field or an element holds -/
def fv (B : Nat) (t : FieldType) (r : Option Nat) (x : Int32) (y : Int64) : Value := match t with
  | .long => .long y
  | .object _ => va_rf (r.map (fun a => B + a))
  | .array _ => va_rf (r.map (fun a => B + a))
  | _ => .int x
def Wd (D : va_G) (CA : Nat → ClassId) (B : Nat) (r : Rr) (g : Gi) (j : Gl) (H : Heap) : Prop :=
  (∀ a ci, SH a = some (.inl ci) → t_OB (B + a) (D.1 ci) (nf ci) (D.2 ci) H (fun k => fv B (tyn ci k) (r a k) (g a k) (j a k))) ∧
  (∀ a t n, SH a = some (.inr (t, n)) → H[B + a]? = some (arrV (CA t) n (fun i => fv B (aT t) (r a i) (g a i) (j a i)))) ∧
  (∀ a k b, RS a k = some b → r a k = some b)
def slen : List Nat := txL.map (fun t => t.length)
def sbyt : List (List Int32) := txL.map (fun t => t.toList.map (fun c => nI c.toNat))
abbrev AB (B : Nat) : Nat → Prop := fun q => B ≤ q
/-- the String constants, by their places; the statics of the JDK; the message of led -/
def SS (B : Nat) (sa sv : Nat → Nat) (U : State) (H : Heap) : Prop := ∀ i : Nat, i < 25 → va_O "java/lang/String" (sa i) (AB B) U H ∧ va_OF "java/lang/String" "coder" "B" (.int 0) (sa i) (AB B) U H ∧ va_OF "java/lang/String" "value" "[B" (.ref (sv i)) (sa i) (AB B) U H ∧ va_T .byte (sv i) (slen.getD i 0) (fun j => .int ((sbyt.getD i []).getD j 0)) (AB B) U H
def SZ (B : Nat) (U : State) (H : Heap) : Prop := va_Z "java/lang/String" "COMPACT_STRINGS" "Z" (.int 1) (AB B) U H ∧ va_Zq "jdk/internal/util/Preconditions" "SIOOBE_FORMATTER" "Ljava/util/function/BiFunction;" (AB B) U H ∧ va_Zq "java/lang/Throwable" "UNASSIGNED_STACK" "[Ljava/lang/StackTraceElement;" (AB B) U H ∧ va_Zq "java/lang/Throwable" "SUPPRESSED_SENTINEL" "Ljava/util/List;" (AB B) U H ∧ ∃ a : Nat, vk_R RX9 355 "no such broken crate" a U
theorem SS.moved {B : Nat} {sa sv : Nat → Nat} {u U : State} {H : Heap} (hvm : u.vm.Alike U.vm) (h : SS B sa sv u H) : SS B sa sv U H :=
  fun i hi => ⟨va_O.moved hvm (h i hi).1, va_OF.moved hvm (h i hi).2.1, va_OF.moved hvm (h i hi).2.2.1, va_T.moved hvm (h i hi).2.2.2⟩
theorem SS.kept {B : Nat} {sa sv : Nat → Nat} {U : State} {H H1 : Heap} (h : SS B sa sv U H) (hq : ∀ a : Nat, a < H.size → ¬ AB B a → H1[a]? = H[a]?) : SS B sa sv U H1 :=
  fun i hi => ⟨(h i hi).1.kept hq, (h i hi).2.1.kept hq, (h i hi).2.2.1.kept hq, (h i hi).2.2.2.kept hq⟩
theorem SZ.warm {B : Nat} {s U : State} {H H1 : Heap} (h : SZ B s H) (hW : s.WarmedH U.vm) (hq : ∀ a : Nat, a < H.size → ¬ AB B a → H1[a]? = H[a]?) : SZ B U H1 := by
  obtain ⟨h1, h2, h3, h4, a, h5⟩ := h
  exact ⟨(va_Z.moved hW.alike h1).kept hq, (va_Zq.moved hW.alike h2).kept hq, (va_Zq.moved hW.alike h3).kept hq, (va_Zq.moved hW.alike h4).kept hq, a, h5.warm hW⟩
theorem SZ.same {B : Nat} {s U : State} {H : Heap} (h : SZ B s H) (hv : U.vm = s.vm) : SZ B U H := by
  have ha : s.vm.Alike U.vm := by rw [hv]; exact Vm.Alike.refl _
  obtain ⟨h1, h2, h3, h4, a, h5⟩ := h
  exact ⟨va_Z.moved ha h1, va_Zq.moved ha h2, va_Zq.moved ha h3, va_Zq.moved ha h4, a, h5.same hv⟩
/-- what the tables say, and the String constants -/
def Kw (D : va_G) (CA : Nat → ClassId) (B : Nat) (sa sv : Nat → Nat) (U : State) (H : Heap) : Prop :=
  (∀ ci, ci < 11 → u_Kn U (Rn ci) (Tn ci) (nf ci) (D.1 ci) (D.2 ci)) ∧ (∀ t, t < 8 → ArrOfT U (CA t) (aT t) ∧ va_RA U (CA t) (aT t)) ∧
  (SS B sa sv U H ∧ SZ B U H) ∧ ∀ oc, ∀ q ∈ (csTL[oc]?).getD [], vk_R (Rn oc) q.1 ((txL[q.2.1]?).getD "") (sa q.2.1) U
theorem Kw.warm {D : va_G} {CA : Nat → ClassId} {B : Nat} {sa sv : Nat → Nat} {s U : State} {H H1 : Heap} (h : Kw D CA B sa sv s H) (hW : s.WarmedH U.vm) (hq : ∀ a : Nat, a < H.size → ¬ AB B a → H1[a]? = H[a]?) : Kw D CA B sa sv U H1 :=
  ⟨fun ci hc => u_Kn_moved hW.alike (h.1 ci hc), fun t ht => ⟨arrOfT_moved hW.alike (h.2.1 t ht).1, (h.2.1 t ht).2.moved hW.alike⟩, ⟨(h.2.2.1.1.moved hW.alike).kept hq, h.2.2.1.2.warm hW hq⟩, fun oc q hq => (h.2.2.2 oc q hq).warm hW⟩
theorem Kw.same {D : va_G} {CA : Nat → ClassId} {B : Nat} {sa sv : Nat → Nat} {s U : State} {H : Heap} (h : Kw D CA B sa sv s H) (hv : U.vm = s.vm) : Kw D CA B sa sv U H := by
  have ha : s.vm.Alike U.vm := by rw [hv]; exact Vm.Alike.refl _
  exact ⟨fun ci hc => u_Kn_moved ha (h.1 ci hc), fun t ht => ⟨arrOfT_moved ha (h.2.1 t ht).1, (h.2.1 t ht).2.moved ha⟩, ⟨h.2.2.1.1.moved ha, h.2.2.1.2.same hv⟩, fun oc q hq => (h.2.2.2 oc q hq).same hv⟩
abbrev GT : List Cond := lw_tbl.filter goodWord
abbrev TS (mi : Nat) : List Cond := mcw (mt mi) :: GT
def rmd (d : Nat) : Room := { frames := d, cells := 0, slots := 0, locals := 64 * d }
abbrev QT : Type := Option Value → Rr → Gi → Gl → Prop
def QC (D : va_G) (CA : Nat → ClassId) (B : Nat) (sa : Nat → Nat) (Q : QT) : Array Value → State → Outcome → State → Prop := fun _ st oc t =>
  (∃ (v : Option Value) (r : Rr) (g : Gi) (j : Gl), oc = .returned (v.map (tr B sa)) ∧ Q v r g j ∧ Wd D CA B r g j t.heap) ∧ va_F (AB B) st t
def PC (D : va_G) (CA : Nat → ClassId) (B : Nat) (sa sv : Nat → Nat) (as : List Value) (r : Rr) (g : Gi) (j : Gl) : Array Value → State → Prop := fun v U =>
  v = (as.map (tr B sa)).toArray ∧ Kw D CA B sa sv U U.heap ∧ Wd D CA B r g j U.heap
def Fx (p : Program) (s : State) (m : MethodId) (args : Array Value) (meth : Method) (c : Code) (mi : Nat) (D : va_G) (CA : Nat → ClassId) (B : Nat) (sa sv : Nat → Nat) : Prop :=
  p.tables.exec = Jvm.exec ∧ c.code = mB mi ∧ c.maxLocals = mL mi ∧ meth.sig.returnType = mR mi ∧ s.vm.findClass (Rn (mO mi)) = some m.cls ∧ (∀ w ∈ TS mi, w.before args s = true) ∧ meth.locks = false ∧ Kw D CA B sa sv s s.heap
/-- from pc on, with these locals and this stack, the method comes to its end, and Q holds of its answer and of the world -/
def G (d mi pc : Nat) (lv : LV) (st : List Value) (r : Rr) (g : Gi) (j : Gl) (Q : QT) : Prop :=
  ∀ (p : Program) (l : Launch) (e : Env) (s : State) (m : MethodId) (args : Array Value) (below : List Frame) (meth : Method) (c : Code) (D : va_G) (CA : Nat → ClassId) (B : Nat) (sa sv : Nat → Nat) (H : Heap) (locs : List Loc) (ls : Array Slot),
    Fx p s m args meth c mi D CA B sa sv → va_S (AB B) s.heap H locs → Wd D CA B r g j H → lv_has ls (mL mi) (trl B sa lv) →
    W p l e (rmd d) s m args below meth c H locs 0 0 (MQ below (QC D CA B sa Q) args s 0 0 (AB B)) (F0 m pc ls (trs B sa st))
/-- the contract of method mi: called with these arguments in this world it returns, and Q holds -/
def Cm (d mi : Nat) (as : List Value) (r : Rr) (g : Gi) (j : Gl) (Q : QT) : Prop :=
  ∀ (l : Launch) (D : va_G) (CA : Nat → ClassId) (B : Nat) (sa sv : Nat → Nat), Met l (mY mi) (TS mi) (rmd d) (PC D CA B sa sv as r g j) (QC D CA B sa Q) 0 0 (AB B)
theorem tr_args (B : Nat) (sa : Nat → Nat) (as : List Value) : ∀ n, lv_args n (as.map (tr B sa)) = trl B sa (lv_args n as) := by
  induction as with
  | nil => intro n; simp [lv_args, trl]
  | cons v t ih => intro n; simp only [List.map_cons, lv_args, tr_cat, ih]; rfl
theorem tr_sl (B : Nat) (sa : Nat → Nat) (as : List Value) : (lg_sl (as.map (tr B sa))).length = (lg_sl as).length := by
  induction as with
  | nil => rfl
  | cons v t ih =>
    have e : ∀ (v : Value) (t : List Value), (lg_sl (v :: t)).length = (if v.category = 2 then 2 else 1) + (lg_sl t).length := by
      intro v t
      show (List.flatMap _ (v :: t)).length = _
      rw [List.flatMap_cons, List.length_append]
      split <;> rfl
    rw [List.map_cons, e, e, tr_cat, ih]
theorem Cm.ofG {d mi : Nat} {as : List Value} {r : Rr} {g : Gi} {j : Gl} {Q : QT} (hm : mi < 254) (hn : (lg_sl as).length ≤ mL mi) (h : G d mi 0 (lv_args 0 as) [] r g j Q) : Cm d mi as r g j Q := by
  intro l D CA B sa sv
  have hk := mt_ok hm
  simp only [mtOk, Bool.and_eq_true, decide_eq_true_eq] at hk
  obtain ⟨hk1, hk2, hk3, -⟩ := hk
  refine Met.ofW (cc := mB mi) (maxL := mL mi) (ret := mR mi) hk1 rfl ?_
  intro p e s m args below meth c s₁ Bd hml hv
  obtain ⟨rfl, hK, hW⟩ := hv
  have hts := atoms_spec (ws := TS mi) Bd.pre
  have hown : s.vm.findClass (Rn (mO mi)) = some m.cls := by rw [hk3]; exact findClass_of_methodNamed Bd.named
  have hl := lv_entry (as.map (tr B sa)) (n := mL mi) (by rw [tr_sl]; exact hn)
  rw [lg_entry_eq]
  rw [tr_args] at hl
  exact h p l e s m _ below meth c D CA B sa sv s.heap [] _ ⟨Bd.exec, Bd.bytes, hml, Bd.returns, hown, hts, Bd.notSynchronized, hK⟩ va_S.rf hW hl
end
