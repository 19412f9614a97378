-- ===== PART A: goes FIRST, ahead of the names: the tables' words, and 'selects' of the private methods out of them =====
/-- a private method of a class that the tables say can be made, by its rows of tables_1 -/
def lw_okq (q : MethodName × Nat) : Prop := (q.1.cls ≠ "java/lang/invoke/MethodHandle" ∧ q.1.cls ≠ "java/lang/invoke/VarHandle") ∧ Cond.instantiable q.1.cls q.2 ∈ tables_1 ∧ Cond.privateMethod q.1 ∈ tables_1 ∧ Cond.instanceMethod q.1 ∈ tables_1
theorem lw_p0 : lw_okq (⟨"DayPort", "write", "(I)V"⟩, 17) := ⟨⟨by decide +kernel, by decide +kernel⟩, List.mem_of_getElem? (i := 23) (by decide +kernel), List.mem_of_getElem? (i := 462) (by decide +kernel), List.mem_of_getElem? (i := 463) (by decide +kernel)⟩
theorem lw_p1 : lw_okq (⟨"DayPort", "refused", "(I)I"⟩, 17) := ⟨⟨by decide +kernel, by decide +kernel⟩, List.mem_of_getElem? (i := 23) (by decide +kernel), List.mem_of_getElem? (i := 470) (by decide +kernel), List.mem_of_getElem? (i := 471) (by decide +kernel)⟩
theorem lw_p2 : lw_okq (⟨"DayPort$Reader", "step", "()V"⟩, 18) := ⟨⟨by decide +kernel, by decide +kernel⟩, List.mem_of_getElem? (i := 192) (by decide +kernel), List.mem_of_getElem? (i := 485) (by decide +kernel), List.mem_of_getElem? (i := 486) (by decide +kernel)⟩
theorem lw_p3 : lw_okq (⟨"DayPort$Reader", "line", "()Z"⟩, 18) := ⟨⟨by decide +kernel, by decide +kernel⟩, List.mem_of_getElem? (i := 192) (by decide +kernel), List.mem_of_getElem? (i := 493) (by decide +kernel), List.mem_of_getElem? (i := 494) (by decide +kernel)⟩
theorem lw_p4 : lw_okq (⟨"DayPort$Reader", "beginsLine", "()Z"⟩, 18) := ⟨⟨by decide +kernel, by decide +kernel⟩, List.mem_of_getElem? (i := 192) (by decide +kernel), List.mem_of_getElem? (i := 497) (by decide +kernel), List.mem_of_getElem? (i := 498) (by decide +kernel)⟩
theorem lw_p5 : lw_okq (⟨"DayPort$Reader", "is", "(Ljava/lang/String;)Z"⟩, 18) := ⟨⟨by decide +kernel, by decide +kernel⟩, List.mem_of_getElem? (i := 192) (by decide +kernel), List.mem_of_getElem? (i := 502) (by decide +kernel), List.mem_of_getElem? (i := 503) (by decide +kernel)⟩
theorem lw_p6 : lw_okq (⟨"DayPort$Reader", "wrong", "(I)Z"⟩, 18) := ⟨⟨by decide +kernel, by decide +kernel⟩, List.mem_of_getElem? (i := 192) (by decide +kernel), List.mem_of_getElem? (i := 559) (by decide +kernel), List.mem_of_getElem? (i := 560) (by decide +kernel)⟩
theorem lw_p7 : lw_okq (⟨"DayPort$Reader", "portLine", "()Z"⟩, 18) := ⟨⟨by decide +kernel, by decide +kernel⟩, List.mem_of_getElem? (i := 192) (by decide +kernel), List.mem_of_getElem? (i := 563) (by decide +kernel), List.mem_of_getElem? (i := 564) (by decide +kernel)⟩
theorem lw_p8 : lw_okq (⟨"DayPort$Reader", "wordAndWhole", "(Ljava/lang/String;II)Z"⟩, 18) := ⟨⟨by decide +kernel, by decide +kernel⟩, List.mem_of_getElem? (i := 192) (by decide +kernel), List.mem_of_getElem? (i := 568) (by decide +kernel), List.mem_of_getElem? (i := 569) (by decide +kernel)⟩
theorem lw_p9 : lw_okq (⟨"DayPort$Reader", "shipLine", "()Z"⟩, 18) := ⟨⟨by decide +kernel, by decide +kernel⟩, List.mem_of_getElem? (i := 192) (by decide +kernel), List.mem_of_getElem? (i := 575) (by decide +kernel), List.mem_of_getElem? (i := 576) (by decide +kernel)⟩
theorem lw_p10 : lw_okq (⟨"DayPort$Reader", "newName", "(II)Z"⟩, 18) := ⟨⟨by decide +kernel, by decide +kernel⟩, List.mem_of_getElem? (i := 192) (by decide +kernel), List.mem_of_getElem? (i := 579) (by decide +kernel), List.mem_of_getElem? (i := 580) (by decide +kernel)⟩
theorem lw_p11 : lw_okq (⟨"DayPort$Reader", "nameAt", "()I"⟩, 18) := ⟨⟨by decide +kernel, by decide +kernel⟩, List.mem_of_getElem? (i := 192) (by decide +kernel), List.mem_of_getElem? (i := 583) (by decide +kernel), List.mem_of_getElem? (i := 584) (by decide +kernel)⟩
theorem lw_p12 : lw_okq (⟨"DayPort$Reader", "crateLine", "()Z"⟩, 18) := ⟨⟨by decide +kernel, by decide +kernel⟩, List.mem_of_getElem? (i := 192) (by decide +kernel), List.mem_of_getElem? (i := 591) (by decide +kernel), List.mem_of_getElem? (i := 592) (by decide +kernel)⟩
theorem lw_p13 : lw_okq (⟨"DayPort$Reader", "kindOfCrate", "()I"⟩, 18) := ⟨⟨by decide +kernel, by decide +kernel⟩, List.mem_of_getElem? (i := 192) (by decide +kernel), List.mem_of_getElem? (i := 595) (by decide +kernel), List.mem_of_getElem? (i := 596) (by decide +kernel)⟩
theorem lw_p14 : lw_okq (⟨"DayPort$Reader", "word", "(Ljava/lang/String;)Z"⟩, 18) := ⟨⟨by decide +kernel, by decide +kernel⟩, List.mem_of_getElem? (i := 192) (by decide +kernel), List.mem_of_getElem? (i := 604) (by decide +kernel), List.mem_of_getElem? (i := 605) (by decide +kernel)⟩
theorem lw_p15 : lw_okq (⟨"DayPort$Reader", "toldName", "(I)Z"⟩, 18) := ⟨⟨by decide +kernel, by decide +kernel⟩, List.mem_of_getElem? (i := 192) (by decide +kernel), List.mem_of_getElem? (i := 608) (by decide +kernel), List.mem_of_getElem? (i := 609) (by decide +kernel)⟩
def lw_privs_1 : List (MethodName × Nat) := [(⟨"DayPort", "write", "(I)V"⟩, 17), (⟨"DayPort", "refused", "(I)I"⟩, 17), (⟨"DayPort$Reader", "step", "()V"⟩, 18), (⟨"DayPort$Reader", "line", "()Z"⟩, 18), (⟨"DayPort$Reader", "beginsLine", "()Z"⟩, 18), (⟨"DayPort$Reader", "is", "(Ljava/lang/String;)Z"⟩, 18), (⟨"DayPort$Reader", "wrong", "(I)Z"⟩, 18), (⟨"DayPort$Reader", "portLine", "()Z"⟩, 18), (⟨"DayPort$Reader", "wordAndWhole", "(Ljava/lang/String;II)Z"⟩, 18), (⟨"DayPort$Reader", "shipLine", "()Z"⟩, 18), (⟨"DayPort$Reader", "newName", "(II)Z"⟩, 18), (⟨"DayPort$Reader", "nameAt", "()I"⟩, 18), (⟨"DayPort$Reader", "crateLine", "()Z"⟩, 18), (⟨"DayPort$Reader", "kindOfCrate", "()I"⟩, 18), (⟨"DayPort$Reader", "word", "(Ljava/lang/String;)Z"⟩, 18), (⟨"DayPort$Reader", "toldName", "(I)Z"⟩, 18)]
theorem lw_r1 : ∀ q ∈ lw_privs_1, lw_okq q := List.forall_mem_cons.mpr ⟨lw_p0, List.forall_mem_cons.mpr ⟨lw_p1, List.forall_mem_cons.mpr ⟨lw_p2, List.forall_mem_cons.mpr ⟨lw_p3, List.forall_mem_cons.mpr ⟨lw_p4, List.forall_mem_cons.mpr ⟨lw_p5, List.forall_mem_cons.mpr ⟨lw_p6, List.forall_mem_cons.mpr ⟨lw_p7, List.forall_mem_cons.mpr ⟨lw_p8, List.forall_mem_cons.mpr ⟨lw_p9, List.forall_mem_cons.mpr ⟨lw_p10, List.forall_mem_cons.mpr ⟨lw_p11, List.forall_mem_cons.mpr ⟨lw_p12, List.forall_mem_cons.mpr ⟨lw_p13, List.forall_mem_cons.mpr ⟨lw_p14, List.forall_mem_cons.mpr ⟨lw_p15, fun _ h => absurd h List.not_mem_nil⟩⟩⟩⟩⟩⟩⟩⟩⟩⟩⟩⟩⟩⟩⟩⟩
theorem lw_p16 : lw_okq (⟨"DayPort$Reader", "wrongBehind", "(I)Z"⟩, 18) := ⟨⟨by decide +kernel, by decide +kernel⟩, List.mem_of_getElem? (i := 192) (by decide +kernel), List.mem_of_getElem? (i := 612) (by decide +kernel), List.mem_of_getElem? (i := 613) (by decide +kernel)⟩
theorem lw_p17 : lw_okq (⟨"DayPort$Reader", "townLine", "()Z"⟩, 18) := ⟨⟨by decide +kernel, by decide +kernel⟩, List.mem_of_getElem? (i := 192) (by decide +kernel), List.mem_of_getElem? (i := 623) (by decide +kernel), List.mem_of_getElem? (i := 624) (by decide +kernel)⟩
theorem lw_p18 : lw_okq (⟨"DayPort$Reader", "roadLine", "()Z"⟩, 18) := ⟨⟨by decide +kernel, by decide +kernel⟩, List.mem_of_getElem? (i := 192) (by decide +kernel), List.mem_of_getElem? (i := 628) (by decide +kernel), List.mem_of_getElem? (i := 629) (by decide +kernel)⟩
theorem lw_p19 : lw_okq (⟨"DayPort$Reader", "openedLine", "()Z"⟩, 18) := ⟨⟨by decide +kernel, by decide +kernel⟩, List.mem_of_getElem? (i := 192) (by decide +kernel), List.mem_of_getElem? (i := 633) (by decide +kernel), List.mem_of_getElem? (i := 634) (by decide +kernel)⟩
theorem lw_p20 : lw_okq (⟨"DayPort$Yard", "pile", "(III)V"⟩, 11) := ⟨⟨by decide +kernel, by decide +kernel⟩, List.mem_of_getElem? (i := 256) (by decide +kernel), List.mem_of_getElem? (i := 642) (by decide +kernel), List.mem_of_getElem? (i := 643) (by decide +kernel)⟩
theorem lw_p21 : lw_okq (⟨"DayPort", "answered", "(I)I"⟩, 17) := ⟨⟨by decide +kernel, by decide +kernel⟩, List.mem_of_getElem? (i := 23) (by decide +kernel), List.mem_of_getElem? (i := 666) (by decide +kernel), List.mem_of_getElem? (i := 667) (by decide +kernel)⟩
theorem lw_p22 : lw_okq (⟨"DayPort", "noCrate", "(I)Z"⟩, 17) := ⟨⟨by decide +kernel, by decide +kernel⟩, List.mem_of_getElem? (i := 23) (by decide +kernel), List.mem_of_getElem? (i := 682) (by decide +kernel), List.mem_of_getElem? (i := 683) (by decide +kernel)⟩
theorem lw_p23 : lw_okq (⟨"DayPort", "noStack", "(II)Z"⟩, 17) := ⟨⟨by decide +kernel, by decide +kernel⟩, List.mem_of_getElem? (i := 23) (by decide +kernel), List.mem_of_getElem? (i := 694) (by decide +kernel), List.mem_of_getElem? (i := 695) (by decide +kernel)⟩
theorem lw_p24 : lw_okq (⟨"DayPort", "noShip", "(I)Z"⟩, 17) := ⟨⟨by decide +kernel, by decide +kernel⟩, List.mem_of_getElem? (i := 23) (by decide +kernel), List.mem_of_getElem? (i := 698) (by decide +kernel), List.mem_of_getElem? (i := 699) (by decide +kernel)⟩
theorem lw_p25 : lw_okq (⟨"DayPort$Outing", "load", "(LDayPort$Port;LDayPort$Yard;I)V"⟩, 10) := ⟨⟨by decide +kernel, by decide +kernel⟩, List.mem_of_getElem? (i := 307) (by decide +kernel), List.mem_of_getElem? (i := 812) (by decide +kernel), List.mem_of_getElem? (i := 813) (by decide +kernel)⟩
theorem lw_p26 : lw_okq (⟨"DayPort$Outing", "stillNeeded", "(I)I"⟩, 10) := ⟨⟨by decide +kernel, by decide +kernel⟩, List.mem_of_getElem? (i := 307) (by decide +kernel), List.mem_of_getElem? (i := 833) (by decide +kernel), List.mem_of_getElem? (i := 834) (by decide +kernel)⟩
theorem lw_p27 : lw_okq (⟨"DayPort$Outing", "seek", "(IIII)Z"⟩, 10) := ⟨⟨by decide +kernel, by decide +kernel⟩, List.mem_of_getElem? (i := 307) (by decide +kernel), List.mem_of_getElem? (i := 837) (by decide +kernel), List.mem_of_getElem? (i := 838) (by decide +kernel)⟩
theorem lw_p28 : lw_okq (⟨"DayPort$Outing", "seekFrom", "(IIII)Z"⟩, 10) := ⟨⟨by decide +kernel, by decide +kernel⟩, List.mem_of_getElem? (i := 307) (by decide +kernel), List.mem_of_getElem? (i := 841) (by decide +kernel), List.mem_of_getElem? (i := 842) (by decide +kernel)⟩
theorem lw_p29 : lw_okq (⟨"DayPort$Outing", "move", "(II)V"⟩, 10) := ⟨⟨by decide +kernel, by decide +kernel⟩, List.mem_of_getElem? (i := 307) (by decide +kernel), List.mem_of_getElem? (i := 845) (by decide +kernel), List.mem_of_getElem? (i := 846) (by decide +kernel)⟩
theorem lw_p30 : lw_okq (⟨"DayPort$Night", "addCrate", "(II)V"⟩, 5) := ⟨⟨by decide +kernel, by decide +kernel⟩, List.mem_of_getElem? (i := 349) (by decide +kernel), List.mem_of_getElem? (i := 866) (by decide +kernel), List.mem_of_getElem? (i := 867) (by decide +kernel)⟩
theorem lw_p31 : lw_okq (⟨"DayPort$Night", "waysOf", "(I)I"⟩, 5) := ⟨⟨by decide +kernel, by decide +kernel⟩, List.mem_of_getElem? (i := 349) (by decide +kernel), List.mem_of_getElem? (i := 871) (by decide +kernel), List.mem_of_getElem? (i := 872) (by decide +kernel)⟩
def lw_privs_2 : List (MethodName × Nat) := [(⟨"DayPort$Reader", "wrongBehind", "(I)Z"⟩, 18), (⟨"DayPort$Reader", "townLine", "()Z"⟩, 18), (⟨"DayPort$Reader", "roadLine", "()Z"⟩, 18), (⟨"DayPort$Reader", "openedLine", "()Z"⟩, 18), (⟨"DayPort$Yard", "pile", "(III)V"⟩, 11), (⟨"DayPort", "answered", "(I)I"⟩, 17), (⟨"DayPort", "noCrate", "(I)Z"⟩, 17), (⟨"DayPort", "noStack", "(II)Z"⟩, 17), (⟨"DayPort", "noShip", "(I)Z"⟩, 17), (⟨"DayPort$Outing", "load", "(LDayPort$Port;LDayPort$Yard;I)V"⟩, 10), (⟨"DayPort$Outing", "stillNeeded", "(I)I"⟩, 10), (⟨"DayPort$Outing", "seek", "(IIII)Z"⟩, 10), (⟨"DayPort$Outing", "seekFrom", "(IIII)Z"⟩, 10), (⟨"DayPort$Outing", "move", "(II)V"⟩, 10), (⟨"DayPort$Night", "addCrate", "(II)V"⟩, 5), (⟨"DayPort$Night", "waysOf", "(I)I"⟩, 5)]
theorem lw_r2 : ∀ q ∈ lw_privs_2, lw_okq q := List.forall_mem_cons.mpr ⟨lw_p16, List.forall_mem_cons.mpr ⟨lw_p17, List.forall_mem_cons.mpr ⟨lw_p18, List.forall_mem_cons.mpr ⟨lw_p19, List.forall_mem_cons.mpr ⟨lw_p20, List.forall_mem_cons.mpr ⟨lw_p21, List.forall_mem_cons.mpr ⟨lw_p22, List.forall_mem_cons.mpr ⟨lw_p23, List.forall_mem_cons.mpr ⟨lw_p24, List.forall_mem_cons.mpr ⟨lw_p25, List.forall_mem_cons.mpr ⟨lw_p26, List.forall_mem_cons.mpr ⟨lw_p27, List.forall_mem_cons.mpr ⟨lw_p28, List.forall_mem_cons.mpr ⟨lw_p29, List.forall_mem_cons.mpr ⟨lw_p30, List.forall_mem_cons.mpr ⟨lw_p31, fun _ h => absurd h List.not_mem_nil⟩⟩⟩⟩⟩⟩⟩⟩⟩⟩⟩⟩⟩⟩⟩⟩
theorem lw_p32 : lw_okq (⟨"DayPort", "noTown", "(I)Z"⟩, 17) := ⟨⟨by decide +kernel, by decide +kernel⟩, List.mem_of_getElem? (i := 23) (by decide +kernel), List.mem_of_getElem? (i := 906) (by decide +kernel), List.mem_of_getElem? (i := 907) (by decide +kernel)⟩
theorem lw_p33 : lw_okq (⟨"DayPort$Inland", "onward", "(LDayPort$Port;II)I"⟩, 1) := ⟨⟨by decide +kernel, by decide +kernel⟩, List.mem_of_getElem? (i := 374) (by decide +kernel), List.mem_of_getElem? (i := 938) (by decide +kernel), List.mem_of_getElem? (i := 939) (by decide +kernel)⟩
theorem lw_p34 : lw_okq (⟨"DayPort", "hadInland", "(II)I"⟩, 17) := ⟨⟨by decide +kernel, by decide +kernel⟩, List.mem_of_getElem? (i := 23) (by decide +kernel), List.mem_of_getElem? (i := 946) (by decide +kernel), List.mem_of_getElem? (i := 947) (by decide +kernel)⟩
theorem lw_p35 : lw_okq (⟨"DayPort", "keepNow", "()V"⟩, 17) := ⟨⟨by decide +kernel, by decide +kernel⟩, List.mem_of_getElem? (i := 23) (by decide +kernel), List.mem_of_getElem? (i := 1000) (by decide +kernel), List.mem_of_getElem? (i := 1001) (by decide +kernel)⟩
theorem lw_p36 : lw_okq (⟨"DayPort$Yard", "land", "(I)V"⟩, 11) := ⟨⟨by decide +kernel, by decide +kernel⟩, List.mem_of_getElem? (i := 256) (by decide +kernel), List.mem_of_getElem? (i := 1017) (by decide +kernel), List.mem_of_getElem? (i := 1018) (by decide +kernel)⟩
theorem lw_p37 : lw_okq (⟨"DayPort", "denied", "(I)Z"⟩, 17) := ⟨⟨by decide +kernel, by decide +kernel⟩, List.mem_of_getElem? (i := 23) (by decide +kernel), List.mem_of_getElem? (i := 1034) (by decide +kernel), List.mem_of_getElem? (i := 1035) (by decide +kernel)⟩
theorem lw_p38 : lw_okq (⟨"DayPort", "granted", "()Z"⟩, 17) := ⟨⟨by decide +kernel, by decide +kernel⟩, List.mem_of_getElem? (i := 23) (by decide +kernel), List.mem_of_getElem? (i := 1038) (by decide +kernel), List.mem_of_getElem? (i := 1039) (by decide +kernel)⟩
theorem lw_p39 : lw_okq (⟨"java/lang/Throwable", "fillInStackTrace", "(I)Ljava/lang/Throwable;"⟩, 6) := ⟨⟨by decide +kernel, by decide +kernel⟩, List.mem_of_getElem? (i := 1110) (by decide +kernel), List.mem_of_getElem? (i := 1108) (by decide +kernel), List.mem_of_getElem? (i := 1109) (by decide +kernel)⟩
theorem lw_p40 : lw_okq (⟨"DayPortModel", "good", "()V"⟩, 36) := ⟨⟨by decide +kernel, by decide +kernel⟩, List.mem_of_getElem? (i := 1139) (by decide +kernel), List.mem_of_getElem? (i := 1266) (by decide +kernel), List.mem_of_getElem? (i := 1267) (by decide +kernel)⟩
theorem lw_p41 : lw_okq (⟨"DayPortModel", "no", "(I)I"⟩, 36) := ⟨⟨by decide +kernel, by decide +kernel⟩, List.mem_of_getElem? (i := 1139) (by decide +kernel), List.mem_of_getElem? (i := 1273) (by decide +kernel), List.mem_of_getElem? (i := 1274) (by decide +kernel)⟩
theorem lw_p42 : lw_okq (⟨"DayPortModel", "pass", "()V"⟩, 36) := ⟨⟨by decide +kernel, by decide +kernel⟩, List.mem_of_getElem? (i := 1139) (by decide +kernel), List.mem_of_getElem? (i := 1277) (by decide +kernel), List.mem_of_getElem? (i := 1278) (by decide +kernel)⟩
theorem lw_p43 : lw_okq (⟨"DayPortModel", "look", "(I)I"⟩, 36) := ⟨⟨by decide +kernel, by decide +kernel⟩, List.mem_of_getElem? (i := 1139) (by decide +kernel), List.mem_of_getElem? (i := 1281) (by decide +kernel), List.mem_of_getElem? (i := 1282) (by decide +kernel)⟩
theorem lw_p44 : lw_okq (⟨"DayPortModel", "readLine", "()V"⟩, 36) := ⟨⟨by decide +kernel, by decide +kernel⟩, List.mem_of_getElem? (i := 1139) (by decide +kernel), List.mem_of_getElem? (i := 1291) (by decide +kernel), List.mem_of_getElem? (i := 1292) (by decide +kernel)⟩
theorem lw_p45 : lw_okq (⟨"DayPortModel", "isWord", "(Ljava/lang/String;)Z"⟩, 36) := ⟨⟨by decide +kernel, by decide +kernel⟩, List.mem_of_getElem? (i := 1139) (by decide +kernel), List.mem_of_getElem? (i := 1296) (by decide +kernel), List.mem_of_getElem? (i := 1297) (by decide +kernel)⟩
theorem lw_p46 : lw_okq (⟨"DayPortModel", "portLine", "()V"⟩, 36) := ⟨⟨by decide +kernel, by decide +kernel⟩, List.mem_of_getElem? (i := 1139) (by decide +kernel), List.mem_of_getElem? (i := 1302) (by decide +kernel), List.mem_of_getElem? (i := 1303) (by decide +kernel)⟩
theorem lw_p47 : lw_okq (⟨"DayPortModel", "wrong", "(II)V"⟩, 36) := ⟨⟨by decide +kernel, by decide +kernel⟩, List.mem_of_getElem? (i := 1139) (by decide +kernel), List.mem_of_getElem? (i := 1306) (by decide +kernel), List.mem_of_getElem? (i := 1307) (by decide +kernel)⟩
def lw_privs_3 : List (MethodName × Nat) := [(⟨"DayPort", "noTown", "(I)Z"⟩, 17), (⟨"DayPort$Inland", "onward", "(LDayPort$Port;II)I"⟩, 1), (⟨"DayPort", "hadInland", "(II)I"⟩, 17), (⟨"DayPort", "keepNow", "()V"⟩, 17), (⟨"DayPort$Yard", "land", "(I)V"⟩, 11), (⟨"DayPort", "denied", "(I)Z"⟩, 17), (⟨"DayPort", "granted", "()Z"⟩, 17), (⟨"java/lang/Throwable", "fillInStackTrace", "(I)Ljava/lang/Throwable;"⟩, 6), (⟨"DayPortModel", "good", "()V"⟩, 36), (⟨"DayPortModel", "no", "(I)I"⟩, 36), (⟨"DayPortModel", "pass", "()V"⟩, 36), (⟨"DayPortModel", "look", "(I)I"⟩, 36), (⟨"DayPortModel", "readLine", "()V"⟩, 36), (⟨"DayPortModel", "isWord", "(Ljava/lang/String;)Z"⟩, 36), (⟨"DayPortModel", "portLine", "()V"⟩, 36), (⟨"DayPortModel", "wrong", "(II)V"⟩, 36)]
theorem lw_r3 : ∀ q ∈ lw_privs_3, lw_okq q := List.forall_mem_cons.mpr ⟨lw_p32, List.forall_mem_cons.mpr ⟨lw_p33, List.forall_mem_cons.mpr ⟨lw_p34, List.forall_mem_cons.mpr ⟨lw_p35, List.forall_mem_cons.mpr ⟨lw_p36, List.forall_mem_cons.mpr ⟨lw_p37, List.forall_mem_cons.mpr ⟨lw_p38, List.forall_mem_cons.mpr ⟨lw_p39, List.forall_mem_cons.mpr ⟨lw_p40, List.forall_mem_cons.mpr ⟨lw_p41, List.forall_mem_cons.mpr ⟨lw_p42, List.forall_mem_cons.mpr ⟨lw_p43, List.forall_mem_cons.mpr ⟨lw_p44, List.forall_mem_cons.mpr ⟨lw_p45, List.forall_mem_cons.mpr ⟨lw_p46, List.forall_mem_cons.mpr ⟨lw_p47, fun _ h => absurd h List.not_mem_nil⟩⟩⟩⟩⟩⟩⟩⟩⟩⟩⟩⟩⟩⟩⟩⟩
theorem lw_p48 : lw_okq (⟨"DayPortModel", "after", "(Ljava/lang/String;II)I"⟩, 36) := ⟨⟨by decide +kernel, by decide +kernel⟩, List.mem_of_getElem? (i := 1139) (by decide +kernel), List.mem_of_getElem? (i := 1311) (by decide +kernel), List.mem_of_getElem? (i := 1312) (by decide +kernel)⟩
theorem lw_p49 : lw_okq (⟨"DayPortModel", "must", "(Ljava/lang/String;)V"⟩, 36) := ⟨⟨by decide +kernel, by decide +kernel⟩, List.mem_of_getElem? (i := 1139) (by decide +kernel), List.mem_of_getElem? (i := 1315) (by decide +kernel), List.mem_of_getElem? (i := 1316) (by decide +kernel)⟩
theorem lw_p50 : lw_okq (⟨"DayPortModel", "takesWord", "(Ljava/lang/String;)Z"⟩, 36) := ⟨⟨by decide +kernel, by decide +kernel⟩, List.mem_of_getElem? (i := 1139) (by decide +kernel), List.mem_of_getElem? (i := 1319) (by decide +kernel), List.mem_of_getElem? (i := 1320) (by decide +kernel)⟩
theorem lw_p51 : lw_okq (⟨"DayPortModel", "number", "(II)I"⟩, 36) := ⟨⟨by decide +kernel, by decide +kernel⟩, List.mem_of_getElem? (i := 1139) (by decide +kernel), List.mem_of_getElem? (i := 1323) (by decide +kernel), List.mem_of_getElem? (i := 1324) (by decide +kernel)⟩
theorem lw_p52 : lw_okq (⟨"DayPortModel", "numberHere", "(II)I"⟩, 36) := ⟨⟨by decide +kernel, by decide +kernel⟩, List.mem_of_getElem? (i := 1139) (by decide +kernel), List.mem_of_getElem? (i := 1327) (by decide +kernel), List.mem_of_getElem? (i := 1328) (by decide +kernel)⟩
theorem lw_p53 : lw_okq (⟨"DayPortModel", "begins", "(Ljava/lang/String;Z)Z"⟩, 36) := ⟨⟨by decide +kernel, by decide +kernel⟩, List.mem_of_getElem? (i := 1139) (by decide +kernel), List.mem_of_getElem? (i := 1335) (by decide +kernel), List.mem_of_getElem? (i := 1336) (by decide +kernel)⟩
theorem lw_p54 : lw_okq (⟨"DayPortModel", "shipLine", "()V"⟩, 36) := ⟨⟨by decide +kernel, by decide +kernel⟩, List.mem_of_getElem? (i := 1139) (by decide +kernel), List.mem_of_getElem? (i := 1339) (by decide +kernel), List.mem_of_getElem? (i := 1340) (by decide +kernel)⟩
theorem lw_p55 : lw_okq (⟨"DayPortModel", "newName", "(I)V"⟩, 36) := ⟨⟨by decide +kernel, by decide +kernel⟩, List.mem_of_getElem? (i := 1139) (by decide +kernel), List.mem_of_getElem? (i := 1343) (by decide +kernel), List.mem_of_getElem? (i := 1344) (by decide +kernel)⟩
theorem lw_p56 : lw_okq (⟨"DayPortModel", "mustName", "()V"⟩, 36) := ⟨⟨by decide +kernel, by decide +kernel⟩, List.mem_of_getElem? (i := 1139) (by decide +kernel), List.mem_of_getElem? (i := 1347) (by decide +kernel), List.mem_of_getElem? (i := 1348) (by decide +kernel)⟩
theorem lw_p57 : lw_okq (⟨"DayPortModel", "find", "()I"⟩, 36) := ⟨⟨by decide +kernel, by decide +kernel⟩, List.mem_of_getElem? (i := 1139) (by decide +kernel), List.mem_of_getElem? (i := 1355) (by decide +kernel), List.mem_of_getElem? (i := 1356) (by decide +kernel)⟩
theorem lw_p58 : lw_okq (⟨"DayPortModel", "crateLine", "()V"⟩, 36) := ⟨⟨by decide +kernel, by decide +kernel⟩, List.mem_of_getElem? (i := 1139) (by decide +kernel), List.mem_of_getElem? (i := 1363) (by decide +kernel), List.mem_of_getElem? (i := 1364) (by decide +kernel)⟩
theorem lw_p59 : lw_okq (⟨"DayPortModel", "named", "(II)I"⟩, 36) := ⟨⟨by decide +kernel, by decide +kernel⟩, List.mem_of_getElem? (i := 1139) (by decide +kernel), List.mem_of_getElem? (i := 1372) (by decide +kernel), List.mem_of_getElem? (i := 1373) (by decide +kernel)⟩
theorem lw_p60 : lw_okq (⟨"DayPortModel", "townLine", "()V"⟩, 36) := ⟨⟨by decide +kernel, by decide +kernel⟩, List.mem_of_getElem? (i := 1139) (by decide +kernel), List.mem_of_getElem? (i := 1379) (by decide +kernel), List.mem_of_getElem? (i := 1380) (by decide +kernel)⟩
theorem lw_p61 : lw_okq (⟨"DayPortModel", "roadLine", "()V"⟩, 36) := ⟨⟨by decide +kernel, by decide +kernel⟩, List.mem_of_getElem? (i := 1139) (by decide +kernel), List.mem_of_getElem? (i := 1384) (by decide +kernel), List.mem_of_getElem? (i := 1385) (by decide +kernel)⟩
theorem lw_p62 : lw_okq (⟨"DayPortModel", "townHere", "()I"⟩, 36) := ⟨⟨by decide +kernel, by decide +kernel⟩, List.mem_of_getElem? (i := 1139) (by decide +kernel), List.mem_of_getElem? (i := 1388) (by decide +kernel), List.mem_of_getElem? (i := 1389) (by decide +kernel)⟩
theorem lw_p63 : lw_okq (⟨"DayPortModel", "openedLine", "()V"⟩, 36) := ⟨⟨by decide +kernel, by decide +kernel⟩, List.mem_of_getElem? (i := 1139) (by decide +kernel), List.mem_of_getElem? (i := 1393) (by decide +kernel), List.mem_of_getElem? (i := 1394) (by decide +kernel)⟩
def lw_privs_4 : List (MethodName × Nat) := [(⟨"DayPortModel", "after", "(Ljava/lang/String;II)I"⟩, 36), (⟨"DayPortModel", "must", "(Ljava/lang/String;)V"⟩, 36), (⟨"DayPortModel", "takesWord", "(Ljava/lang/String;)Z"⟩, 36), (⟨"DayPortModel", "number", "(II)I"⟩, 36), (⟨"DayPortModel", "numberHere", "(II)I"⟩, 36), (⟨"DayPortModel", "begins", "(Ljava/lang/String;Z)Z"⟩, 36), (⟨"DayPortModel", "shipLine", "()V"⟩, 36), (⟨"DayPortModel", "newName", "(I)V"⟩, 36), (⟨"DayPortModel", "mustName", "()V"⟩, 36), (⟨"DayPortModel", "find", "()I"⟩, 36), (⟨"DayPortModel", "crateLine", "()V"⟩, 36), (⟨"DayPortModel", "named", "(II)I"⟩, 36), (⟨"DayPortModel", "townLine", "()V"⟩, 36), (⟨"DayPortModel", "roadLine", "()V"⟩, 36), (⟨"DayPortModel", "townHere", "()I"⟩, 36), (⟨"DayPortModel", "openedLine", "()V"⟩, 36)]
theorem lw_r4 : ∀ q ∈ lw_privs_4, lw_okq q := List.forall_mem_cons.mpr ⟨lw_p48, List.forall_mem_cons.mpr ⟨lw_p49, List.forall_mem_cons.mpr ⟨lw_p50, List.forall_mem_cons.mpr ⟨lw_p51, List.forall_mem_cons.mpr ⟨lw_p52, List.forall_mem_cons.mpr ⟨lw_p53, List.forall_mem_cons.mpr ⟨lw_p54, List.forall_mem_cons.mpr ⟨lw_p55, List.forall_mem_cons.mpr ⟨lw_p56, List.forall_mem_cons.mpr ⟨lw_p57, List.forall_mem_cons.mpr ⟨lw_p58, List.forall_mem_cons.mpr ⟨lw_p59, List.forall_mem_cons.mpr ⟨lw_p60, List.forall_mem_cons.mpr ⟨lw_p61, List.forall_mem_cons.mpr ⟨lw_p62, List.forall_mem_cons.mpr ⟨lw_p63, fun _ h => absurd h List.not_mem_nil⟩⟩⟩⟩⟩⟩⟩⟩⟩⟩⟩⟩⟩⟩⟩⟩
theorem lw_p64 : lw_okq (⟨"DayPortModel", "ofCrate", "(II)I"⟩, 36) := ⟨⟨by decide +kernel, by decide +kernel⟩, List.mem_of_getElem? (i := 1139) (by decide +kernel), List.mem_of_getElem? (i := 1401) (by decide +kernel), List.mem_of_getElem? (i := 1402) (by decide +kernel)⟩
theorem lw_p65 : lw_okq (⟨"DayPortModel", "isCrate", "(I)Z"⟩, 36) := ⟨⟨by decide +kernel, by decide +kernel⟩, List.mem_of_getElem? (i := 1139) (by decide +kernel), List.mem_of_getElem? (i := 1417) (by decide +kernel), List.mem_of_getElem? (i := 1418) (by decide +kernel)⟩
theorem lw_p66 : lw_okq (⟨"DayPortModel", "isStack", "(II)Z"⟩, 36) := ⟨⟨by decide +kernel, by decide +kernel⟩, List.mem_of_getElem? (i := 1139) (by decide +kernel), List.mem_of_getElem? (i := 1425) (by decide +kernel), List.mem_of_getElem? (i := 1426) (by decide +kernel)⟩
theorem lw_p67 : lw_okq (⟨"DayPortModel", "isShip", "(I)Z"⟩, 36) := ⟨⟨by decide +kernel, by decide +kernel⟩, List.mem_of_getElem? (i := 1139) (by decide +kernel), List.mem_of_getElem? (i := 1429) (by decide +kernel), List.mem_of_getElem? (i := 1430) (by decide +kernel)⟩
theorem lw_p68 : lw_okq (⟨"DayPortModel", "highOf", "(II)I"⟩, 36) := ⟨⟨by decide +kernel, by decide +kernel⟩, List.mem_of_getElem? (i := 1139) (by decide +kernel), List.mem_of_getElem? (i := 1433) (by decide +kernel), List.mem_of_getElem? (i := 1434) (by decide +kernel)⟩
theorem lw_p69 : lw_okq (⟨"DayPortModel", "lyingAt", "(III)I"⟩, 36) := ⟨⟨by decide +kernel, by decide +kernel⟩, List.mem_of_getElem? (i := 1139) (by decide +kernel), List.mem_of_getElem? (i := 1441) (by decide +kernel), List.mem_of_getElem? (i := 1442) (by decide +kernel)⟩
theorem lw_p70 : lw_okq (⟨"DayPortModel", "nextOnQuay", "()I"⟩, 36) := ⟨⟨by decide +kernel, by decide +kernel⟩, List.mem_of_getElem? (i := 1139) (by decide +kernel), List.mem_of_getElem? (i := 1453) (by decide +kernel), List.mem_of_getElem? (i := 1454) (by decide +kernel)⟩
theorem lw_p71 : lw_okq (⟨"DayPortModel", "numberHad", "(I)I"⟩, 36) := ⟨⟨by decide +kernel, by decide +kernel⟩, List.mem_of_getElem? (i := 1139) (by decide +kernel), List.mem_of_getElem? (i := 1461) (by decide +kernel), List.mem_of_getElem? (i := 1462) (by decide +kernel)⟩
theorem lw_p72 : lw_okq (⟨"DayPortModel", "dayOf", "(I)I"⟩, 36) := ⟨⟨by decide +kernel, by decide +kernel⟩, List.mem_of_getElem? (i := 1139) (by decide +kernel), List.mem_of_getElem? (i := 1469) (by decide +kernel), List.mem_of_getElem? (i := 1470) (by decide +kernel)⟩
theorem lw_p73 : lw_okq (⟨"DayPortModel", "ofShip", "(II)I"⟩, 36) := ⟨⟨by decide +kernel, by decide +kernel⟩, List.mem_of_getElem? (i := 1139) (by decide +kernel), List.mem_of_getElem? (i := 1485) (by decide +kernel), List.mem_of_getElem? (i := 1486) (by decide +kernel)⟩
theorem lw_p74 : lw_okq (⟨"DayPortModel", "cratesOf", "(I)I"⟩, 36) := ⟨⟨by decide +kernel, by decide +kernel⟩, List.mem_of_getElem? (i := 1139) (by decide +kernel), List.mem_of_getElem? (i := 1489) (by decide +kernel), List.mem_of_getElem? (i := 1490) (by decide +kernel)⟩
theorem lw_p75 : lw_okq (⟨"DayPortModel", "comeOf", "(II)I"⟩, 36) := ⟨⟨by decide +kernel, by decide +kernel⟩, List.mem_of_getElem? (i := 1139) (by decide +kernel), List.mem_of_getElem? (i := 1497) (by decide +kernel), List.mem_of_getElem? (i := 1498) (by decide +kernel)⟩
theorem lw_p76 : lw_okq (⟨"DayPortModel", "layWays", "(I)Z"⟩, 36) := ⟨⟨by decide +kernel, by decide +kernel⟩, List.mem_of_getElem? (i := 1139) (by decide +kernel), List.mem_of_getElem? (i := 1517) (by decide +kernel), List.mem_of_getElem? (i := 1518) (by decide +kernel)⟩
theorem lw_p77 : lw_okq (⟨"DayPortModel", "placeOf", "(J)I"⟩, 36) := ⟨⟨by decide +kernel, by decide +kernel⟩, List.mem_of_getElem? (i := 1139) (by decide +kernel), List.mem_of_getElem? (i := 1522) (by decide +kernel), List.mem_of_getElem? (i := 1523) (by decide +kernel)⟩
theorem lw_p78 : lw_okq (⟨"DayPortModel", "lifted", "(JII)J"⟩, 36) := ⟨⟨by decide +kernel, by decide +kernel⟩, List.mem_of_getElem? (i := 1139) (by decide +kernel), List.mem_of_getElem? (i := 1529) (by decide +kernel), List.mem_of_getElem? (i := 1530) (by decide +kernel)⟩
theorem lw_p79 : lw_okq (⟨"DayPortModel", "nearer", "(I)Z"⟩, 36) := ⟨⟨by decide +kernel, by decide +kernel⟩, List.mem_of_getElem? (i := 1139) (by decide +kernel), List.mem_of_getElem? (i := 1540) (by decide +kernel), List.mem_of_getElem? (i := 1541) (by decide +kernel)⟩
def lw_privs_5 : List (MethodName × Nat) := [(⟨"DayPortModel", "ofCrate", "(II)I"⟩, 36), (⟨"DayPortModel", "isCrate", "(I)Z"⟩, 36), (⟨"DayPortModel", "isStack", "(II)Z"⟩, 36), (⟨"DayPortModel", "isShip", "(I)Z"⟩, 36), (⟨"DayPortModel", "highOf", "(II)I"⟩, 36), (⟨"DayPortModel", "lyingAt", "(III)I"⟩, 36), (⟨"DayPortModel", "nextOnQuay", "()I"⟩, 36), (⟨"DayPortModel", "numberHad", "(I)I"⟩, 36), (⟨"DayPortModel", "dayOf", "(I)I"⟩, 36), (⟨"DayPortModel", "ofShip", "(II)I"⟩, 36), (⟨"DayPortModel", "cratesOf", "(I)I"⟩, 36), (⟨"DayPortModel", "comeOf", "(II)I"⟩, 36), (⟨"DayPortModel", "layWays", "(I)Z"⟩, 36), (⟨"DayPortModel", "placeOf", "(J)I"⟩, 36), (⟨"DayPortModel", "lifted", "(JII)J"⟩, 36), (⟨"DayPortModel", "nearer", "(I)Z"⟩, 36)]
theorem lw_r5 : ∀ q ∈ lw_privs_5, lw_okq q := List.forall_mem_cons.mpr ⟨lw_p64, List.forall_mem_cons.mpr ⟨lw_p65, List.forall_mem_cons.mpr ⟨lw_p66, List.forall_mem_cons.mpr ⟨lw_p67, List.forall_mem_cons.mpr ⟨lw_p68, List.forall_mem_cons.mpr ⟨lw_p69, List.forall_mem_cons.mpr ⟨lw_p70, List.forall_mem_cons.mpr ⟨lw_p71, List.forall_mem_cons.mpr ⟨lw_p72, List.forall_mem_cons.mpr ⟨lw_p73, List.forall_mem_cons.mpr ⟨lw_p74, List.forall_mem_cons.mpr ⟨lw_p75, List.forall_mem_cons.mpr ⟨lw_p76, List.forall_mem_cons.mpr ⟨lw_p77, List.forall_mem_cons.mpr ⟨lw_p78, List.forall_mem_cons.mpr ⟨lw_p79, fun _ h => absurd h List.not_mem_nil⟩⟩⟩⟩⟩⟩⟩⟩⟩⟩⟩⟩⟩⟩⟩⟩
theorem lw_p80 : lw_okq (⟨"DayPortModel", "costOf", "(JI)I"⟩, 36) := ⟨⟨by decide +kernel, by decide +kernel⟩, List.mem_of_getElem? (i := 1139) (by decide +kernel), List.mem_of_getElem? (i := 1544) (by decide +kernel), List.mem_of_getElem? (i := 1545) (by decide +kernel)⟩
theorem lw_p81 : lw_okq (⟨"DayPortModel", "firstLift", "(J)I"⟩, 36) := ⟨⟨by decide +kernel, by decide +kernel⟩, List.mem_of_getElem? (i := 1139) (by decide +kernel), List.mem_of_getElem? (i := 1552) (by decide +kernel), List.mem_of_getElem? (i := 1553) (by decide +kernel)⟩
theorem lw_p82 : lw_okq (⟨"DayPortModel", "weightOn", "(II)I"⟩, 36) := ⟨⟨by decide +kernel, by decide +kernel⟩, List.mem_of_getElem? (i := 1139) (by decide +kernel), List.mem_of_getElem? (i := 1572) (by decide +kernel), List.mem_of_getElem? (i := 1573) (by decide +kernel)⟩
theorem lw_p83 : lw_okq (⟨"DayPortModel", "laySets", "()V"⟩, 36) := ⟨⟨by decide +kernel, by decide +kernel⟩, List.mem_of_getElem? (i := 1139) (by decide +kernel), List.mem_of_getElem? (i := 1580) (by decide +kernel), List.mem_of_getElem? (i := 1581) (by decide +kernel)⟩
theorem lw_p84 : lw_okq (⟨"DayPortModel", "askOf", "()I"⟩, 36) := ⟨⟨by decide +kernel, by decide +kernel⟩, List.mem_of_getElem? (i := 1139) (by decide +kernel), List.mem_of_getElem? (i := 1599) (by decide +kernel), List.mem_of_getElem? (i := 1600) (by decide +kernel)⟩
theorem lw_p85 : lw_okq (⟨"DayPortModel", "leftBy", "(I)I"⟩, 36) := ⟨⟨by decide +kernel, by decide +kernel⟩, List.mem_of_getElem? (i := 1139) (by decide +kernel), List.mem_of_getElem? (i := 1603) (by decide +kernel), List.mem_of_getElem? (i := 1604) (by decide +kernel)⟩
theorem lw_p86 : lw_okq (⟨"DayPortModel", "isTown", "(I)Z"⟩, 36) := ⟨⟨by decide +kernel, by decide +kernel⟩, List.mem_of_getElem? (i := 1139) (by decide +kernel), List.mem_of_getElem? (i := 1615) (by decide +kernel), List.mem_of_getElem? (i := 1616) (by decide +kernel)⟩
theorem lw_p87 : lw_okq (⟨"DayPortModel", "lateOf", "(I)I"⟩, 36) := ⟨⟨by decide +kernel, by decide +kernel⟩, List.mem_of_getElem? (i := 1139) (by decide +kernel), List.mem_of_getElem? (i := 1623) (by decide +kernel), List.mem_of_getElem? (i := 1624) (by decide +kernel)⟩
theorem lw_p88 : lw_okq (⟨"DayPortModel", "layDays", "(I)V"⟩, 36) := ⟨⟨by decide +kernel, by decide +kernel⟩, List.mem_of_getElem? (i := 1139) (by decide +kernel), List.mem_of_getElem? (i := 1627) (by decide +kernel), List.mem_of_getElem? (i := 1628) (by decide +kernel)⟩
theorem lw_p89 : lw_okq (⟨"DayPortModel", "inlandOf", "(II)I"⟩, 36) := ⟨⟨by decide +kernel, by decide +kernel⟩, List.mem_of_getElem? (i := 1139) (by decide +kernel), List.mem_of_getElem? (i := 1643) (by decide +kernel), List.mem_of_getElem? (i := 1644) (by decide +kernel)⟩
theorem lw_p90 : lw_okq (⟨"DayPortModel", "strikeOf", "(IIZ)I"⟩, 36) := ⟨⟨by decide +kernel, by decide +kernel⟩, List.mem_of_getElem? (i := 1139) (by decide +kernel), List.mem_of_getElem? (i := 1655) (by decide +kernel), List.mem_of_getElem? (i := 1656) (by decide +kernel)⟩
theorem lw_p91 : lw_okq (⟨"DayPortModel", "seekRest", "(I)I"⟩, 36) := ⟨⟨by decide +kernel, by decide +kernel⟩, List.mem_of_getElem? (i := 1139) (by decide +kernel), List.mem_of_getElem? (i := 1663) (by decide +kernel), List.mem_of_getElem? (i := 1664) (by decide +kernel)⟩
theorem lw_p92 : lw_okq (⟨"DayPortModel", "isRest", "(II)Z"⟩, 36) := ⟨⟨by decide +kernel, by decide +kernel⟩, List.mem_of_getElem? (i := 1139) (by decide +kernel), List.mem_of_getElem? (i := 1667) (by decide +kernel), List.mem_of_getElem? (i := 1668) (by decide +kernel)⟩
theorem lw_p93 : lw_okq (⟨"DayPortModel", "goThrough", "()V"⟩, 36) := ⟨⟨by decide +kernel, by decide +kernel⟩, List.mem_of_getElem? (i := 1139) (by decide +kernel), List.mem_of_getElem? (i := 1680) (by decide +kernel), List.mem_of_getElem? (i := 1681) (by decide +kernel)⟩
theorem lw_p94 : lw_okq (⟨"DayPortModel", "note", "()V"⟩, 36) := ⟨⟨by decide +kernel, by decide +kernel⟩, List.mem_of_getElem? (i := 1139) (by decide +kernel), List.mem_of_getElem? (i := 1693) (by decide +kernel), List.mem_of_getElem? (i := 1694) (by decide +kernel)⟩
theorem lw_p95 : lw_okq (⟨"DayPortModel", "isNot", "(I)Z"⟩, 36) := ⟨⟨by decide +kernel, by decide +kernel⟩, List.mem_of_getElem? (i := 1139) (by decide +kernel), List.mem_of_getElem? (i := 1705) (by decide +kernel), List.mem_of_getElem? (i := 1706) (by decide +kernel)⟩
def lw_privs_6 : List (MethodName × Nat) := [(⟨"DayPortModel", "costOf", "(JI)I"⟩, 36), (⟨"DayPortModel", "firstLift", "(J)I"⟩, 36), (⟨"DayPortModel", "weightOn", "(II)I"⟩, 36), (⟨"DayPortModel", "laySets", "()V"⟩, 36), (⟨"DayPortModel", "askOf", "()I"⟩, 36), (⟨"DayPortModel", "leftBy", "(I)I"⟩, 36), (⟨"DayPortModel", "isTown", "(I)Z"⟩, 36), (⟨"DayPortModel", "lateOf", "(I)I"⟩, 36), (⟨"DayPortModel", "layDays", "(I)V"⟩, 36), (⟨"DayPortModel", "inlandOf", "(II)I"⟩, 36), (⟨"DayPortModel", "strikeOf", "(IIZ)I"⟩, 36), (⟨"DayPortModel", "seekRest", "(I)I"⟩, 36), (⟨"DayPortModel", "isRest", "(II)Z"⟩, 36), (⟨"DayPortModel", "goThrough", "()V"⟩, 36), (⟨"DayPortModel", "note", "()V"⟩, 36), (⟨"DayPortModel", "isNot", "(I)Z"⟩, 36)]
theorem lw_r6 : ∀ q ∈ lw_privs_6, lw_okq q := List.forall_mem_cons.mpr ⟨lw_p80, List.forall_mem_cons.mpr ⟨lw_p81, List.forall_mem_cons.mpr ⟨lw_p82, List.forall_mem_cons.mpr ⟨lw_p83, List.forall_mem_cons.mpr ⟨lw_p84, List.forall_mem_cons.mpr ⟨lw_p85, List.forall_mem_cons.mpr ⟨lw_p86, List.forall_mem_cons.mpr ⟨lw_p87, List.forall_mem_cons.mpr ⟨lw_p88, List.forall_mem_cons.mpr ⟨lw_p89, List.forall_mem_cons.mpr ⟨lw_p90, List.forall_mem_cons.mpr ⟨lw_p91, List.forall_mem_cons.mpr ⟨lw_p92, List.forall_mem_cons.mpr ⟨lw_p93, List.forall_mem_cons.mpr ⟨lw_p94, List.forall_mem_cons.mpr ⟨lw_p95, fun _ h => absurd h List.not_mem_nil⟩⟩⟩⟩⟩⟩⟩⟩⟩⟩⟩⟩⟩⟩⟩⟩
theorem lw_p96 : lw_okq (⟨"DayPortModel", "openedNow", "()I"⟩, 36) := ⟨⟨by decide +kernel, by decide +kernel⟩, List.mem_of_getElem? (i := 1139) (by decide +kernel), List.mem_of_getElem? (i := 1729) (by decide +kernel), List.mem_of_getElem? (i := 1730) (by decide +kernel)⟩
def lw_privs_7 : List (MethodName × Nat) := [(⟨"DayPortModel", "openedNow", "()I"⟩, 36)]
theorem lw_r7 : ∀ q ∈ lw_privs_7, lw_okq q := List.forall_mem_cons.mpr ⟨lw_p96, fun _ h => absurd h List.not_mem_nil⟩
def lw_privs : List (MethodName × Nat) := lw_privs_1 ++ (lw_privs_2 ++ (lw_privs_3 ++ (lw_privs_4 ++ (lw_privs_5 ++ (lw_privs_6 ++ (lw_privs_7))))))
def lw_tbl : List Cond := k2_sels lw_privs ++ tables_1
theorem lw_privs_ok : ∀ q ∈ lw_privs, lw_okq q := by
  show ∀ q ∈ lw_privs_1 ++ (lw_privs_2 ++ (lw_privs_3 ++ (lw_privs_4 ++ (lw_privs_5 ++ (lw_privs_6 ++ (lw_privs_7)))))), lw_okq q
  exact List.forall_mem_append.mpr ⟨lw_r1, List.forall_mem_append.mpr ⟨lw_r2, List.forall_mem_append.mpr ⟨lw_r3, List.forall_mem_append.mpr ⟨lw_r4, List.forall_mem_append.mpr ⟨lw_r5, List.forall_mem_append.mpr ⟨lw_r6, lw_r7⟩⟩⟩⟩⟩⟩
def RX0 : String := "DayPort$Crate"
def TX0 : u_T := fun k => match k with
  | 0 => ("DayPort$Crate", "kind", "I", false)
  | 1 => ("DayPort$Crate", "ship", "I", false)
  | 2 => ("DayPort$Crate", "stack", "I", false)
  | 3 => ("DayPort$Crate", "number", "I", false)
  | 4 => ("DayPort$Crate", "weighs", "I", false)
  | _ => ("DayPort$Crate", "opened", "I", false)
def tyX0 : Nat → FieldType := fun k => match k with
  | 0 => .int
  | 1 => .int
  | 2 => .int
  | 3 => .int
  | 4 => .int
  | _ => .int
abbrev wsX00 : List Cond := u_ws RX0 TX0 6
theorem nmX0 : ∀ a, a < 6 → ∀ b, b < 6 → a ≠ b → (TX0 a).2.1 ≠ (TX0 b).2.1 := by decide +kernel
theorem tyX0_ok : ∀ k, k < 6 → parseFieldDescriptor (TX0 k).2.2.1 = some (tyX0 k) := by decide +kernel
abbrev cX0_init : ByteArray := prog_2_method_1_code
def yX0_init : MethodName := ⟨RX0, "<init>", "()V"⟩
abbrev cX0_effort : ByteArray := prog_2_method_2_code
def yX0_effort : MethodName := ⟨RX0, "effort", "()I"⟩
def RX1 : String := "DayPort$Inland"
def TX1 : u_T := fun k => match k with
  | _ => ("DayPort$Inland", "apart", "[[I", true)
def tyX1 : Nat → FieldType := fun k => match k with
  | _ => .array (.array .int)
abbrev wsX10 : List Cond := u_ws RX1 TX1 1
theorem nmX1 : ∀ a, a < 1 → ∀ b, b < 1 → a ≠ b → (TX1 a).2.1 ≠ (TX1 b).2.1 := by decide +kernel
theorem tyX1_ok : ∀ k, k < 1 → parseFieldDescriptor (TX1 k).2.2.1 = some (tyX1 k) := by decide +kernel
abbrev cX1_init : ByteArray := prog_3_method_1_code
def yX1_init : MethodName := ⟨RX1, "<init>", "()V"⟩
abbrev cX1_measure : ByteArray := prog_3_method_2_code
def yX1_measure : MethodName := ⟨RX1, "measure", "(LDayPort$Port;)V"⟩
abbrev cX1_lateOrNothing : ByteArray := prog_3_method_3_code
def yX1_lateOrNothing : MethodName := ⟨RX1, "lateOrNothing", "(I)I"⟩
abbrev cX1_townOnWay : ByteArray := prog_3_method_4_code
def yX1_townOnWay : MethodName := ⟨RX1, "townOnWay", "(LDayPort$Port;II)I"⟩
abbrev cX1_onward : ByteArray := prog_3_method_5_code
def yX1_onward : MethodName := ⟨RX1, "onward", "(LDayPort$Port;II)I"⟩
abbrev cX1_minutesOf : ByteArray := prog_3_method_6_code
def yX1_minutesOf : MethodName := ⟨RX1, "minutesOf", "(LDayPort$Port;II)I"⟩
def RX2 : String := "DayPort$Night"
def TX2 : u_T := fun k => match k with
  | 0 => ("DayPort$Night", "sets", "I", false)
  | 1 => ("DayPort$Night", "best", "I", false)
  | 2 => ("DayPort$Night", "bestLeaves", "I", false)
  | 3 => ("DayPort$Night", "ways", "[I", true)
  | _ => ("DayPort$Night", "goal", "I", false)
def tyX2 : Nat → FieldType := fun k => match k with
  | 0 => .int
  | 1 => .int
  | 2 => .int
  | 3 => .array .int
  | _ => .int
abbrev wsX20 : List Cond := u_ws RX2 TX2 5
theorem nmX2 : ∀ a, a < 5 → ∀ b, b < 5 → a ≠ b → (TX2 a).2.1 ≠ (TX2 b).2.1 := by decide +kernel
theorem tyX2_ok : ∀ k, k < 5 → parseFieldDescriptor (TX2 k).2.2.1 = some (tyX2 k) := by decide +kernel
abbrev cX2_init : ByteArray := prog_4_method_1_code
def yX2_init : MethodName := ⟨RX2, "<init>", "()V"⟩
abbrev cX2_count : ByteArray := prog_4_method_2_code
def yX2_count : MethodName := ⟨RX2, "count", "(LDayPort$Port;LDayPort$Yard;)V"⟩
abbrev cX2_addCrate : ByteArray := prog_4_method_3_code
def yX2_addCrate : MethodName := ⟨RX2, "addCrate", "(II)V"⟩
abbrev cX2_waysOf : ByteArray := prog_4_method_4_code
def yX2_waysOf : MethodName := ⟨RX2, "waysOf", "(I)I"⟩
abbrev cX2_setsWith : ByteArray := prog_4_method_5_code
def yX2_setsWith : MethodName := ⟨RX2, "setsWith", "(LDayPort$Port;LDayPort$Yard;I)I"⟩
abbrev cX2_choose : ByteArray := prog_4_method_6_code
def yX2_choose : MethodName := ⟨RX2, "choose", "(LDayPort$Port;LDayPort$Yard;)V"⟩
def RX3 : String := "DayPort$Outing"
def TX3 : u_T := fun k => match k with
  | 0 => ("DayPort$Outing", "path", "[I", true)
  | 1 => ("DayPort$Outing", "pathLength", "I", false)
  | 2 => ("DayPort$Outing", "fewestLifts", "I", false)
  | 3 => ("DayPort$Outing", "possible", "Z", false)
  | 4 => ("DayPort$Outing", "piles", "[I", true)
  | 5 => ("DayPort$Outing", "heights", "[I", true)
  | 6 => ("DayPort$Outing", "efforts", "[I", true)
  | 7 => ("DayPort$Outing", "frail", "[Z", true)
  | 8 => ("DayPort$Outing", "count", "I", false)
  | _ => ("DayPort$Outing", "bound", "I", false)
def tyX3 : Nat → FieldType := fun k => match k with
  | 0 => .array .int
  | 1 => .int
  | 2 => .int
  | 3 => .boolean
  | 4 => .array .int
  | 5 => .array .int
  | 6 => .array .int
  | 7 => .array .boolean
  | 8 => .int
  | _ => .int
abbrev wsX30 : List Cond := u_ws RX3 TX3 10
theorem nmX3 : ∀ a, a < 10 → ∀ b, b < 10 → a ≠ b → (TX3 a).2.1 ≠ (TX3 b).2.1 := by decide +kernel
theorem tyX3_ok : ∀ k, k < 10 → parseFieldDescriptor (TX3 k).2.2.1 = some (tyX3 k) := by decide +kernel
abbrev cX3_init : ByteArray := prog_5_method_1_code
def yX3_init : MethodName := ⟨RX3, "<init>", "()V"⟩
abbrev cX3_solve : ByteArray := prog_5_method_2_code
def yX3_solve : MethodName := ⟨RX3, "solve", "(LDayPort$Port;LDayPort$Yard;I)V"⟩
abbrev cX3_load : ByteArray := prog_5_method_3_code
def yX3_load : MethodName := ⟨RX3, "load", "(LDayPort$Port;LDayPort$Yard;I)V"⟩
abbrev cX3_rankOf : ByteArray := prog_5_method_4_code
def yX3_rankOf : MethodName := ⟨RX3, "rankOf", "(LDayPort$Port;LDayPort$Yard;I)I"⟩
abbrev cX3_canCome : ByteArray := prog_5_method_5_code
def yX3_canCome : MethodName := ⟨RX3, "canCome", "(LDayPort$Port;LDayPort$Yard;I)Z"⟩
abbrev cX3_stillNeeded : ByteArray := prog_5_method_6_code
def yX3_stillNeeded : MethodName := ⟨RX3, "stillNeeded", "(I)I"⟩
abbrev cX3_seek : ByteArray := prog_5_method_7_code
def yX3_seek : MethodName := ⟨RX3, "seek", "(IIII)Z"⟩
abbrev cX3_seekFrom : ByteArray := prog_5_method_8_code
def yX3_seekFrom : MethodName := ⟨RX3, "seekFrom", "(IIII)Z"⟩
abbrev cX3_move : ByteArray := prog_5_method_9_code
def yX3_move : MethodName := ⟨RX3, "move", "(II)V"⟩
def RX4 : String := "DayPort$Port"
def TX4 : u_T := fun k => match k with
  | 0 => ("DayPort$Port", "straw", "I", false)
  | 1 => ("DayPort$Port", "wage", "I", false)
  | 2 => ("DayPort$Port", "gang", "I", false)
  | 3 => ("DayPort$Port", "council", "I", false)
  | 4 => ("DayPort$Port", "ships", "[LDayPort$Ship;", true)
  | 5 => ("DayPort$Port", "shipCount", "I", false)
  | 6 => ("DayPort$Port", "crates", "[LDayPort$Crate;", true)
  | 7 => ("DayPort$Port", "crateCount", "I", false)
  | 8 => ("DayPort$Port", "people", "[I", true)
  | 9 => ("DayPort$Port", "townCount", "I", false)
  | 10 => ("DayPort$Port", "roadDays", "[[I", true)
  | _ => ("DayPort$Port", "roadCount", "I", false)
def tyX4 : Nat → FieldType := fun k => match k with
  | 0 => .int
  | 1 => .int
  | 2 => .int
  | 3 => .int
  | 4 => .array (.object "DayPort$Ship")
  | 5 => .int
  | 6 => .array (.object "DayPort$Crate")
  | 7 => .int
  | 8 => .array .int
  | 9 => .int
  | 10 => .array (.array .int)
  | _ => .int
abbrev wsX40 : List Cond := u_ws RX4 TX4 12
theorem nmX4 : ∀ a, a < 12 → ∀ b, b < 12 → a ≠ b → (TX4 a).2.1 ≠ (TX4 b).2.1 := by decide +kernel
theorem tyX4_ok : ∀ k, k < 12 → parseFieldDescriptor (TX4 k).2.2.1 = some (tyX4 k) := by decide +kernel
abbrev cX4_init : ByteArray := prog_6_method_1_code
def yX4_init : MethodName := ⟨RX4, "<init>", "()V"⟩
abbrev cX4_empty : ByteArray := prog_6_method_2_code
def yX4_empty : MethodName := ⟨RX4, "empty", "()V"⟩
abbrev cX4_hasNumber : ByteArray := prog_6_method_3_code
def yX4_hasNumber : MethodName := ⟨RX4, "hasNumber", "(I)Z"⟩
abbrev cX4_peopleOfAll : ByteArray := prog_6_method_4_code
def yX4_peopleOfAll : MethodName := ⟨RX4, "peopleOfAll", "()I"⟩
def RX5 : String := "DayPort$Reader"
def TX5 : u_T := fun k => match k with
  | 0 => ("DayPort$Reader", "text", "[B", true)
  | 1 => ("DayPort$Reader", "length", "I", false)
  | 2 => ("DayPort$Reader", "port", "LDayPort$Port;", false)
  | 3 => ("DayPort$Reader", "begun", "Z", false)
  | 4 => ("DayPort$Reader", "kind", "I", false)
  | 5 => ("DayPort$Reader", "place", "I", false)
  | 6 => ("DayPort$Reader", "stop", "I", false)
  | 7 => ("DayPort$Reader", "letters", "J", false)
  | 8 => ("DayPort$Reader", "value", "I", false)
  | 9 => ("DayPort$Reader", "takenPlace", "I", false)
  | 10 => ("DayPort$Reader", "takenValue", "I", false)
  | 11 => ("DayPort$Reader", "takenIndex", "I", false)
  | 12 => ("DayPort$Reader", "names", "[J", true)
  | 13 => ("DayPort$Reader", "nameSorts", "[I", true)
  | 14 => ("DayPort$Reader", "nameIndices", "[I", true)
  | 15 => ("DayPort$Reader", "nameCount", "I", false)
  | 16 => ("DayPort$Reader", "fault", "I", false)
  | _ => ("DayPort$Reader", "faultPlace", "I", false)
def tyX5 : Nat → FieldType := fun k => match k with
  | 0 => .array .byte
  | 1 => .int
  | 2 => .object "DayPort$Port"
  | 3 => .boolean
  | 4 => .int
  | 5 => .int
  | 6 => .int
  | 7 => .long
  | 8 => .int
  | 9 => .int
  | 10 => .int
  | 11 => .int
  | 12 => .array .long
  | 13 => .array .int
  | 14 => .array .int
  | 15 => .int
  | 16 => .int
  | _ => .int
abbrev wsX50 : List Cond := u_ws RX5 TX5 18
theorem nmX5 : ∀ a, a < 18 → ∀ b, b < 18 → a ≠ b → (TX5 a).2.1 ≠ (TX5 b).2.1 := by decide +kernel
theorem tyX5_ok : ∀ k, k < 18 → parseFieldDescriptor (TX5 k).2.2.1 = some (tyX5 k) := by decide +kernel
abbrev cX5_init : ByteArray := prog_7_method_1_code
def yX5_init : MethodName := ⟨RX5, "<init>", "([BLDayPort$Port;)V"⟩
abbrev cX5_read : ByteArray := prog_7_method_2_code
def yX5_read : MethodName := ⟨RX5, "read", "(LDayPort$Port;I)Z"⟩
abbrev cX5_wrong : ByteArray := prog_7_method_3_code
def yX5_wrong : MethodName := ⟨RX5, "wrong", "(I)Z"⟩
abbrev cX5_wrongBehind : ByteArray := prog_7_method_4_code
def yX5_wrongBehind : MethodName := ⟨RX5, "wrongBehind", "(I)Z"⟩
abbrev cX5_step : ByteArray := prog_7_method_5_code
def yX5_step : MethodName := ⟨RX5, "step", "()V"⟩
abbrev cX5_kindOf : ByteArray := prog_7_method_6_code
def yX5_kindOf : MethodName := ⟨RX5, "kindOf", "(B)I"⟩
abbrev cX5_is : ByteArray := prog_7_method_7_code
def yX5_is : MethodName := ⟨RX5, "is", "(Ljava/lang/String;)Z"⟩
abbrev cX5_word : ByteArray := prog_7_method_8_code
def yX5_word : MethodName := ⟨RX5, "word", "(Ljava/lang/String;)Z"⟩
abbrev cX5_wordAndWhole : ByteArray := prog_7_method_9_code
def yX5_wordAndWhole : MethodName := ⟨RX5, "wordAndWhole", "(Ljava/lang/String;II)Z"⟩
abbrev cX5_beginsLine : ByteArray := prog_7_method_10_code
def yX5_beginsLine : MethodName := ⟨RX5, "beginsLine", "()Z"⟩
abbrev cX5_nameAt : ByteArray := prog_7_method_11_code
def yX5_nameAt : MethodName := ⟨RX5, "nameAt", "()I"⟩
abbrev cX5_newName : ByteArray := prog_7_method_12_code
def yX5_newName : MethodName := ⟨RX5, "newName", "(II)Z"⟩
abbrev cX5_toldName : ByteArray := prog_7_method_13_code
def yX5_toldName : MethodName := ⟨RX5, "toldName", "(I)Z"⟩
abbrev cX5_line : ByteArray := prog_7_method_14_code
def yX5_line : MethodName := ⟨RX5, "line", "()Z"⟩
abbrev cX5_portLine : ByteArray := prog_7_method_15_code
def yX5_portLine : MethodName := ⟨RX5, "portLine", "()Z"⟩
abbrev cX5_shipLine : ByteArray := prog_7_method_16_code
def yX5_shipLine : MethodName := ⟨RX5, "shipLine", "()Z"⟩
abbrev cX5_crateLine : ByteArray := prog_7_method_17_code
def yX5_crateLine : MethodName := ⟨RX5, "crateLine", "()Z"⟩
abbrev cX5_kindOfCrate : ByteArray := prog_7_method_18_code
def yX5_kindOfCrate : MethodName := ⟨RX5, "kindOfCrate", "()I"⟩
abbrev cX5_townLine : ByteArray := prog_7_method_19_code
def yX5_townLine : MethodName := ⟨RX5, "townLine", "()Z"⟩
abbrev cX5_roadLine : ByteArray := prog_7_method_20_code
def yX5_roadLine : MethodName := ⟨RX5, "roadLine", "()Z"⟩
abbrev cX5_openedLine : ByteArray := prog_7_method_21_code
def yX5_openedLine : MethodName := ⟨RX5, "openedLine", "()Z"⟩
def RX6 : String := "DayPort$Ship"
def TX6 : u_T := fun k => match k with
  | 0 => ("DayPort$Ship", "day", "I", false)
  | 1 => ("DayPort$Ship", "chance", "I", false)
  | 2 => ("DayPort$Ship", "late", "I", false)
  | 3 => ("DayPort$Ship", "says", "I", false)
  | _ => ("DayPort$Ship", "crates", "I", false)
def tyX6 : Nat → FieldType := fun k => match k with
  | 0 => .int
  | 1 => .int
  | 2 => .int
  | 3 => .int
  | _ => .int
abbrev wsX60 : List Cond := u_ws RX6 TX6 5
theorem nmX6 : ∀ a, a < 5 → ∀ b, b < 5 → a ≠ b → (TX6 a).2.1 ≠ (TX6 b).2.1 := by decide +kernel
theorem tyX6_ok : ∀ k, k < 5 → parseFieldDescriptor (TX6 k).2.2.1 = some (tyX6 k) := by decide +kernel
abbrev cX6_init : ByteArray := prog_8_method_1_code
def yX6_init : MethodName := ⟨RX6, "<init>", "()V"⟩
abbrev cX6_hundredthsBy : ByteArray := prog_8_method_2_code
def yX6_hundredthsBy : MethodName := ⟨RX6, "hundredthsBy", "(I)I"⟩
abbrev cX6_isLateBy : ByteArray := prog_8_method_3_code
def yX6_isLateBy : MethodName := ⟨RX6, "isLateBy", "(I)Z"⟩
abbrev cX6_comesOn : ByteArray := prog_8_method_4_code
def yX6_comesOn : MethodName := ⟨RX6, "comesOn", "(I)I"⟩
def RX7 : String := "DayPort$Strike"
def TX7 : u_T := fun k => match k with
  | 0 => ("DayPort$Strike", "restRow", "[I", true)
  | 1 => ("DayPort$Strike", "restCount", "I", false)
  | 2 => ("DayPort$Strike", "gangBest", "[I", true)
  | _ => ("DayPort$Strike", "councilBest", "[I", true)
def tyX7 : Nat → FieldType := fun k => match k with
  | 0 => .array .int
  | 1 => .int
  | 2 => .array .int
  | _ => .array .int
abbrev wsX70 : List Cond := u_ws RX7 TX7 4
theorem nmX7 : ∀ a, a < 4 → ∀ b, b < 4 → a ≠ b → (TX7 a).2.1 ≠ (TX7 b).2.1 := by decide +kernel
theorem tyX7_ok : ∀ k, k < 4 → parseFieldDescriptor (TX7 k).2.2.1 = some (tyX7 k) := by decide +kernel
abbrev cX7_init : ByteArray := prog_9_method_1_code
def yX7_init : MethodName := ⟨RX7, "<init>", "()V"⟩
abbrev cX7_ofGang : ByteArray := prog_9_method_2_code
def yX7_ofGang : MethodName := ⟨RX7, "ofGang", "(LDayPort$Port;II)I"⟩
abbrev cX7_ofCouncil : ByteArray := prog_9_method_3_code
def yX7_ofCouncil : MethodName := ⟨RX7, "ofCouncil", "(LDayPort$Port;II)I"⟩
abbrev cX7_settle : ByteArray := prog_9_method_4_code
def yX7_settle : MethodName := ⟨RX7, "settle", "(LDayPort$Port;)V"⟩
def RX8 : String := "DayPort$Yard"
def TX8 : u_T := fun k => match k with
  | 0 => ("DayPort$Yard", "piles", "[I", true)
  | 1 => ("DayPort$Yard", "heights", "[I", true)
  | 2 => ("DayPort$Yard", "quayRow", "[I", true)
  | 3 => ("DayPort$Yard", "onQuay", "I", false)
  | 4 => ("DayPort$Yard", "place", "[I", true)
  | 5 => ("DayPort$Yard", "lifted", "[I", true)
  | 6 => ("DayPort$Yard", "opened", "[I", true)
  | 7 => ("DayPort$Yard", "cameOn", "[I", true)
  | 8 => ("DayPort$Yard", "hadDay", "[I", true)
  | 9 => ("DayPort$Yard", "day", "I", false)
  | _ => ("DayPort$Yard", "lifts", "I", false)
def tyX8 : Nat → FieldType := fun k => match k with
  | 0 => .array .int
  | 1 => .array .int
  | 2 => .array .int
  | 3 => .int
  | 4 => .array .int
  | 5 => .array .int
  | 6 => .array .int
  | 7 => .array .int
  | 8 => .array .int
  | 9 => .int
  | _ => .int
abbrev wsX80 : List Cond := u_ws RX8 TX8 11
theorem nmX8 : ∀ a, a < 11 → ∀ b, b < 11 → a ≠ b → (TX8 a).2.1 ≠ (TX8 b).2.1 := by decide +kernel
theorem tyX8_ok : ∀ k, k < 11 → parseFieldDescriptor (TX8 k).2.2.1 = some (tyX8 k) := by decide +kernel
abbrev cX8_init : ByteArray := prog_10_method_1_code
def yX8_init : MethodName := ⟨RX8, "<init>", "()V"⟩
abbrev cX8_begin : ByteArray := prog_10_method_2_code
def yX8_begin : MethodName := ⟨RX8, "begin", "(LDayPort$Port;)V"⟩
abbrev cX8_become : ByteArray := prog_10_method_3_code
def yX8_become : MethodName := ⟨RX8, "become", "(LDayPort$Yard;)V"⟩
abbrev cX8_height : ByteArray := prog_10_method_4_code
def yX8_height : MethodName := ⟨RX8, "height", "(II)I"⟩
abbrev cX8_crateAt : ByteArray := prog_10_method_5_code
def yX8_crateAt : MethodName := ⟨RX8, "crateAt", "(III)I"⟩
abbrev cX8_pile : ByteArray := prog_10_method_6_code
def yX8_pile : MethodName := ⟨RX8, "pile", "(III)V"⟩
abbrev cX8_isBroken : ByteArray := prog_10_method_7_code
def yX8_isBroken : MethodName := ⟨RX8, "isBroken", "(LDayPort$Port;I)Z"⟩
abbrev cX8_liesAboveLesser : ByteArray := prog_10_method_8_code
def yX8_liesAboveLesser : MethodName := ⟨RX8, "liesAboveLesser", "(LDayPort$Port;III)Z"⟩
abbrev cX8_stackWeighs : ByteArray := prog_10_method_9_code
def yX8_stackWeighs : MethodName := ⟨RX8, "stackWeighs", "(LDayPort$Port;II)I"⟩
abbrev cX8_openedCount : ByteArray := prog_10_method_10_code
def yX8_openedCount : MethodName := ⟨RX8, "openedCount", "()I"⟩
abbrev cX8_firstDry : ByteArray := prog_10_method_11_code
def yX8_firstDry : MethodName := ⟨RX8, "firstDry", "(LDayPort$Port;)I"⟩
abbrev cX8_numberHadOn : ByteArray := prog_10_method_12_code
def yX8_numberHadOn : MethodName := ⟨RX8, "numberHadOn", "(LDayPort$Port;I)I"⟩
abbrev cX8_dayOfNumber : ByteArray := prog_10_method_13_code
def yX8_dayOfNumber : MethodName := ⟨RX8, "dayOfNumber", "(LDayPort$Port;I)I"⟩
abbrev cX8_hoist : ByteArray := prog_10_method_14_code
def yX8_hoist : MethodName := ⟨RX8, "hoist", "(LDayPort$Port;III)I"⟩
abbrev cX8_land : ByteArray := prog_10_method_15_code
def yX8_land : MethodName := ⟨RX8, "land", "(I)V"⟩
abbrev cX8_breakDay : ByteArray := prog_10_method_16_code
def yX8_breakDay : MethodName := ⟨RX8, "breakDay", "(LDayPort$Port;)I"⟩
def RX9 : String := "DayPort"
def TX9 : u_T := fun k => match k with
  | 0 => ("DayPort", "tape", "[B", true)
  | 1 => ("DayPort", "tapeLength", "I", false)
  | 2 => ("DayPort", "port", "LDayPort$Port;", false)
  | 3 => ("DayPort", "draft", "LDayPort$Port;", false)
  | 4 => ("DayPort", "reader", "LDayPort$Reader;", true)
  | 5 => ("DayPort", "told", "Z", false)
  | 6 => ("DayPort", "fault", "I", false)
  | 7 => ("DayPort", "trouble", "I", false)
  | 8 => ("DayPort", "now", "LDayPort$Yard;", true)
  | 9 => ("DayPort", "kept", "[LDayPort$Yard;", true)
  | 10 => ("DayPort", "keptCount", "I", false)
  | 11 => ("DayPort", "images", "[LDayPort$Yard;", true)
  | 12 => ("DayPort", "imageCount", "I", false)
  | 13 => ("DayPort", "outing", "LDayPort$Outing;", true)
  | 14 => ("DayPort", "nights", "LDayPort$Night;", true)
  | 15 => ("DayPort", "roads", "LDayPort$Inland;", true)
  | _ => ("DayPort", "dispute", "LDayPort$Strike;", true)
def tyX9 : Nat → FieldType := fun k => match k with
  | 0 => .array .byte
  | 1 => .int
  | 2 => .object "DayPort$Port"
  | 3 => .object "DayPort$Port"
  | 4 => .object "DayPort$Reader"
  | 5 => .boolean
  | 6 => .int
  | 7 => .int
  | 8 => .object "DayPort$Yard"
  | 9 => .array (.object "DayPort$Yard")
  | 10 => .int
  | 11 => .array (.object "DayPort$Yard")
  | 12 => .int
  | 13 => .object "DayPort$Outing"
  | 14 => .object "DayPort$Night"
  | 15 => .object "DayPort$Inland"
  | _ => .object "DayPort$Strike"
abbrev wsX90 : List Cond := u_ws RX9 TX9 17
theorem nmX9 : ∀ a, a < 17 → ∀ b, b < 17 → a ≠ b → (TX9 a).2.1 ≠ (TX9 b).2.1 := by decide +kernel
theorem tyX9_ok : ∀ k, k < 17 → parseFieldDescriptor (TX9 k).2.2.1 = some (tyX9 k) := by decide +kernel
abbrev cX9_init : ByteArray := prog_1_method_1_code
def yX9_init : MethodName := ⟨RX9, "<init>", "()V"⟩
abbrev cX9_feed : ByteArray := prog_1_method_2_code
def yX9_feed : MethodName := ⟨RX9, "feed", "(IIIII)I"⟩
abbrev cX9_port : ByteArray := prog_1_method_3_code
def yX9_port : MethodName := ⟨RX9, "port", "(I)I"⟩
abbrev cX9_fault : ByteArray := prog_1_method_4_code
def yX9_fault : MethodName := ⟨RX9, "fault", "()I"⟩
abbrev cX9_where : ByteArray := prog_1_method_5_code
def yX9_where : MethodName := ⟨RX9, "where", "()I"⟩
abbrev cX9_crate : ByteArray := prog_1_method_6_code
def yX9_crate : MethodName := ⟨RX9, "crate", "(II)I"⟩
abbrev cX9_high : ByteArray := prog_1_method_7_code
def yX9_high : MethodName := ⟨RX9, "high", "(II)I"⟩
abbrev cX9_lies : ByteArray := prog_1_method_8_code
def yX9_lies : MethodName := ⟨RX9, "lies", "(III)I"⟩
abbrev cX9_quay : ByteArray := prog_1_method_9_code
def yX9_quay : MethodName := ⟨RX9, "quay", "(I)I"⟩
abbrev cX9_next : ByteArray := prog_1_method_10_code
def yX9_next : MethodName := ⟨RX9, "next", "()I"⟩
abbrev cX9_had : ByteArray := prog_1_method_11_code
def yX9_had : MethodName := ⟨RX9, "had", "(I)I"⟩
abbrev cX9_hadOn : ByteArray := prog_1_method_12_code
def yX9_hadOn : MethodName := ⟨RX9, "hadOn", "(I)I"⟩
abbrev cX9_missing : ByteArray := prog_1_method_13_code
def yX9_missing : MethodName := ⟨RX9, "missing", "()I"⟩
abbrev cX9_evenings : ByteArray := prog_1_method_14_code
def yX9_evenings : MethodName := ⟨RX9, "evenings", "()I"⟩
abbrev cX9_judge : ByteArray := prog_1_method_15_code
def yX9_judge : MethodName := ⟨RX9, "judge", "()I"⟩
abbrev cX9_come : ByteArray := prog_1_method_16_code
def yX9_come : MethodName := ⟨RX9, "come", "(IIZ)J"⟩
abbrev cX9_allCome : ByteArray := prog_1_method_17_code
def yX9_allCome : MethodName := ⟨RX9, "allCome", "(IZ)J"⟩
abbrev cX9_sure : ByteArray := prog_1_method_18_code
def yX9_sure : MethodName := ⟨RX9, "sure", "(I)I"⟩
abbrev cX9_mean : ByteArray := prog_1_method_19_code
def yX9_mean : MethodName := ⟨RX9, "mean", "(IZ)J"⟩
abbrev cX9_weight : ByteArray := prog_1_method_20_code
def yX9_weight : MethodName := ⟨RX9, "weight", "(I)I"⟩
abbrev cX9_heaviest : ByteArray := prog_1_method_21_code
def yX9_heaviest : MethodName := ⟨RX9, "heaviest", "(I)I"⟩
abbrev cX9_fewest : ByteArray := prog_1_method_22_code
def yX9_fewest : MethodName := ⟨RX9, "fewest", "(I)I"⟩
abbrev cX9_liftAt : ByteArray := prog_1_method_23_code
def yX9_liftAt : MethodName := ⟨RX9, "liftAt", "(II)I"⟩
abbrev cX9_wrongly : ByteArray := prog_1_method_24_code
def yX9_wrongly : MethodName := ⟨RX9, "wrongly", "(I)I"⟩
abbrev cX9_fits : ByteArray := prog_1_method_25_code
def yX9_fits : MethodName := ⟨RX9, "fits", "()I"⟩
abbrev cX9_could : ByteArray := prog_1_method_26_code
def yX9_could : MethodName := ⟨RX9, "could", "()I"⟩
abbrev cX9_surely : ByteArray := prog_1_method_27_code
def yX9_surely : MethodName := ⟨RX9, "surely", "()I"⟩
abbrev cX9_ask : ByteArray := prog_1_method_28_code
def yX9_ask : MethodName := ⟨RX9, "ask", "()I"⟩
abbrev cX9_askLeaves : ByteArray := prog_1_method_29_code
def yX9_askLeaves : MethodName := ⟨RX9, "askLeaves", "()I"⟩
abbrev cX9_share : ByteArray := prog_1_method_30_code
def yX9_share : MethodName := ⟨RX9, "share", "(II)I"⟩
abbrev cX9_late : ByteArray := prog_1_method_31_code
def yX9_late : MethodName := ⟨RX9, "late", "(I)I"⟩
abbrev cX9_farthest : ByteArray := prog_1_method_32_code
def yX9_farthest : MethodName := ⟨RX9, "farthest", "()I"⟩
abbrev cX9_wayAt : ByteArray := prog_1_method_33_code
def yX9_wayAt : MethodName := ⟨RX9, "wayAt", "(II)I"⟩
abbrev cX9_inland : ByteArray := prog_1_method_34_code
def yX9_inland : MethodName := ⟨RX9, "inland", "(II)I"⟩
abbrev cX9_people : ByteArray := prog_1_method_35_code
def yX9_people : MethodName := ⟨RX9, "people", "(II)I"⟩
abbrev cX9_strike : ByteArray := prog_1_method_36_code
def yX9_strike : MethodName := ⟨RX9, "strike", "(IIZ)I"⟩
abbrev cX9_rests : ByteArray := prog_1_method_37_code
def yX9_rests : MethodName := ⟨RX9, "rests", "()I"⟩
abbrev cX9_rest : ByteArray := prog_1_method_38_code
def yX9_rest : MethodName := ⟨RX9, "rest", "(I)I"⟩
abbrev cX9_winter : ByteArray := prog_1_method_39_code
def yX9_winter : MethodName := ⟨RX9, "winter", "(I)I"⟩
abbrev cX9_lates : ByteArray := prog_1_method_40_code
def yX9_lates : MethodName := ⟨RX9, "lates", "(III)I"⟩
abbrev cX9_lift : ByteArray := prog_1_method_41_code
def yX9_lift : MethodName := ⟨RX9, "lift", "(III)I"⟩
abbrev cX9_dawn : ByteArray := prog_1_method_42_code
def yX9_dawn : MethodName := ⟨RX9, "dawn", "()I"⟩
abbrev cX9_open : ByteArray := prog_1_method_43_code
def yX9_open : MethodName := ⟨RX9, "open", "(IZ)Z"⟩
abbrev cX9_undo : ByteArray := prog_1_method_44_code
def yX9_undo : MethodName := ⟨RX9, "undo", "()Z"⟩
abbrev cX9_image : ByteArray := prog_1_method_45_code
def yX9_image : MethodName := ⟨RX9, "image", "()I"⟩
abbrev cX9_back : ByteArray := prog_1_method_46_code
def yX9_back : MethodName := ⟨RX9, "back", "(I)Z"⟩
abbrev cX9_led : ByteArray := prog_1_method_47_code
def yX9_led : MethodName := ⟨RX9, "led", "(I)I"⟩
abbrev cX9_size : ByteArray := prog_1_method_48_code
def yX9_size : MethodName := ⟨RX9, "size", "(I)I"⟩
abbrev cX9_trouble : ByteArray := prog_1_method_49_code
def yX9_trouble : MethodName := ⟨RX9, "trouble", "()I"⟩
abbrev cX9_refused : ByteArray := prog_1_method_50_code
def yX9_refused : MethodName := ⟨RX9, "refused", "(I)I"⟩
abbrev cX9_answered : ByteArray := prog_1_method_51_code
def yX9_answered : MethodName := ⟨RX9, "answered", "(I)I"⟩
abbrev cX9_denied : ByteArray := prog_1_method_52_code
def yX9_denied : MethodName := ⟨RX9, "denied", "(I)Z"⟩
abbrev cX9_granted : ByteArray := prog_1_method_53_code
def yX9_granted : MethodName := ⟨RX9, "granted", "()Z"⟩
abbrev cX9_noShip : ByteArray := prog_1_method_54_code
def yX9_noShip : MethodName := ⟨RX9, "noShip", "(I)Z"⟩
abbrev cX9_noStack : ByteArray := prog_1_method_55_code
def yX9_noStack : MethodName := ⟨RX9, "noStack", "(II)Z"⟩
abbrev cX9_noCrate : ByteArray := prog_1_method_56_code
def yX9_noCrate : MethodName := ⟨RX9, "noCrate", "(I)Z"⟩
abbrev cX9_noTown : ByteArray := prog_1_method_57_code
def yX9_noTown : MethodName := ⟨RX9, "noTown", "(I)Z"⟩
abbrev cX9_noNumber : ByteArray := prog_1_method_58_code
def yX9_noNumber : MethodName := ⟨RX9, "noNumber", "(I)Z"⟩
abbrev cX9_noComingDay : ByteArray := prog_1_method_59_code
def yX9_noComingDay : MethodName := ⟨RX9, "noComingDay", "(I)Z"⟩
abbrev cX9_noHold : ByteArray := prog_1_method_60_code
def yX9_noHold : MethodName := ⟨RX9, "noHold", "(I)Z"⟩
abbrev cX9_noSeed : ByteArray := prog_1_method_61_code
def yX9_noSeed : MethodName := ⟨RX9, "noSeed", "(I)Z"⟩
abbrev cX9_write : ByteArray := prog_1_method_62_code
def yX9_write : MethodName := ⟨RX9, "write", "(I)V"⟩
abbrev cX9_hadInland : ByteArray := prog_1_method_63_code
def yX9_hadInland : MethodName := ⟨RX9, "hadInland", "(II)I"⟩
abbrev cX9_draw : ByteArray := prog_1_method_64_code
def yX9_draw : MethodName := ⟨RX9, "draw", "(I)I"⟩
abbrev cX9_inLowestTerms : ByteArray := prog_1_method_65_code
def yX9_inLowestTerms : MethodName := ⟨RX9, "inLowestTerms", "(JJZ)J"⟩
abbrev cX9_commonDivisor : ByteArray := prog_1_method_66_code
def yX9_commonDivisor : MethodName := ⟨RX9, "commonDivisor", "(JJ)J"⟩
abbrev cX9_keepNow : ByteArray := prog_1_method_67_code
def yX9_keepNow : MethodName := ⟨RX9, "keepNow", "()V"⟩
def RX10 : String := "DayPortModel"
def TX10 : u_T := fun k => match k with
  | 0 => ("DayPortModel", "thrown", "I", false)
  | 1 => ("DayPortModel", "tape", "[I", true)
  | 2 => ("DayPortModel", "taped", "I", false)
  | 3 => ("DayPortModel", "size", "I", false)
  | 4 => ("DayPortModel", "at", "I", false)
  | 5 => ("DayPortModel", "end", "I", false)
  | 6 => ("DayPortModel", "token", "I", false)
  | 7 => ("DayPortModel", "whole", "I", false)
  | 8 => ("DayPortModel", "nameSize", "I", false)
  | 9 => ("DayPortModel", "fault", "I", false)
  | 10 => ("DayPortModel", "place", "I", false)
  | 11 => ("DayPortModel", "trouble", "I", false)
  | 12 => ("DayPortModel", "letters", "[I", true)
  | 13 => ("DayPortModel", "failed", "Z", false)
  | 14 => ("DayPortModel", "hasPort", "Z", false)
  | 15 => ("DayPortModel", "\x72", "[I", true)
  | 16 => ("DayPortModel", "fresh", "[I", true)
  | 17 => ("DayPortModel", "st", "[I", true)
  | 18 => ("DayPortModel", "undone", "[I", true)
  | 19 => ("DayPortModel", "kept", "[I", true)
  | 20 => ("DayPortModel", "undos", "I", false)
  | 21 => ("DayPortModel", "images", "I", false)
  | 22 => ("DayPortModel", "ways", "[J", true)
  | 23 => ("DayPortModel", "far", "[I", true)
  | 24 => ("DayPortModel", "found", "[I", true)
  | 25 => ("DayPortModel", "mine", "[I", true)
  | 26 => ("DayPortModel", "foundMany", "I", false)
  | 27 => ("DayPortModel", "mineMany", "I", false)
  | 28 => ("DayPortModel", "start", "J", false)
  | 29 => ("DayPortModel", "withIt", "[I", true)
  | 30 => ("DayPortModel", "setMany", "I", false)
  | 31 => ("DayPortModel", "days", "[I", true)
  | 32 => ("DayPortModel", "restMany", "I", false)
  | 33 => ("DayPortModel", "seedNow", "I", false)
  | 34 => ("DayPortModel", "lastDay", "I", false)
  | _ => ("DayPortModel", "lateSet", "I", false)
def tyX10 : Nat → FieldType := fun k => match k with
  | 0 => .int
  | 1 => .array .int
  | 2 => .int
  | 3 => .int
  | 4 => .int
  | 5 => .int
  | 6 => .int
  | 7 => .int
  | 8 => .int
  | 9 => .int
  | 10 => .int
  | 11 => .int
  | 12 => .array .int
  | 13 => .boolean
  | 14 => .boolean
  | 15 => .array .int
  | 16 => .array .int
  | 17 => .array .int
  | 18 => .array .int
  | 19 => .array .int
  | 20 => .int
  | 21 => .int
  | 22 => .array .long
  | 23 => .array .int
  | 24 => .array .int
  | 25 => .array .int
  | 26 => .int
  | 27 => .int
  | 28 => .long
  | 29 => .array .int
  | 30 => .int
  | 31 => .array .int
  | 32 => .int
  | 33 => .int
  | 34 => .int
  | _ => .int
abbrev wsX100 : List Cond := u_ws RX10 TX10 36
theorem nmX10 : ∀ a, a < 36 → ∀ b, b < 36 → a ≠ b → (TX10 a).2.1 ≠ (TX10 b).2.1 := by decide +kernel
theorem tyX10_ok : ∀ k, k < 36 → parseFieldDescriptor (TX10 k).2.2.1 = some (tyX10 k) := by decide +kernel
abbrev cX10_init : ByteArray := prog_12_method_1_code
def yX10_init : MethodName := ⟨RX10, "<init>", "()V"⟩
abbrev cX10_thrown : ByteArray := prog_12_method_2_code
def yX10_thrown : MethodName := ⟨RX10, "thrown", "()I"⟩
abbrev cX10_good : ByteArray := prog_12_method_3_code
def yX10_good : MethodName := ⟨RX10, "good", "()V"⟩
abbrev cX10_no : ByteArray := prog_12_method_4_code
def yX10_no : MethodName := ⟨RX10, "no", "(I)I"⟩
abbrev cX10_isNot : ByteArray := prog_12_method_5_code
def yX10_isNot : MethodName := ⟨RX10, "isNot", "(I)Z"⟩
abbrev cX10_in : ByteArray := prog_12_method_6_code
def yX10_in : MethodName := ⟨RX10, "in", "(III)Z"⟩
abbrev cX10_hasBit : ByteArray := prog_12_method_7_code
def yX10_hasBit : MethodName := ⟨RX10, "hasBit", "(II)Z"⟩
abbrev cX10_copy : ByteArray := prog_12_method_8_code
def yX10_copy : MethodName := ⟨RX10, "copy", "([II[III)V"⟩
abbrev cX10_lowest : ByteArray := prog_12_method_9_code
def yX10_lowest : MethodName := ⟨RX10, "lowest", "(JJZ)J"⟩
abbrev cX10_feed : ByteArray := prog_12_method_10_code
def yX10_feed : MethodName := ⟨RX10, "feed", "(IIIII)I"⟩
abbrev cX10_look : ByteArray := prog_12_method_11_code
def yX10_look : MethodName := ⟨RX10, "look", "(I)I"⟩
abbrev cX10_isSmall : ByteArray := prog_12_method_12_code
def yX10_isSmall : MethodName := ⟨RX10, "isSmall", "(I)Z"⟩
abbrev cX10_isDigit : ByteArray := prog_12_method_13_code
def yX10_isDigit : MethodName := ⟨RX10, "isDigit", "(I)Z"⟩
abbrev cX10_pass : ByteArray := prog_12_method_14_code
def yX10_pass : MethodName := ⟨RX10, "pass", "()V"⟩
abbrev cX10_wrong : ByteArray := prog_12_method_15_code
def yX10_wrong : MethodName := ⟨RX10, "wrong", "(II)V"⟩
abbrev cX10_isWord : ByteArray := prog_12_method_16_code
def yX10_isWord : MethodName := ⟨RX10, "isWord", "(Ljava/lang/String;)Z"⟩
abbrev cX10_takesWord : ByteArray := prog_12_method_17_code
def yX10_takesWord : MethodName := ⟨RX10, "takesWord", "(Ljava/lang/String;)Z"⟩
abbrev cX10_must : ByteArray := prog_12_method_18_code
def yX10_must : MethodName := ⟨RX10, "must", "(Ljava/lang/String;)V"⟩
abbrev cX10_mustName : ByteArray := prog_12_method_19_code
def yX10_mustName : MethodName := ⟨RX10, "mustName", "()V"⟩
abbrev cX10_find : ByteArray := prog_12_method_20_code
def yX10_find : MethodName := ⟨RX10, "find", "()I"⟩
abbrev cX10_newName : ByteArray := prog_12_method_21_code
def yX10_newName : MethodName := ⟨RX10, "newName", "(I)V"⟩
abbrev cX10_named : ByteArray := prog_12_method_22_code
def yX10_named : MethodName := ⟨RX10, "named", "(II)I"⟩
abbrev cX10_townHere : ByteArray := prog_12_method_23_code
def yX10_townHere : MethodName := ⟨RX10, "townHere", "()I"⟩
abbrev cX10_numberHere : ByteArray := prog_12_method_24_code
def yX10_numberHere : MethodName := ⟨RX10, "numberHere", "(II)I"⟩
abbrev cX10_number : ByteArray := prog_12_method_25_code
def yX10_number : MethodName := ⟨RX10, "number", "(II)I"⟩
abbrev cX10_after : ByteArray := prog_12_method_26_code
def yX10_after : MethodName := ⟨RX10, "after", "(Ljava/lang/String;II)I"⟩
abbrev cX10_port : ByteArray := prog_12_method_27_code
def yX10_port : MethodName := ⟨RX10, "port", "(I)I"⟩
abbrev cX10_begins : ByteArray := prog_12_method_28_code
def yX10_begins : MethodName := ⟨RX10, "begins", "(Ljava/lang/String;Z)Z"⟩
abbrev cX10_readLine : ByteArray := prog_12_method_29_code
def yX10_readLine : MethodName := ⟨RX10, "readLine", "()V"⟩
abbrev cX10_portLine : ByteArray := prog_12_method_30_code
def yX10_portLine : MethodName := ⟨RX10, "portLine", "()V"⟩
abbrev cX10_shipLine : ByteArray := prog_12_method_31_code
def yX10_shipLine : MethodName := ⟨RX10, "shipLine", "()V"⟩
abbrev cX10_crateLine : ByteArray := prog_12_method_32_code
def yX10_crateLine : MethodName := ⟨RX10, "crateLine", "()V"⟩
abbrev cX10_townLine : ByteArray := prog_12_method_33_code
def yX10_townLine : MethodName := ⟨RX10, "townLine", "()V"⟩
abbrev cX10_roadLine : ByteArray := prog_12_method_34_code
def yX10_roadLine : MethodName := ⟨RX10, "roadLine", "()V"⟩
abbrev cX10_openedLine : ByteArray := prog_12_method_35_code
def yX10_openedLine : MethodName := ⟨RX10, "openedLine", "()V"⟩
abbrev cX10_fault : ByteArray := prog_12_method_36_code
def yX10_fault : MethodName := ⟨RX10, "fault", "()I"⟩
abbrev cX10_where : ByteArray := prog_12_method_37_code
def yX10_where : MethodName := ⟨RX10, "where", "()I"⟩
abbrev cX10_isShip : ByteArray := prog_12_method_38_code
def yX10_isShip : MethodName := ⟨RX10, "isShip", "(I)Z"⟩
abbrev cX10_isCrate : ByteArray := prog_12_method_39_code
def yX10_isCrate : MethodName := ⟨RX10, "isCrate", "(I)Z"⟩
abbrev cX10_isTown : ByteArray := prog_12_method_40_code
def yX10_isTown : MethodName := ⟨RX10, "isTown", "(I)Z"⟩
abbrev cX10_ofCrate : ByteArray := prog_12_method_41_code
def yX10_ofCrate : MethodName := ⟨RX10, "ofCrate", "(II)I"⟩
abbrev cX10_ofShip : ByteArray := prog_12_method_42_code
def yX10_ofShip : MethodName := ⟨RX10, "ofShip", "(II)I"⟩
abbrev cX10_crate : ByteArray := prog_12_method_43_code
def yX10_crate : MethodName := ⟨RX10, "crate", "(II)I"⟩
abbrev cX10_isStack : ByteArray := prog_12_method_44_code
def yX10_isStack : MethodName := ⟨RX10, "isStack", "(II)Z"⟩
abbrev cX10_highOf : ByteArray := prog_12_method_45_code
def yX10_highOf : MethodName := ⟨RX10, "highOf", "(II)I"⟩
abbrev cX10_lyingAt : ByteArray := prog_12_method_46_code
def yX10_lyingAt : MethodName := ⟨RX10, "lyingAt", "(III)I"⟩
abbrev cX10_high : ByteArray := prog_12_method_47_code
def yX10_high : MethodName := ⟨RX10, "high", "(II)I"⟩
abbrev cX10_lies : ByteArray := prog_12_method_48_code
def yX10_lies : MethodName := ⟨RX10, "lies", "(III)I"⟩
abbrev cX10_quay : ByteArray := prog_12_method_49_code
def yX10_quay : MethodName := ⟨RX10, "quay", "(I)I"⟩
abbrev cX10_nextOnQuay : ByteArray := prog_12_method_50_code
def yX10_nextOnQuay : MethodName := ⟨RX10, "nextOnQuay", "()I"⟩
abbrev cX10_next : ByteArray := prog_12_method_51_code
def yX10_next : MethodName := ⟨RX10, "next", "()I"⟩
abbrev cX10_numberHad : ByteArray := prog_12_method_52_code
def yX10_numberHad : MethodName := ⟨RX10, "numberHad", "(I)I"⟩
abbrev cX10_had : ByteArray := prog_12_method_53_code
def yX10_had : MethodName := ⟨RX10, "had", "(I)I"⟩
abbrev cX10_dayOf : ByteArray := prog_12_method_54_code
def yX10_dayOf : MethodName := ⟨RX10, "dayOf", "(I)I"⟩
abbrev cX10_hadOn : ByteArray := prog_12_method_55_code
def yX10_hadOn : MethodName := ⟨RX10, "hadOn", "(I)I"⟩
abbrev cX10_missing : ByteArray := prog_12_method_56_code
def yX10_missing : MethodName := ⟨RX10, "missing", "()I"⟩
abbrev cX10_evenings : ByteArray := prog_12_method_57_code
def yX10_evenings : MethodName := ⟨RX10, "evenings", "()I"⟩
abbrev cX10_cratesOf : ByteArray := prog_12_method_58_code
def yX10_cratesOf : MethodName := ⟨RX10, "cratesOf", "(I)I"⟩
abbrev cX10_judge : ByteArray := prog_12_method_59_code
def yX10_judge : MethodName := ⟨RX10, "judge", "()I"⟩
abbrev cX10_comeOf : ByteArray := prog_12_method_60_code
def yX10_comeOf : MethodName := ⟨RX10, "comeOf", "(II)I"⟩
abbrev cX10_come : ByteArray := prog_12_method_61_code
def yX10_come : MethodName := ⟨RX10, "come", "(IIZ)J"⟩
abbrev cX10_allCome : ByteArray := prog_12_method_62_code
def yX10_allCome : MethodName := ⟨RX10, "allCome", "(IZ)J"⟩
abbrev cX10_sure : ByteArray := prog_12_method_63_code
def yX10_sure : MethodName := ⟨RX10, "sure", "(I)I"⟩
abbrev cX10_heightIn : ByteArray := prog_12_method_64_code
def yX10_heightIn : MethodName := ⟨RX10, "heightIn", "(JI)I"⟩
abbrev cX10_topIn : ByteArray := prog_12_method_65_code
def yX10_topIn : MethodName := ⟨RX10, "topIn", "(JI)I"⟩
abbrev cX10_placeOf : ByteArray := prog_12_method_66_code
def yX10_placeOf : MethodName := ⟨RX10, "placeOf", "(J)I"⟩
abbrev cX10_lifted : ByteArray := prog_12_method_67_code
def yX10_lifted : MethodName := ⟨RX10, "lifted", "(JII)J"⟩
abbrev cX10_costOf : ByteArray := prog_12_method_68_code
def yX10_costOf : MethodName := ⟨RX10, "costOf", "(JI)I"⟩
abbrev cX10_layWays : ByteArray := prog_12_method_69_code
def yX10_layWays : MethodName := ⟨RX10, "layWays", "(I)Z"⟩
abbrev cX10_nearer : ByteArray := prog_12_method_70_code
def yX10_nearer : MethodName := ⟨RX10, "nearer", "(I)Z"⟩
abbrev cX10_fewest : ByteArray := prog_12_method_71_code
def yX10_fewest : MethodName := ⟨RX10, "fewest", "(I)I"⟩
abbrev cX10_firstLift : ByteArray := prog_12_method_72_code
def yX10_firstLift : MethodName := ⟨RX10, "firstLift", "(J)I"⟩
abbrev cX10_liftAt : ByteArray := prog_12_method_73_code
def yX10_liftAt : MethodName := ⟨RX10, "liftAt", "(II)I"⟩
abbrev cX10_wrongly : ByteArray := prog_12_method_74_code
def yX10_wrongly : MethodName := ⟨RX10, "wrongly", "(I)I"⟩
abbrev cX10_mean : ByteArray := prog_12_method_75_code
def yX10_mean : MethodName := ⟨RX10, "mean", "(IZ)J"⟩
abbrev cX10_weight : ByteArray := prog_12_method_76_code
def yX10_weight : MethodName := ⟨RX10, "weight", "(I)I"⟩
abbrev cX10_weightOn : ByteArray := prog_12_method_77_code
def yX10_weightOn : MethodName := ⟨RX10, "weightOn", "(II)I"⟩
abbrev cX10_heaviest : ByteArray := prog_12_method_78_code
def yX10_heaviest : MethodName := ⟨RX10, "heaviest", "(I)I"⟩
abbrev cX10_laySets : ByteArray := prog_12_method_79_code
def yX10_laySets : MethodName := ⟨RX10, "laySets", "()V"⟩
abbrev cX10_fits : ByteArray := prog_12_method_80_code
def yX10_fits : MethodName := ⟨RX10, "fits", "()I"⟩
abbrev cX10_could : ByteArray := prog_12_method_81_code
def yX10_could : MethodName := ⟨RX10, "could", "()I"⟩
abbrev cX10_surely : ByteArray := prog_12_method_82_code
def yX10_surely : MethodName := ⟨RX10, "surely", "()I"⟩
abbrev cX10_leftBy : ByteArray := prog_12_method_83_code
def yX10_leftBy : MethodName := ⟨RX10, "leftBy", "(I)I"⟩
abbrev cX10_askOf : ByteArray := prog_12_method_84_code
def yX10_askOf : MethodName := ⟨RX10, "askOf", "()I"⟩
abbrev cX10_ask : ByteArray := prog_12_method_85_code
def yX10_ask : MethodName := ⟨RX10, "ask", "()I"⟩
abbrev cX10_askLeaves : ByteArray := prog_12_method_86_code
def yX10_askLeaves : MethodName := ⟨RX10, "askLeaves", "()I"⟩
abbrev cX10_share : ByteArray := prog_12_method_87_code
def yX10_share : MethodName := ⟨RX10, "share", "(II)I"⟩
abbrev cX10_layDays : ByteArray := prog_12_method_88_code
def yX10_layDays : MethodName := ⟨RX10, "layDays", "(I)V"⟩
abbrev cX10_lateOf : ByteArray := prog_12_method_89_code
def yX10_lateOf : MethodName := ⟨RX10, "lateOf", "(I)I"⟩
abbrev cX10_late : ByteArray := prog_12_method_90_code
def yX10_late : MethodName := ⟨RX10, "late", "(I)I"⟩
abbrev cX10_wayAt : ByteArray := prog_12_method_91_code
def yX10_wayAt : MethodName := ⟨RX10, "wayAt", "(II)I"⟩
abbrev cX10_farthest : ByteArray := prog_12_method_92_code
def yX10_farthest : MethodName := ⟨RX10, "farthest", "()I"⟩
abbrev cX10_inlandOf : ByteArray := prog_12_method_93_code
def yX10_inlandOf : MethodName := ⟨RX10, "inlandOf", "(II)I"⟩
abbrev cX10_inland : ByteArray := prog_12_method_94_code
def yX10_inland : MethodName := ⟨RX10, "inland", "(II)I"⟩
abbrev cX10_people : ByteArray := prog_12_method_95_code
def yX10_people : MethodName := ⟨RX10, "people", "(II)I"⟩
abbrev cX10_strikeOf : ByteArray := prog_12_method_96_code
def yX10_strikeOf : MethodName := ⟨RX10, "strikeOf", "(IIZ)I"⟩
abbrev cX10_strike : ByteArray := prog_12_method_97_code
def yX10_strike : MethodName := ⟨RX10, "strike", "(IIZ)I"⟩
abbrev cX10_isRest : ByteArray := prog_12_method_98_code
def yX10_isRest : MethodName := ⟨RX10, "isRest", "(II)Z"⟩
abbrev cX10_seekRest : ByteArray := prog_12_method_99_code
def yX10_seekRest : MethodName := ⟨RX10, "seekRest", "(I)I"⟩
abbrev cX10_rests : ByteArray := prog_12_method_100_code
def yX10_rests : MethodName := ⟨RX10, "rests", "()I"⟩
abbrev cX10_rest : ByteArray := prog_12_method_101_code
def yX10_rest : MethodName := ⟨RX10, "rest", "(I)I"⟩
abbrev cX10_goThrough : ByteArray := prog_12_method_102_code
def yX10_goThrough : MethodName := ⟨RX10, "goThrough", "()V"⟩
abbrev cX10_winter : ByteArray := prog_12_method_103_code
def yX10_winter : MethodName := ⟨RX10, "winter", "(I)I"⟩
abbrev cX10_lates : ByteArray := prog_12_method_104_code
def yX10_lates : MethodName := ⟨RX10, "lates", "(III)I"⟩
abbrev cX10_note : ByteArray := prog_12_method_105_code
def yX10_note : MethodName := ⟨RX10, "note", "()V"⟩
abbrev cX10_lift : ByteArray := prog_12_method_106_code
def yX10_lift : MethodName := ⟨RX10, "lift", "(III)I"⟩
abbrev cX10_dawn : ByteArray := prog_12_method_107_code
def yX10_dawn : MethodName := ⟨RX10, "dawn", "()I"⟩
abbrev cX10_open : ByteArray := prog_12_method_108_code
def yX10_open : MethodName := ⟨RX10, "open", "(IZ)Z"⟩
abbrev cX10_undo : ByteArray := prog_12_method_109_code
def yX10_undo : MethodName := ⟨RX10, "undo", "()Z"⟩
abbrev cX10_image : ByteArray := prog_12_method_110_code
def yX10_image : MethodName := ⟨RX10, "image", "()I"⟩
abbrev cX10_back : ByteArray := prog_12_method_111_code
def yX10_back : MethodName := ⟨RX10, "back", "(I)Z"⟩
abbrev cX10_led : ByteArray := prog_12_method_112_code
def yX10_led : MethodName := ⟨RX10, "led", "(I)I"⟩
abbrev cX10_openedNow : ByteArray := prog_12_method_113_code
def yX10_openedNow : MethodName := ⟨RX10, "openedNow", "()I"⟩
abbrev cX10_size : ByteArray := prog_12_method_114_code
def yX10_size : MethodName := ⟨RX10, "size", "(I)I"⟩
abbrev cX10_trouble : ByteArray := prog_12_method_115_code
def yX10_trouble : MethodName := ⟨RX10, "trouble", "()I"⟩
def RL : String := "DayPortLaw"
abbrev cL_led : ByteArray := method_3_code
def yL_led : MethodName := ⟨RL, "led", "(LDayPort;I[J)I"⟩
abbrev cL_law : ByteArray := code
def yL_law : MethodName := ⟨RL, "law", "([I)Z"⟩
