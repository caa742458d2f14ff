/-- a private method of a class that the tables say can be made, by its rows of tables_1 -/
def lw_okq (q : MethodName × Nat) : Prop := (q.1.cls ≠ "java/lang/invoke/MethodHandle" ∧ q.1.cls ≠ "java/lang/invoke/VarHandle") ∧ Cond.instantiable q.1.cls q.2 ∈ tables_1 ∧ Cond.privateMethod q.1 ∈ tables_1 ∧ Cond.instanceMethod q.1 ∈ tables_1
theorem lw_p0 : lw_okq (⟨"SupplyGrid$Reader", "step", "()V"⟩, 13) := ⟨⟨by decide +kernel, by decide +kernel⟩, List.mem_of_getElem? (i := 30) (by decide +kernel), List.mem_of_getElem? (i := 575) (by decide +kernel), List.mem_of_getElem? (i := 576) (by decide +kernel)⟩
theorem lw_p1 : lw_okq (⟨"SupplyGrid$Reader", "isWord", "(Ljava/lang/String;)Z"⟩, 13) := ⟨⟨by decide +kernel, by decide +kernel⟩, List.mem_of_getElem? (i := 30) (by decide +kernel), List.mem_of_getElem? (i := 584) (by decide +kernel), List.mem_of_getElem? (i := 585) (by decide +kernel)⟩
theorem lw_p2 : lw_okq (⟨"SupplyGrid$Reader", "readGrid", "()Z"⟩, 13) := ⟨⟨by decide +kernel, by decide +kernel⟩, List.mem_of_getElem? (i := 30) (by decide +kernel), List.mem_of_getElem? (i := 636) (by decide +kernel), List.mem_of_getElem? (i := 637) (by decide +kernel)⟩
theorem lw_p3 : lw_okq (⟨"SupplyGrid$Reader", "needNumber", "(Ljava/lang/String;II)Z"⟩, 13) := ⟨⟨by decide +kernel, by decide +kernel⟩, List.mem_of_getElem? (i := 30) (by decide +kernel), List.mem_of_getElem? (i := 641) (by decide +kernel), List.mem_of_getElem? (i := 642) (by decide +kernel)⟩
theorem lw_p4 : lw_okq (⟨"SupplyGrid$Reader", "needBounds", "(II)Z"⟩, 13) := ⟨⟨by decide +kernel, by decide +kernel⟩, List.mem_of_getElem? (i := 30) (by decide +kernel), List.mem_of_getElem? (i := 645) (by decide +kernel), List.mem_of_getElem? (i := 646) (by decide +kernel)⟩
theorem lw_p5 : lw_okq (⟨"SupplyGrid$Reader", "fail", "(I)Z"⟩, 13) := ⟨⟨by decide +kernel, by decide +kernel⟩, List.mem_of_getElem? (i := 30) (by decide +kernel), List.mem_of_getElem? (i := 649) (by decide +kernel), List.mem_of_getElem? (i := 650) (by decide +kernel)⟩
theorem lw_p6 : lw_okq (⟨"SupplyGrid$Net", "addStrap", "(III)V"⟩, 18) := ⟨⟨by decide +kernel, by decide +kernel⟩, List.mem_of_getElem? (i := 36) (by decide +kernel), List.mem_of_getElem? (i := 659) (by decide +kernel), List.mem_of_getElem? (i := 660) (by decide +kernel)⟩
theorem lw_p7 : lw_okq (⟨"SupplyGrid$Reader", "needSign", "()Z"⟩, 13) := ⟨⟨by decide +kernel, by decide +kernel⟩, List.mem_of_getElem? (i := 30) (by decide +kernel), List.mem_of_getElem? (i := 665) (by decide +kernel), List.mem_of_getElem? (i := 666) (by decide +kernel)⟩
theorem lw_p8 : lw_okq (⟨"SupplyGrid$Reader", "readStrap", "()Z"⟩, 13) := ⟨⟨by decide +kernel, by decide +kernel⟩, List.mem_of_getElem? (i := 30) (by decide +kernel), List.mem_of_getElem? (i := 670) (by decide +kernel), List.mem_of_getElem? (i := 671) (by decide +kernel)⟩
theorem lw_p9 : lw_okq (⟨"SupplyGrid$Reader", "needPlace", "()Z"⟩, 13) := ⟨⟨by decide +kernel, by decide +kernel⟩, List.mem_of_getElem? (i := 30) (by decide +kernel), List.mem_of_getElem? (i := 674) (by decide +kernel), List.mem_of_getElem? (i := 675) (by decide +kernel)⟩
theorem lw_p10 : lw_okq (⟨"SupplyGrid$Reader", "readPad", "()Z"⟩, 13) := ⟨⟨by decide +kernel, by decide +kernel⟩, List.mem_of_getElem? (i := 30) (by decide +kernel), List.mem_of_getElem? (i := 686) (by decide +kernel), List.mem_of_getElem? (i := 687) (by decide +kernel)⟩
theorem lw_p11 : lw_okq (⟨"SupplyGrid$Reader", "readLoad", "()Z"⟩, 13) := ⟨⟨by decide +kernel, by decide +kernel⟩, List.mem_of_getElem? (i := 30) (by decide +kernel), List.mem_of_getElem? (i := 695) (by decide +kernel), List.mem_of_getElem? (i := 696) (by decide +kernel)⟩
theorem lw_p12 : lw_okq (⟨"SupplyGrid$Reader", "readBudget", "()Z"⟩, 13) := ⟨⟨by decide +kernel, by decide +kernel⟩, List.mem_of_getElem? (i := 30) (by decide +kernel), List.mem_of_getElem? (i := 702) (by decide +kernel), List.mem_of_getElem? (i := 703) (by decide +kernel)⟩
theorem lw_p13 : lw_okq (⟨"SupplyGrid", "forget", "()V"⟩, 13) := ⟨⟨by decide +kernel, by decide +kernel⟩, List.mem_of_getElem? (i := 22) (by decide +kernel), List.mem_of_getElem? (i := 714) (by decide +kernel), List.mem_of_getElem? (i := 715) (by decide +kernel)⟩
theorem lw_p14 : lw_okq (⟨"SupplyGrid", "now", "()LSupplyGrid$Flow;"⟩, 13) := ⟨⟨by decide +kernel, by decide +kernel⟩, List.mem_of_getElem? (i := 22) (by decide +kernel), List.mem_of_getElem? (i := 739) (by decide +kernel), List.mem_of_getElem? (i := 740) (by decide +kernel)⟩
theorem lw_p15 : lw_okq (⟨"SupplyGrid$Flow", "numberRows", "(LSupplyGrid$Net;I)V"⟩, 9) := ⟨⟨by decide +kernel, by decide +kernel⟩, List.mem_of_getElem? (i := 207) (by decide +kernel), List.mem_of_getElem? (i := 751) (by decide +kernel), List.mem_of_getElem? (i := 752) (by decide +kernel)⟩
def lw_privs_1 : List (MethodName × Nat) := [(⟨"SupplyGrid$Reader", "step", "()V"⟩, 13), (⟨"SupplyGrid$Reader", "isWord", "(Ljava/lang/String;)Z"⟩, 13), (⟨"SupplyGrid$Reader", "readGrid", "()Z"⟩, 13), (⟨"SupplyGrid$Reader", "needNumber", "(Ljava/lang/String;II)Z"⟩, 13), (⟨"SupplyGrid$Reader", "needBounds", "(II)Z"⟩, 13), (⟨"SupplyGrid$Reader", "fail", "(I)Z"⟩, 13), (⟨"SupplyGrid$Net", "addStrap", "(III)V"⟩, 18), (⟨"SupplyGrid$Reader", "needSign", "()Z"⟩, 13), (⟨"SupplyGrid$Reader", "readStrap", "()Z"⟩, 13), (⟨"SupplyGrid$Reader", "needPlace", "()Z"⟩, 13), (⟨"SupplyGrid$Reader", "readPad", "()Z"⟩, 13), (⟨"SupplyGrid$Reader", "readLoad", "()Z"⟩, 13), (⟨"SupplyGrid$Reader", "readBudget", "()Z"⟩, 13), (⟨"SupplyGrid", "forget", "()V"⟩, 13), (⟨"SupplyGrid", "now", "()LSupplyGrid$Flow;"⟩, 13), (⟨"SupplyGrid$Flow", "numberRows", "(LSupplyGrid$Net;I)V"⟩, 9)]
theorem lw_r1 : ∀ q ∈ lw_privs_1, lw_okq q := List.forall_mem_cons.mpr ⟨lw_p0, List.forall_mem_cons.mpr ⟨lw_p1, List.forall_mem_cons.mpr ⟨lw_p2, List.forall_mem_cons.mpr ⟨lw_p3, List.forall_mem_cons.mpr ⟨lw_p4, List.forall_mem_cons.mpr ⟨lw_p5, List.forall_mem_cons.mpr ⟨lw_p6, List.forall_mem_cons.mpr ⟨lw_p7, List.forall_mem_cons.mpr ⟨lw_p8, List.forall_mem_cons.mpr ⟨lw_p9, List.forall_mem_cons.mpr ⟨lw_p10, List.forall_mem_cons.mpr ⟨lw_p11, List.forall_mem_cons.mpr ⟨lw_p12, List.forall_mem_cons.mpr ⟨lw_p13, List.forall_mem_cons.mpr ⟨lw_p14, List.forall_mem_cons.mpr ⟨lw_p15, fun _ h => absurd h List.not_mem_nil⟩⟩⟩⟩⟩⟩⟩⟩⟩⟩⟩⟩⟩⟩⟩⟩
theorem lw_p16 : lw_okq (⟨"SupplyGrid$Flow", "fillRows", "(LSupplyGrid$Net;[I[I)V"⟩, 9) := ⟨⟨by decide +kernel, by decide +kernel⟩, List.mem_of_getElem? (i := 207) (by decide +kernel), List.mem_of_getElem? (i := 755) (by decide +kernel), List.mem_of_getElem? (i := 756) (by decide +kernel)⟩
theorem lw_p17 : lw_okq (⟨"SupplyGrid$Flow", "clearRows", "()V"⟩, 9) := ⟨⟨by decide +kernel, by decide +kernel⟩, List.mem_of_getElem? (i := 207) (by decide +kernel), List.mem_of_getElem? (i := 762) (by decide +kernel), List.mem_of_getElem? (i := 763) (by decide +kernel)⟩
theorem lw_p18 : lw_okq (⟨"SupplyGrid$Flow", "clearRow", "(IIJ)V"⟩, 9) := ⟨⟨by decide +kernel, by decide +kernel⟩, List.mem_of_getElem? (i := 207) (by decide +kernel), List.mem_of_getElem? (i := 766) (by decide +kernel), List.mem_of_getElem? (i := 767) (by decide +kernel)⟩
theorem lw_p19 : lw_okq (⟨"SupplyGrid$Flow", "keepScore", "(LSupplyGrid$Net;[I)V"⟩, 9) := ⟨⟨by decide +kernel, by decide +kernel⟩, List.mem_of_getElem? (i := 207) (by decide +kernel), List.mem_of_getElem? (i := 770) (by decide +kernel), List.mem_of_getElem? (i := 771) (by decide +kernel)⟩
theorem lw_p20 : lw_okq (⟨"SupplyGrid", "hasStrap", "(I)Z"⟩, 13) := ⟨⟨by decide +kernel, by decide +kernel⟩, List.mem_of_getElem? (i := 22) (by decide +kernel), List.mem_of_getElem? (i := 785) (by decide +kernel), List.mem_of_getElem? (i := 786) (by decide +kernel)⟩
theorem lw_p21 : lw_okq (⟨"SupplyGrid", "hasNode", "(I)Z"⟩, 13) := ⟨⟨by decide +kernel, by decide +kernel⟩, List.mem_of_getElem? (i := 22) (by decide +kernel), List.mem_of_getElem? (i := 793) (by decide +kernel), List.mem_of_getElem? (i := 794) (by decide +kernel)⟩
theorem lw_p22 : lw_okq (⟨"SupplyGrid", "noGrid", "()Z"⟩, 13) := ⟨⟨by decide +kernel, by decide +kernel⟩, List.mem_of_getElem? (i := 22) (by decide +kernel), List.mem_of_getElem? (i := 808) (by decide +kernel), List.mem_of_getElem? (i := 809) (by decide +kernel)⟩
theorem lw_p23 : lw_okq (⟨"SupplyGrid$Bounded", "strongest", "(LSupplyGrid$Net;I)I"⟩, 5) := ⟨⟨by decide +kernel, by decide +kernel⟩, List.mem_of_getElem? (i := 280) (by decide +kernel), List.mem_of_getElem? (i := 900) (by decide +kernel), List.mem_of_getElem? (i := 901) (by decide +kernel)⟩
theorem lw_p24 : lw_okq (⟨"SupplyGrid$Bounded", "drawAll", "(LSupplyGrid$Net;I)V"⟩, 5) := ⟨⟨by decide +kernel, by decide +kernel⟩, List.mem_of_getElem? (i := 280) (by decide +kernel), List.mem_of_getElem? (i := 905) (by decide +kernel), List.mem_of_getElem? (i := 906) (by decide +kernel)⟩
theorem lw_p25 : lw_okq (⟨"SupplyGrid", "fedFrom", "(I)I"⟩, 13) := ⟨⟨by decide +kernel, by decide +kernel⟩, List.mem_of_getElem? (i := 22) (by decide +kernel), List.mem_of_getElem? (i := 936) (by decide +kernel), List.mem_of_getElem? (i := 937) (by decide +kernel)⟩
theorem lw_p26 : lw_okq (⟨"SupplyGrid$PadSearch", "bestNext", "(LSupplyGrid$Net;I)I"⟩, 8) := ⟨⟨by decide +kernel, by decide +kernel⟩, List.mem_of_getElem? (i := 338) (by decide +kernel), List.mem_of_getElem? (i := 1009) (by decide +kernel), List.mem_of_getElem? (i := 1010) (by decide +kernel)⟩
theorem lw_p27 : lw_okq (⟨"SupplyGrid$PadSearch", "findSet", "(LSupplyGrid$Net;ILSupplyGrid$Score;)I"⟩, 8) := ⟨⟨by decide +kernel, by decide +kernel⟩, List.mem_of_getElem? (i := 338) (by decide +kernel), List.mem_of_getElem? (i := 1034) (by decide +kernel), List.mem_of_getElem? (i := 1035) (by decide +kernel)⟩
theorem lw_p28 : lw_okq (⟨"SupplyGrid$StrapSearch", "start", "(LSupplyGrid$Net;)V"⟩, 14) := ⟨⟨by decide +kernel, by decide +kernel⟩, List.mem_of_getElem? (i := 377) (by decide +kernel), List.mem_of_getElem? (i := 1060) (by decide +kernel), List.mem_of_getElem? (i := 1061) (by decide +kernel)⟩
theorem lw_p29 : lw_okq (⟨"SupplyGrid$StrapSearch", "bestChange", "(LSupplyGrid$Net;I)I"⟩, 14) := ⟨⟨by decide +kernel, by decide +kernel⟩, List.mem_of_getElem? (i := 377) (by decide +kernel), List.mem_of_getElem? (i := 1068) (by decide +kernel), List.mem_of_getElem? (i := 1069) (by decide +kernel)⟩
theorem lw_p30 : lw_okq (⟨"SupplyGrid$StrapSearch", "findLeast", "(LSupplyGrid$Net;I)Z"⟩, 14) := ⟨⟨by decide +kernel, by decide +kernel⟩, List.mem_of_getElem? (i := 377) (by decide +kernel), List.mem_of_getElem? (i := 1089) (by decide +kernel), List.mem_of_getElem? (i := 1090) (by decide +kernel)⟩
theorem lw_p31 : lw_okq (⟨"SupplyGrid$StrapSearch", "holdsWider", "(LSupplyGrid$Net;I)Z"⟩, 14) := ⟨⟨by decide +kernel, by decide +kernel⟩, List.mem_of_getElem? (i := 377) (by decide +kernel), List.mem_of_getElem? (i := 1094) (by decide +kernel), List.mem_of_getElem? (i := 1095) (by decide +kernel)⟩
def lw_privs_2 : List (MethodName × Nat) := [(⟨"SupplyGrid$Flow", "fillRows", "(LSupplyGrid$Net;[I[I)V"⟩, 9), (⟨"SupplyGrid$Flow", "clearRows", "()V"⟩, 9), (⟨"SupplyGrid$Flow", "clearRow", "(IIJ)V"⟩, 9), (⟨"SupplyGrid$Flow", "keepScore", "(LSupplyGrid$Net;[I)V"⟩, 9), (⟨"SupplyGrid", "hasStrap", "(I)Z"⟩, 13), (⟨"SupplyGrid", "hasNode", "(I)Z"⟩, 13), (⟨"SupplyGrid", "noGrid", "()Z"⟩, 13), (⟨"SupplyGrid$Bounded", "strongest", "(LSupplyGrid$Net;I)I"⟩, 5), (⟨"SupplyGrid$Bounded", "drawAll", "(LSupplyGrid$Net;I)V"⟩, 5), (⟨"SupplyGrid", "fedFrom", "(I)I"⟩, 13), (⟨"SupplyGrid$PadSearch", "bestNext", "(LSupplyGrid$Net;I)I"⟩, 8), (⟨"SupplyGrid$PadSearch", "findSet", "(LSupplyGrid$Net;ILSupplyGrid$Score;)I"⟩, 8), (⟨"SupplyGrid$StrapSearch", "start", "(LSupplyGrid$Net;)V"⟩, 14), (⟨"SupplyGrid$StrapSearch", "bestChange", "(LSupplyGrid$Net;I)I"⟩, 14), (⟨"SupplyGrid$StrapSearch", "findLeast", "(LSupplyGrid$Net;I)Z"⟩, 14), (⟨"SupplyGrid$StrapSearch", "holdsWider", "(LSupplyGrid$Net;I)Z"⟩, 14)]
theorem lw_r2 : ∀ q ∈ lw_privs_2, lw_okq q := List.forall_mem_cons.mpr ⟨lw_p16, List.forall_mem_cons.mpr ⟨lw_p17, List.forall_mem_cons.mpr ⟨lw_p18, List.forall_mem_cons.mpr ⟨lw_p19, List.forall_mem_cons.mpr ⟨lw_p20, List.forall_mem_cons.mpr ⟨lw_p21, List.forall_mem_cons.mpr ⟨lw_p22, List.forall_mem_cons.mpr ⟨lw_p23, List.forall_mem_cons.mpr ⟨lw_p24, List.forall_mem_cons.mpr ⟨lw_p25, List.forall_mem_cons.mpr ⟨lw_p26, List.forall_mem_cons.mpr ⟨lw_p27, List.forall_mem_cons.mpr ⟨lw_p28, List.forall_mem_cons.mpr ⟨lw_p29, List.forall_mem_cons.mpr ⟨lw_p30, List.forall_mem_cons.mpr ⟨lw_p31, fun _ h => absurd h List.not_mem_nil⟩⟩⟩⟩⟩⟩⟩⟩⟩⟩⟩⟩⟩⟩⟩⟩
theorem lw_p32 : lw_okq (⟨"SupplyGrid$StrapSearch", "nextRising", "(LSupplyGrid$Net;I)Z"⟩, 14) := ⟨⟨by decide +kernel, by decide +kernel⟩, List.mem_of_getElem? (i := 377) (by decide +kernel), List.mem_of_getElem? (i := 1098) (by decide +kernel), List.mem_of_getElem? (i := 1099) (by decide +kernel)⟩
theorem lw_p33 : lw_okq (⟨"SupplyGrid$LossSearch", "tryPair", "(LSupplyGrid$Net;II)V"⟩, 9) := ⟨⟨by decide +kernel, by decide +kernel⟩, List.mem_of_getElem? (i := 437) (by decide +kernel), List.mem_of_getElem? (i := 1157) (by decide +kernel), List.mem_of_getElem? (i := 1158) (by decide +kernel)⟩
theorem lw_p34 : lw_okq (⟨"SupplyGrid$LoadTrials", "nextDraw", "(I)I"⟩, 5) := ⟨⟨by decide +kernel, by decide +kernel⟩, List.mem_of_getElem? (i := 480) (by decide +kernel), List.mem_of_getElem? (i := 1173) (by decide +kernel), List.mem_of_getElem? (i := 1174) (by decide +kernel)⟩
theorem lw_p35 : lw_okq (⟨"SupplyGridModel", "advance", "()V"⟩, 38) := ⟨⟨by decide +kernel, by decide +kernel⟩, List.mem_of_getElem? (i := 1245) (by decide +kernel), List.mem_of_getElem? (i := 1393) (by decide +kernel), List.mem_of_getElem? (i := 1394) (by decide +kernel)⟩
theorem lw_p36 : lw_okq (⟨"SupplyGridModel", "see", "(I)I"⟩, 38) := ⟨⟨by decide +kernel, by decide +kernel⟩, List.mem_of_getElem? (i := 1245) (by decide +kernel), List.mem_of_getElem? (i := 1397) (by decide +kernel), List.mem_of_getElem? (i := 1398) (by decide +kernel)⟩
theorem lw_p37 : lw_okq (⟨"SupplyGridModel", "good", "()Z"⟩, 38) := ⟨⟨by decide +kernel, by decide +kernel⟩, List.mem_of_getElem? (i := 1245) (by decide +kernel), List.mem_of_getElem? (i := 1407) (by decide +kernel), List.mem_of_getElem? (i := 1408) (by decide +kernel)⟩
theorem lw_p38 : lw_okq (⟨"SupplyGridModel", "readText", "()V"⟩, 38) := ⟨⟨by decide +kernel, by decide +kernel⟩, List.mem_of_getElem? (i := 1245) (by decide +kernel), List.mem_of_getElem? (i := 1411) (by decide +kernel), List.mem_of_getElem? (i := 1412) (by decide +kernel)⟩
theorem lw_p39 : lw_okq (⟨"SupplyGridModel", "readFirst", "()V"⟩, 38) := ⟨⟨by decide +kernel, by decide +kernel⟩, List.mem_of_getElem? (i := 1245) (by decide +kernel), List.mem_of_getElem? (i := 1415) (by decide +kernel), List.mem_of_getElem? (i := 1416) (by decide +kernel)⟩
theorem lw_p40 : lw_okq (⟨"SupplyGridModel", "expects", "(Ljava/lang/String;)V"⟩, 38) := ⟨⟨by decide +kernel, by decide +kernel⟩, List.mem_of_getElem? (i := 1245) (by decide +kernel), List.mem_of_getElem? (i := 1420) (by decide +kernel), List.mem_of_getElem? (i := 1421) (by decide +kernel)⟩
theorem lw_p41 : lw_okq (⟨"SupplyGridModel", "is", "(Ljava/lang/String;)Z"⟩, 38) := ⟨⟨by decide +kernel, by decide +kernel⟩, List.mem_of_getElem? (i := 1245) (by decide +kernel), List.mem_of_getElem? (i := 1424) (by decide +kernel), List.mem_of_getElem? (i := 1425) (by decide +kernel)⟩
theorem lw_p42 : lw_okq (⟨"SupplyGridModel", "errs", "(I)V"⟩, 38) := ⟨⟨by decide +kernel, by decide +kernel⟩, List.mem_of_getElem? (i := 1245) (by decide +kernel), List.mem_of_getElem? (i := 1430) (by decide +kernel), List.mem_of_getElem? (i := 1431) (by decide +kernel)⟩
theorem lw_p43 : lw_okq (⟨"SupplyGridModel", "told", "(Ljava/lang/String;II)I"⟩, 38) := ⟨⟨by decide +kernel, by decide +kernel⟩, List.mem_of_getElem? (i := 1245) (by decide +kernel), List.mem_of_getElem? (i := 1435) (by decide +kernel), List.mem_of_getElem? (i := 1436) (by decide +kernel)⟩
theorem lw_p44 : lw_okq (⟨"SupplyGridModel", "takes", "(II)I"⟩, 38) := ⟨⟨by decide +kernel, by decide +kernel⟩, List.mem_of_getElem? (i := 1245) (by decide +kernel), List.mem_of_getElem? (i := 1439) (by decide +kernel), List.mem_of_getElem? (i := 1440) (by decide +kernel)⟩
theorem lw_p45 : lw_okq (⟨"SupplyGridModel", "laysStraps", "(II)V"⟩, 38) := ⟨⟨by decide +kernel, by decide +kernel⟩, List.mem_of_getElem? (i := 1245) (by decide +kernel), List.mem_of_getElem? (i := 1448) (by decide +kernel), List.mem_of_getElem? (i := 1449) (by decide +kernel)⟩
theorem lw_p46 : lw_okq (⟨"SupplyGridModel", "addsStrap", "(II)V"⟩, 38) := ⟨⟨by decide +kernel, by decide +kernel⟩, List.mem_of_getElem? (i := 1245) (by decide +kernel), List.mem_of_getElem? (i := 1452) (by decide +kernel), List.mem_of_getElem? (i := 1453) (by decide +kernel)⟩
theorem lw_p47 : lw_okq (⟨"SupplyGridModel", "readLine", "()V"⟩, 38) := ⟨⟨by decide +kernel, by decide +kernel⟩, List.mem_of_getElem? (i := 1245) (by decide +kernel), List.mem_of_getElem? (i := 1456) (by decide +kernel), List.mem_of_getElem? (i := 1457) (by decide +kernel)⟩
def lw_privs_3 : List (MethodName × Nat) := [(⟨"SupplyGrid$StrapSearch", "nextRising", "(LSupplyGrid$Net;I)Z"⟩, 14), (⟨"SupplyGrid$LossSearch", "tryPair", "(LSupplyGrid$Net;II)V"⟩, 9), (⟨"SupplyGrid$LoadTrials", "nextDraw", "(I)I"⟩, 5), (⟨"SupplyGridModel", "advance", "()V"⟩, 38), (⟨"SupplyGridModel", "see", "(I)I"⟩, 38), (⟨"SupplyGridModel", "good", "()Z"⟩, 38), (⟨"SupplyGridModel", "readText", "()V"⟩, 38), (⟨"SupplyGridModel", "readFirst", "()V"⟩, 38), (⟨"SupplyGridModel", "expects", "(Ljava/lang/String;)V"⟩, 38), (⟨"SupplyGridModel", "is", "(Ljava/lang/String;)Z"⟩, 38), (⟨"SupplyGridModel", "errs", "(I)V"⟩, 38), (⟨"SupplyGridModel", "told", "(Ljava/lang/String;II)I"⟩, 38), (⟨"SupplyGridModel", "takes", "(II)I"⟩, 38), (⟨"SupplyGridModel", "laysStraps", "(II)V"⟩, 38), (⟨"SupplyGridModel", "addsStrap", "(II)V"⟩, 38), (⟨"SupplyGridModel", "readLine", "()V"⟩, 38)]
theorem lw_r3 : ∀ q ∈ lw_privs_3, lw_okq q := List.forall_mem_cons.mpr ⟨lw_p32, List.forall_mem_cons.mpr ⟨lw_p33, List.forall_mem_cons.mpr ⟨lw_p34, List.forall_mem_cons.mpr ⟨lw_p35, List.forall_mem_cons.mpr ⟨lw_p36, List.forall_mem_cons.mpr ⟨lw_p37, List.forall_mem_cons.mpr ⟨lw_p38, List.forall_mem_cons.mpr ⟨lw_p39, List.forall_mem_cons.mpr ⟨lw_p40, List.forall_mem_cons.mpr ⟨lw_p41, List.forall_mem_cons.mpr ⟨lw_p42, List.forall_mem_cons.mpr ⟨lw_p43, List.forall_mem_cons.mpr ⟨lw_p44, List.forall_mem_cons.mpr ⟨lw_p45, List.forall_mem_cons.mpr ⟨lw_p46, List.forall_mem_cons.mpr ⟨lw_p47, fun _ h => absurd h List.not_mem_nil⟩⟩⟩⟩⟩⟩⟩⟩⟩⟩⟩⟩⟩⟩⟩⟩
theorem lw_p48 : lw_okq (⟨"SupplyGridModel", "readStrap", "()V"⟩, 38) := ⟨⟨by decide +kernel, by decide +kernel⟩, List.mem_of_getElem? (i := 1245) (by decide +kernel), List.mem_of_getElem? (i := 1461) (by decide +kernel), List.mem_of_getElem? (i := 1462) (by decide +kernel)⟩
theorem lw_p49 : lw_okq (⟨"SupplyGridModel", "readPlace", "(I)I"⟩, 38) := ⟨⟨by decide +kernel, by decide +kernel⟩, List.mem_of_getElem? (i := 1245) (by decide +kernel), List.mem_of_getElem? (i := 1465) (by decide +kernel), List.mem_of_getElem? (i := 1466) (by decide +kernel)⟩
theorem lw_p50 : lw_okq (⟨"SupplyGridModel", "strapOf", "(II)I"⟩, 38) := ⟨⟨by decide +kernel, by decide +kernel⟩, List.mem_of_getElem? (i := 1245) (by decide +kernel), List.mem_of_getElem? (i := 1475) (by decide +kernel), List.mem_of_getElem? (i := 1476) (by decide +kernel)⟩
theorem lw_p51 : lw_okq (⟨"SupplyGridModel", "readLoad", "()V"⟩, 38) := ⟨⟨by decide +kernel, by decide +kernel⟩, List.mem_of_getElem? (i := 1245) (by decide +kernel), List.mem_of_getElem? (i := 1484) (by decide +kernel), List.mem_of_getElem? (i := 1485) (by decide +kernel)⟩
theorem lw_p52 : lw_okq (⟨"SupplyGridModel", "readBudget", "()V"⟩, 38) := ⟨⟨by decide +kernel, by decide +kernel⟩, List.mem_of_getElem? (i := 1245) (by decide +kernel), List.mem_of_getElem? (i := 1491) (by decide +kernel), List.mem_of_getElem? (i := 1492) (by decide +kernel)⟩
theorem lw_p53 : lw_okq (⟨"SupplyGridModel", "straps", "()I"⟩, 38) := ⟨⟨by decide +kernel, by decide +kernel⟩, List.mem_of_getElem? (i := 1245) (by decide +kernel), List.mem_of_getElem? (i := 1500) (by decide +kernel), List.mem_of_getElem? (i := 1501) (by decide +kernel)⟩
theorem lw_p54 : lw_okq (⟨"SupplyGridModel", "isGrid", "()Z"⟩, 38) := ⟨⟨by decide +kernel, by decide +kernel⟩, List.mem_of_getElem? (i := 1245) (by decide +kernel), List.mem_of_getElem? (i := 1504) (by decide +kernel), List.mem_of_getElem? (i := 1505) (by decide +kernel)⟩
theorem lw_p55 : lw_okq (⟨"SupplyGridModel", "asks", "()Z"⟩, 38) := ⟨⟨by decide +kernel, by decide +kernel⟩, List.mem_of_getElem? (i := 1245) (by decide +kernel), List.mem_of_getElem? (i := 1508) (by decide +kernel), List.mem_of_getElem? (i := 1509) (by decide +kernel)⟩
theorem lw_p56 : lw_okq (⟨"SupplyGridModel", "lays", "()V"⟩, 38) := ⟨⟨by decide +kernel, by decide +kernel⟩, List.mem_of_getElem? (i := 1245) (by decide +kernel), List.mem_of_getElem? (i := 1512) (by decide +kernel), List.mem_of_getElem? (i := 1513) (by decide +kernel)⟩
theorem lw_p57 : lw_okq (⟨"SupplyGridModel", "solves", "(I)V"⟩, 38) := ⟨⟨by decide +kernel, by decide +kernel⟩, List.mem_of_getElem? (i := 1245) (by decide +kernel), List.mem_of_getElem? (i := 1516) (by decide +kernel), List.mem_of_getElem? (i := 1517) (by decide +kernel)⟩
theorem lw_p58 : lw_okq (⟨"SupplyGridModel", "nodes", "()I"⟩, 38) := ⟨⟨by decide +kernel, by decide +kernel⟩, List.mem_of_getElem? (i := 1245) (by decide +kernel), List.mem_of_getElem? (i := 1520) (by decide +kernel), List.mem_of_getElem? (i := 1521) (by decide +kernel)⟩
theorem lw_p59 : lw_okq (⟨"SupplyGridModel", "comesTo", "(I)I"⟩, 38) := ⟨⟨by decide +kernel, by decide +kernel⟩, List.mem_of_getElem? (i := 1245) (by decide +kernel), List.mem_of_getElem? (i := 1527) (by decide +kernel), List.mem_of_getElem? (i := 1528) (by decide +kernel)⟩
theorem lw_p60 : lw_okq (⟨"SupplyGridModel", "laysCells", "()V"⟩, 38) := ⟨⟨by decide +kernel, by decide +kernel⟩, List.mem_of_getElem? (i := 1245) (by decide +kernel), List.mem_of_getElem? (i := 1531) (by decide +kernel), List.mem_of_getElem? (i := 1532) (by decide +kernel)⟩
theorem lw_p61 : lw_okq (⟨"SupplyGridModel", "brings", "()V"⟩, 38) := ⟨⟨by decide +kernel, by decide +kernel⟩, List.mem_of_getElem? (i := 1245) (by decide +kernel), List.mem_of_getElem? (i := 1535) (by decide +kernel), List.mem_of_getElem? (i := 1536) (by decide +kernel)⟩
theorem lw_p62 : lw_okq (⟨"SupplyGridModel", "isStrap", "(I)Z"⟩, 38) := ⟨⟨by decide +kernel, by decide +kernel⟩, List.mem_of_getElem? (i := 1245) (by decide +kernel), List.mem_of_getElem? (i := 1543) (by decide +kernel), List.mem_of_getElem? (i := 1544) (by decide +kernel)⟩
theorem lw_p63 : lw_okq (⟨"SupplyGridModel", "isNode", "(I)Z"⟩, 38) := ⟨⟨by decide +kernel, by decide +kernel⟩, List.mem_of_getElem? (i := 1245) (by decide +kernel), List.mem_of_getElem? (i := 1551) (by decide +kernel), List.mem_of_getElem? (i := 1552) (by decide +kernel)⟩
def lw_privs_4 : List (MethodName × Nat) := [(⟨"SupplyGridModel", "readStrap", "()V"⟩, 38), (⟨"SupplyGridModel", "readPlace", "(I)I"⟩, 38), (⟨"SupplyGridModel", "strapOf", "(II)I"⟩, 38), (⟨"SupplyGridModel", "readLoad", "()V"⟩, 38), (⟨"SupplyGridModel", "readBudget", "()V"⟩, 38), (⟨"SupplyGridModel", "straps", "()I"⟩, 38), (⟨"SupplyGridModel", "isGrid", "()Z"⟩, 38), (⟨"SupplyGridModel", "asks", "()Z"⟩, 38), (⟨"SupplyGridModel", "lays", "()V"⟩, 38), (⟨"SupplyGridModel", "solves", "(I)V"⟩, 38), (⟨"SupplyGridModel", "nodes", "()I"⟩, 38), (⟨"SupplyGridModel", "comesTo", "(I)I"⟩, 38), (⟨"SupplyGridModel", "laysCells", "()V"⟩, 38), (⟨"SupplyGridModel", "brings", "()V"⟩, 38), (⟨"SupplyGridModel", "isStrap", "(I)Z"⟩, 38), (⟨"SupplyGridModel", "isNode", "(I)Z"⟩, 38)]
theorem lw_r4 : ∀ q ∈ lw_privs_4, lw_okq q := List.forall_mem_cons.mpr ⟨lw_p48, List.forall_mem_cons.mpr ⟨lw_p49, List.forall_mem_cons.mpr ⟨lw_p50, List.forall_mem_cons.mpr ⟨lw_p51, List.forall_mem_cons.mpr ⟨lw_p52, List.forall_mem_cons.mpr ⟨lw_p53, List.forall_mem_cons.mpr ⟨lw_p54, List.forall_mem_cons.mpr ⟨lw_p55, List.forall_mem_cons.mpr ⟨lw_p56, List.forall_mem_cons.mpr ⟨lw_p57, List.forall_mem_cons.mpr ⟨lw_p58, List.forall_mem_cons.mpr ⟨lw_p59, List.forall_mem_cons.mpr ⟨lw_p60, List.forall_mem_cons.mpr ⟨lw_p61, List.forall_mem_cons.mpr ⟨lw_p62, List.forall_mem_cons.mpr ⟨lw_p63, fun _ h => absurd h List.not_mem_nil⟩⟩⟩⟩⟩⟩⟩⟩⟩⟩⟩⟩⟩⟩⟩⟩
theorem lw_p64 : lw_okq (⟨"SupplyGridModel", "isDead", "(I)Z"⟩, 38) := ⟨⟨by decide +kernel, by decide +kernel⟩, List.mem_of_getElem? (i := 1245) (by decide +kernel), List.mem_of_getElem? (i := 1560) (by decide +kernel), List.mem_of_getElem? (i := 1561) (by decide +kernel)⟩
theorem lw_p65 : lw_okq (⟨"SupplyGridModel", "dropOf", "(I)J"⟩, 38) := ⟨⟨by decide +kernel, by decide +kernel⟩, List.mem_of_getElem? (i := 1245) (by decide +kernel), List.mem_of_getElem? (i := 1577) (by decide +kernel), List.mem_of_getElem? (i := 1578) (by decide +kernel)⟩
theorem lw_p66 : lw_okq (⟨"SupplyGridModel", "movesOf", "(II)J"⟩, 38) := ⟨⟨by decide +kernel, by decide +kernel⟩, List.mem_of_getElem? (i := 1245) (by decide +kernel), List.mem_of_getElem? (i := 1581) (by decide +kernel), List.mem_of_getElem? (i := 1582) (by decide +kernel)⟩
theorem lw_p67 : lw_okq (⟨"SupplyGridModel", "throughOf", "(I)J"⟩, 38) := ⟨⟨by decide +kernel, by decide +kernel⟩, List.mem_of_getElem? (i := 1245) (by decide +kernel), List.mem_of_getElem? (i := 1597) (by decide +kernel), List.mem_of_getElem? (i := 1598) (by decide +kernel)⟩
theorem lw_p68 : lw_okq (⟨"SupplyGridModel", "givesOf", "(I)J"⟩, 38) := ⟨⟨by decide +kernel, by decide +kernel⟩, List.mem_of_getElem? (i := 1245) (by decide +kernel), List.mem_of_getElem? (i := 1605) (by decide +kernel), List.mem_of_getElem? (i := 1606) (by decide +kernel)⟩
theorem lw_p69 : lw_okq (⟨"SupplyGridModel", "mostDrop", "()J"⟩, 38) := ⟨⟨by decide +kernel, by decide +kernel⟩, List.mem_of_getElem? (i := 1245) (by decide +kernel), List.mem_of_getElem? (i := 1621) (by decide +kernel), List.mem_of_getElem? (i := 1622) (by decide +kernel)⟩
theorem lw_p70 : lw_okq (⟨"SupplyGridModel", "doesHold", "()Z"⟩, 38) := ⟨⟨by decide +kernel, by decide +kernel⟩, List.mem_of_getElem? (i := 1245) (by decide +kernel), List.mem_of_getElem? (i := 1634) (by decide +kernel), List.mem_of_getElem? (i := 1635) (by decide +kernel)⟩
theorem lw_p71 : lw_okq (⟨"SupplyGridModel", "deadLoads", "()I"⟩, 38) := ⟨⟨by decide +kernel, by decide +kernel⟩, List.mem_of_getElem? (i := 1245) (by decide +kernel), List.mem_of_getElem? (i := 1638) (by decide +kernel), List.mem_of_getElem? (i := 1639) (by decide +kernel)⟩
theorem lw_p72 : lw_okq (⟨"SupplyGridModel", "feederOf", "(I)I"⟩, 38) := ⟨⟨by decide +kernel, by decide +kernel⟩, List.mem_of_getElem? (i := 1245) (by decide +kernel), List.mem_of_getElem? (i := 1662) (by decide +kernel), List.mem_of_getElem? (i := 1663) (by decide +kernel)⟩
theorem lw_p73 : lw_okq (⟨"SupplyGridModel", "comesBy", "(II)J"⟩, 38) := ⟨⟨by decide +kernel, by decide +kernel⟩, List.mem_of_getElem? (i := 1245) (by decide +kernel), List.mem_of_getElem? (i := 1666) (by decide +kernel), List.mem_of_getElem? (i := 1667) (by decide +kernel)⟩
theorem lw_p74 : lw_okq (⟨"SupplyGridModel", "mostOf", "(I)J"⟩, 38) := ⟨⟨by decide +kernel, by decide +kernel⟩, List.mem_of_getElem? (i := 1245) (by decide +kernel), List.mem_of_getElem? (i := 1682) (by decide +kernel), List.mem_of_getElem? (i := 1683) (by decide +kernel)⟩
theorem lw_p75 : lw_okq (⟨"SupplyGridModel", "draws", "(I)V"⟩, 38) := ⟨⟨by decide +kernel, by decide +kernel⟩, List.mem_of_getElem? (i := 1245) (by decide +kernel), List.mem_of_getElem? (i := 1686) (by decide +kernel), List.mem_of_getElem? (i := 1687) (by decide +kernel)⟩
theorem lw_p76 : lw_okq (⟨"SupplyGridModel", "isAhead", "(III)Z"⟩, 38) := ⟨⟨by decide +kernel, by decide +kernel⟩, List.mem_of_getElem? (i := 1245) (by decide +kernel), List.mem_of_getElem? (i := 1690) (by decide +kernel), List.mem_of_getElem? (i := 1691) (by decide +kernel)⟩
theorem lw_p77 : lw_okq (⟨"SupplyGridModel", "heatOf", "(I)J"⟩, 38) := ⟨⟨by decide +kernel, by decide +kernel⟩, List.mem_of_getElem? (i := 1245) (by decide +kernel), List.mem_of_getElem? (i := 1714) (by decide +kernel), List.mem_of_getElem? (i := 1715) (by decide +kernel)⟩
theorem lw_p78 : lw_okq (⟨"SupplyGridModel", "wears", "()I"⟩, 38) := ⟨⟨by decide +kernel, by decide +kernel⟩, List.mem_of_getElem? (i := 1245) (by decide +kernel), List.mem_of_getElem? (i := 1726) (by decide +kernel), List.mem_of_getElem? (i := 1727) (by decide +kernel)⟩
theorem lw_p79 : lw_okq (⟨"SupplyGridModel", "puts", "()V"⟩, 38) := ⟨⟨by decide +kernel, by decide +kernel⟩, List.mem_of_getElem? (i := 1245) (by decide +kernel), List.mem_of_getElem? (i := 1735) (by decide +kernel), List.mem_of_getElem? (i := 1736) (by decide +kernel)⟩
def lw_privs_5 : List (MethodName × Nat) := [(⟨"SupplyGridModel", "isDead", "(I)Z"⟩, 38), (⟨"SupplyGridModel", "dropOf", "(I)J"⟩, 38), (⟨"SupplyGridModel", "movesOf", "(II)J"⟩, 38), (⟨"SupplyGridModel", "throughOf", "(I)J"⟩, 38), (⟨"SupplyGridModel", "givesOf", "(I)J"⟩, 38), (⟨"SupplyGridModel", "mostDrop", "()J"⟩, 38), (⟨"SupplyGridModel", "doesHold", "()Z"⟩, 38), (⟨"SupplyGridModel", "deadLoads", "()I"⟩, 38), (⟨"SupplyGridModel", "feederOf", "(I)I"⟩, 38), (⟨"SupplyGridModel", "comesBy", "(II)J"⟩, 38), (⟨"SupplyGridModel", "mostOf", "(I)J"⟩, 38), (⟨"SupplyGridModel", "draws", "(I)V"⟩, 38), (⟨"SupplyGridModel", "isAhead", "(III)Z"⟩, 38), (⟨"SupplyGridModel", "heatOf", "(I)J"⟩, 38), (⟨"SupplyGridModel", "wears", "()I"⟩, 38), (⟨"SupplyGridModel", "puts", "()V"⟩, 38)]
theorem lw_r5 : ∀ q ∈ lw_privs_5, lw_okq q := List.forall_mem_cons.mpr ⟨lw_p64, List.forall_mem_cons.mpr ⟨lw_p65, List.forall_mem_cons.mpr ⟨lw_p66, List.forall_mem_cons.mpr ⟨lw_p67, List.forall_mem_cons.mpr ⟨lw_p68, List.forall_mem_cons.mpr ⟨lw_p69, List.forall_mem_cons.mpr ⟨lw_p70, List.forall_mem_cons.mpr ⟨lw_p71, List.forall_mem_cons.mpr ⟨lw_p72, List.forall_mem_cons.mpr ⟨lw_p73, List.forall_mem_cons.mpr ⟨lw_p74, List.forall_mem_cons.mpr ⟨lw_p75, List.forall_mem_cons.mpr ⟨lw_p76, List.forall_mem_cons.mpr ⟨lw_p77, List.forall_mem_cons.mpr ⟨lw_p78, List.forall_mem_cons.mpr ⟨lw_p79, fun _ h => absurd h List.not_mem_nil⟩⟩⟩⟩⟩⟩⟩⟩⟩⟩⟩⟩⟩⟩⟩⟩
theorem lw_p80 : lw_okq (⟨"SupplyGridModel", "ages", "()I"⟩, 38) := ⟨⟨by decide +kernel, by decide +kernel⟩, List.mem_of_getElem? (i := 1245) (by decide +kernel), List.mem_of_getElem? (i := 1739) (by decide +kernel), List.mem_of_getElem? (i := 1740) (by decide +kernel)⟩
theorem lw_p81 : lw_okq (⟨"SupplyGridModel", "takesOut", "()V"⟩, 38) := ⟨⟨by decide +kernel, by decide +kernel⟩, List.mem_of_getElem? (i := 1245) (by decide +kernel), List.mem_of_getElem? (i := 1743) (by decide +kernel), List.mem_of_getElem? (i := 1744) (by decide +kernel)⟩
theorem lw_p82 : lw_okq (⟨"SupplyGridModel", "nextPad", "()I"⟩, 38) := ⟨⟨by decide +kernel, by decide +kernel⟩, List.mem_of_getElem? (i := 1245) (by decide +kernel), List.mem_of_getElem? (i := 1763) (by decide +kernel), List.mem_of_getElem? (i := 1764) (by decide +kernel)⟩
theorem lw_p83 : lw_okq (⟨"SupplyGridModel", "beginsWithout", "()V"⟩, 38) := ⟨⟨by decide +kernel, by decide +kernel⟩, List.mem_of_getElem? (i := 1245) (by decide +kernel), List.mem_of_getElem? (i := 1767) (by decide +kernel), List.mem_of_getElem? (i := 1768) (by decide +kernel)⟩
theorem lw_p84 : lw_okq (⟨"SupplyGridModel", "scores", "()I"⟩, 38) := ⟨⟨by decide +kernel, by decide +kernel⟩, List.mem_of_getElem? (i := 1245) (by decide +kernel), List.mem_of_getElem? (i := 1771) (by decide +kernel), List.mem_of_getElem? (i := 1772) (by decide +kernel)⟩
theorem lw_p85 : lw_okq (⟨"SupplyGridModel", "keeps", "()V"⟩, 38) := ⟨⟨by decide +kernel, by decide +kernel⟩, List.mem_of_getElem? (i := 1245) (by decide +kernel), List.mem_of_getElem? (i := 1778) (by decide +kernel), List.mem_of_getElem? (i := 1779) (by decide +kernel)⟩
theorem lw_p86 : lw_okq (⟨"SupplyGridModel", "bestPads", "(I)I"⟩, 38) := ⟨⟨by decide +kernel, by decide +kernel⟩, List.mem_of_getElem? (i := 1245) (by decide +kernel), List.mem_of_getElem? (i := 1786) (by decide +kernel), List.mem_of_getElem? (i := 1787) (by decide +kernel)⟩
theorem lw_p87 : lw_okq (⟨"SupplyGridModel", "laysWidened", "()Z"⟩, 38) := ⟨⟨by decide +kernel, by decide +kernel⟩, List.mem_of_getElem? (i := 1245) (by decide +kernel), List.mem_of_getElem? (i := 1805) (by decide +kernel), List.mem_of_getElem? (i := 1806) (by decide +kernel)⟩
theorem lw_p88 : lw_okq (⟨"SupplyGridModel", "widensAll", "()V"⟩, 38) := ⟨⟨by decide +kernel, by decide +kernel⟩, List.mem_of_getElem? (i := 1245) (by decide +kernel), List.mem_of_getElem? (i := 1809) (by decide +kernel), List.mem_of_getElem? (i := 1810) (by decide +kernel)⟩
theorem lw_p89 : lw_okq (⟨"SupplyGridModel", "nextWider", "()I"⟩, 38) := ⟨⟨by decide +kernel, by decide +kernel⟩, List.mem_of_getElem? (i := 1245) (by decide +kernel), List.mem_of_getElem? (i := 1813) (by decide +kernel), List.mem_of_getElem? (i := 1814) (by decide +kernel)⟩
theorem lw_p90 : lw_okq (⟨"SupplyGridModel", "beginsWith", "()V"⟩, 38) := ⟨⟨by decide +kernel, by decide +kernel⟩, List.mem_of_getElem? (i := 1245) (by decide +kernel), List.mem_of_getElem? (i := 1817) (by decide +kernel), List.mem_of_getElem? (i := 1818) (by decide +kernel)⟩
theorem lw_p91 : lw_okq (⟨"SupplyGridModel", "fewestOf", "()I"⟩, 38) := ⟨⟨by decide +kernel, by decide +kernel⟩, List.mem_of_getElem? (i := 1245) (by decide +kernel), List.mem_of_getElem? (i := 1833) (by decide +kernel), List.mem_of_getElem? (i := 1834) (by decide +kernel)⟩
theorem lw_p92 : lw_okq (⟨"SupplyGridModel", "does", "(III)Z"⟩, 38) := ⟨⟨by decide +kernel, by decide +kernel⟩, List.mem_of_getElem? (i := 1245) (by decide +kernel), List.mem_of_getElem? (i := 1837) (by decide +kernel), List.mem_of_getElem? (i := 1838) (by decide +kernel)⟩
theorem lw_p93 : lw_okq (⟨"SupplyGridModel", "slimsAll", "()I"⟩, 38) := ⟨⟨by decide +kernel, by decide +kernel⟩, List.mem_of_getElem? (i := 1245) (by decide +kernel), List.mem_of_getElem? (i := 1849) (by decide +kernel), List.mem_of_getElem? (i := 1850) (by decide +kernel)⟩
theorem lw_p94 : lw_okq (⟨"SupplyGridModel", "nextSlim", "()I"⟩, 38) := ⟨⟨by decide +kernel, by decide +kernel⟩, List.mem_of_getElem? (i := 1245) (by decide +kernel), List.mem_of_getElem? (i := 1853) (by decide +kernel), List.mem_of_getElem? (i := 1854) (by decide +kernel)⟩
theorem lw_p95 : lw_okq (⟨"SupplyGridModel", "pairBy", "(I)I"⟩, 38) := ⟨⟨by decide +kernel, by decide +kernel⟩, List.mem_of_getElem? (i := 1245) (by decide +kernel), List.mem_of_getElem? (i := 1865) (by decide +kernel), List.mem_of_getElem? (i := 1866) (by decide +kernel)⟩
def lw_privs_6 : List (MethodName × Nat) := [(⟨"SupplyGridModel", "ages", "()I"⟩, 38), (⟨"SupplyGridModel", "takesOut", "()V"⟩, 38), (⟨"SupplyGridModel", "nextPad", "()I"⟩, 38), (⟨"SupplyGridModel", "beginsWithout", "()V"⟩, 38), (⟨"SupplyGridModel", "scores", "()I"⟩, 38), (⟨"SupplyGridModel", "keeps", "()V"⟩, 38), (⟨"SupplyGridModel", "bestPads", "(I)I"⟩, 38), (⟨"SupplyGridModel", "laysWidened", "()Z"⟩, 38), (⟨"SupplyGridModel", "widensAll", "()V"⟩, 38), (⟨"SupplyGridModel", "nextWider", "()I"⟩, 38), (⟨"SupplyGridModel", "beginsWith", "()V"⟩, 38), (⟨"SupplyGridModel", "fewestOf", "()I"⟩, 38), (⟨"SupplyGridModel", "does", "(III)Z"⟩, 38), (⟨"SupplyGridModel", "slimsAll", "()I"⟩, 38), (⟨"SupplyGridModel", "nextSlim", "()I"⟩, 38), (⟨"SupplyGridModel", "pairBy", "(I)I"⟩, 38)]
theorem lw_r6 : ∀ q ∈ lw_privs_6, lw_okq q := List.forall_mem_cons.mpr ⟨lw_p80, List.forall_mem_cons.mpr ⟨lw_p81, List.forall_mem_cons.mpr ⟨lw_p82, List.forall_mem_cons.mpr ⟨lw_p83, List.forall_mem_cons.mpr ⟨lw_p84, List.forall_mem_cons.mpr ⟨lw_p85, List.forall_mem_cons.mpr ⟨lw_p86, List.forall_mem_cons.mpr ⟨lw_p87, List.forall_mem_cons.mpr ⟨lw_p88, List.forall_mem_cons.mpr ⟨lw_p89, List.forall_mem_cons.mpr ⟨lw_p90, List.forall_mem_cons.mpr ⟨lw_p91, List.forall_mem_cons.mpr ⟨lw_p92, List.forall_mem_cons.mpr ⟨lw_p93, List.forall_mem_cons.mpr ⟨lw_p94, List.forall_mem_cons.mpr ⟨lw_p95, fun _ h => absurd h List.not_mem_nil⟩⟩⟩⟩⟩⟩⟩⟩⟩⟩⟩⟩⟩⟩⟩⟩
theorem lw_p96 : lw_okq (⟨"SupplyGridModel", "isPair", "(II)Z"⟩, 38) := ⟨⟨by decide +kernel, by decide +kernel⟩, List.mem_of_getElem? (i := 1245) (by decide +kernel), List.mem_of_getElem? (i := 1869) (by decide +kernel), List.mem_of_getElem? (i := 1870) (by decide +kernel)⟩
theorem lw_p97 : lw_okq (⟨"SupplyGridModel", "holdsWithout", "(II)Z"⟩, 38) := ⟨⟨by decide +kernel, by decide +kernel⟩, List.mem_of_getElem? (i := 1245) (by decide +kernel), List.mem_of_getElem? (i := 1873) (by decide +kernel), List.mem_of_getElem? (i := 1874) (by decide +kernel)⟩
theorem lw_p98 : lw_okq (⟨"SupplyGridModel", "tries", "(II)I"⟩, 38) := ⟨⟨by decide +kernel, by decide +kernel⟩, List.mem_of_getElem? (i := 1245) (by decide +kernel), List.mem_of_getElem? (i := 1885) (by decide +kernel), List.mem_of_getElem? (i := 1886) (by decide +kernel)⟩
theorem lw_p99 : lw_okq (⟨"SupplyGridModel", "draws1", "(I)I"⟩, 38) := ⟨⟨by decide +kernel, by decide +kernel⟩, List.mem_of_getElem? (i := 1245) (by decide +kernel), List.mem_of_getElem? (i := 1889) (by decide +kernel), List.mem_of_getElem? (i := 1890) (by decide +kernel)⟩
theorem lw_p100 : lw_okq (⟨"SupplyGridModel", "isFull", "()Z"⟩, 38) := ⟨⟨by decide +kernel, by decide +kernel⟩, List.mem_of_getElem? (i := 1245) (by decide +kernel), List.mem_of_getElem? (i := 1930) (by decide +kernel), List.mem_of_getElem? (i := 1931) (by decide +kernel)⟩
theorem lw_p101 : lw_okq (⟨"SupplyGridModel", "remembers", "(II)V"⟩, 38) := ⟨⟨by decide +kernel, by decide +kernel⟩, List.mem_of_getElem? (i := 1245) (by decide +kernel), List.mem_of_getElem? (i := 1934) (by decide +kernel), List.mem_of_getElem? (i := 1935) (by decide +kernel)⟩
theorem lw_p102 : lw_okq (⟨"SupplyGridModel", "takesBack", "()V"⟩, 38) := ⟨⟨by decide +kernel, by decide +kernel⟩, List.mem_of_getElem? (i := 1245) (by decide +kernel), List.mem_of_getElem? (i := 1955) (by decide +kernel), List.mem_of_getElem? (i := 1956) (by decide +kernel)⟩
def lw_privs_7 : List (MethodName × Nat) := [(⟨"SupplyGridModel", "isPair", "(II)Z"⟩, 38), (⟨"SupplyGridModel", "holdsWithout", "(II)Z"⟩, 38), (⟨"SupplyGridModel", "tries", "(II)I"⟩, 38), (⟨"SupplyGridModel", "draws1", "(I)I"⟩, 38), (⟨"SupplyGridModel", "isFull", "()Z"⟩, 38), (⟨"SupplyGridModel", "remembers", "(II)V"⟩, 38), (⟨"SupplyGridModel", "takesBack", "()V"⟩, 38)]
theorem lw_r7 : ∀ q ∈ lw_privs_7, lw_okq q := List.forall_mem_cons.mpr ⟨lw_p96, List.forall_mem_cons.mpr ⟨lw_p97, List.forall_mem_cons.mpr ⟨lw_p98, List.forall_mem_cons.mpr ⟨lw_p99, List.forall_mem_cons.mpr ⟨lw_p100, List.forall_mem_cons.mpr ⟨lw_p101, List.forall_mem_cons.mpr ⟨lw_p102, fun _ h => absurd h List.not_mem_nil⟩⟩⟩⟩⟩⟩⟩
def lw_privs : List (MethodName × Nat) := lw_privs_1 ++ (lw_privs_2 ++ (lw_privs_3 ++ (lw_privs_4 ++ (lw_privs_5 ++ (lw_privs_6 ++ (lw_privs_7))))))
def lw_tbl : List Cond := k2_sels lw_privs ++ tables_1
theorem lw_privs_ok : ∀ q ∈ lw_privs, lw_okq q := by
  show ∀ q ∈ lw_privs_1 ++ (lw_privs_2 ++ (lw_privs_3 ++ (lw_privs_4 ++ (lw_privs_5 ++ (lw_privs_6 ++ (lw_privs_7)))))), lw_okq q
  exact List.forall_mem_append.mpr ⟨lw_r1, List.forall_mem_append.mpr ⟨lw_r2, List.forall_mem_append.mpr ⟨lw_r3, List.forall_mem_append.mpr ⟨lw_r4, List.forall_mem_append.mpr ⟨lw_r5, List.forall_mem_append.mpr ⟨lw_r6, lw_r7⟩⟩⟩⟩⟩⟩
def RX0 : String := "SupplyGrid$Bounded"
def TX0 : u_T := fun k => match k with
  | 0 => ("SupplyGrid$Bounded", "above", "J", false)
  | 1 => ("SupplyGrid$Bounded", "below", "J", false)
  | 2 => ("SupplyGrid$Bounded", "draws", "[I", true)
  | 3 => ("SupplyGrid$Bounded", "left", "[I", true)
  | _ => ("SupplyGrid$Bounded", "flow", "LSupplyGrid$Flow;", true)
def tyX0 : Nat → FieldType := fun k => match k with
  | 0 => .long
  | 1 => .long
  | 2 => .array .int
  | 3 => .array .int
  | _ => .object "SupplyGrid$Flow"
abbrev wsX00 : List Cond := u_ws RX0 TX0 5
theorem nmX0 : ∀ a, a < 5 → ∀ b, b < 5 → a ≠ b → (TX0 a).2.1 ≠ (TX0 b).2.1 := by decide +kernel
theorem tyX0_ok : ∀ k, k < 5 → parseFieldDescriptor (TX0 k).2.2.1 = some (tyX0 k) := by decide +kernel
abbrev cX0_init : ByteArray := prog_2_method_1_code
def yX0_init : MethodName := ⟨RX0, "<init>", "()V"⟩
abbrev cX0_drawAgainst : ByteArray := prog_2_method_2_code
def yX0_drawAgainst : MethodName := ⟨RX0, "drawAgainst", "(LSupplyGrid$Net;I)V"⟩
abbrev cX0_strongest : ByteArray := prog_2_method_3_code
def yX0_strongest : MethodName := ⟨RX0, "strongest", "(LSupplyGrid$Net;I)I"⟩
abbrev cX0_drawAll : ByteArray := prog_2_method_4_code
def yX0_drawAll : MethodName := ⟨RX0, "drawAll", "(LSupplyGrid$Net;I)V"⟩
def RX1 : String := "SupplyGrid$Flow"
def TX1 : u_T := fun k => match k with
  | 0 => ("SupplyGrid$Flow", "deadBits", "I", false)
  | 1 => ("SupplyGrid$Flow", "below", "J", false)
  | 2 => ("SupplyGrid$Flow", "above", "[J", true)
  | 3 => ("SupplyGrid$Flow", "score", "LSupplyGrid$Score;", true)
  | 4 => ("SupplyGrid$Flow", "size", "I", false)
  | 5 => ("SupplyGrid$Flow", "nodeOfRow", "[I", true)
  | 6 => ("SupplyGrid$Flow", "rowOfNode", "[I", true)
  | 7 => ("SupplyGrid$Flow", "rows", "[[J", true)
  | _ => ("SupplyGrid$Flow", "unit", "[I", true)
def tyX1 : Nat → FieldType := fun k => match k with
  | 0 => .int
  | 1 => .long
  | 2 => .array .long
  | 3 => .object "SupplyGrid$Score"
  | 4 => .int
  | 5 => .array .int
  | 6 => .array .int
  | 7 => .array (.array .long)
  | _ => .array .int
abbrev wsX10 : List Cond := u_ws RX1 TX1 9
theorem nmX1 : ∀ a, a < 9 → ∀ b, b < 9 → a ≠ b → (TX1 a).2.1 ≠ (TX1 b).2.1 := by decide +kernel
theorem tyX1_ok : ∀ k, k < 9 → parseFieldDescriptor (TX1 k).2.2.1 = some (tyX1 k) := by decide +kernel
abbrev cX1_init : ByteArray := prog_3_method_1_code
def yX1_init : MethodName := ⟨RX1, "<init>", "()V"⟩
abbrev cX1_settle : ByteArray := prog_3_method_2_code
def yX1_settle : MethodName := ⟨RX1, "settle", "(LSupplyGrid$Net;[II[I)V"⟩
abbrev cX1_settleUnit : ByteArray := prog_3_method_3_code
def yX1_settleUnit : MethodName := ⟨RX1, "settleUnit", "(LSupplyGrid$Net;II)V"⟩
abbrev cX1_numberRows : ByteArray := prog_3_method_4_code
def yX1_numberRows : MethodName := ⟨RX1, "numberRows", "(LSupplyGrid$Net;I)V"⟩
abbrev cX1_fillRows : ByteArray := prog_3_method_5_code
def yX1_fillRows : MethodName := ⟨RX1, "fillRows", "(LSupplyGrid$Net;[I[I)V"⟩
abbrev cX1_clearRows : ByteArray := prog_3_method_6_code
def yX1_clearRows : MethodName := ⟨RX1, "clearRows", "()V"⟩
abbrev cX1_clearRow : ByteArray := prog_3_method_7_code
def yX1_clearRow : MethodName := ⟨RX1, "clearRow", "(IIJ)V"⟩
abbrev cX1_keepScore : ByteArray := prog_3_method_8_code
def yX1_keepScore : MethodName := ⟨RX1, "keepScore", "(LSupplyGrid$Net;[I)V"⟩
abbrev cX1_isDead : ByteArray := prog_3_method_9_code
def yX1_isDead : MethodName := ⟨RX1, "isDead", "(I)Z"⟩
abbrev cX1_rise : ByteArray := prog_3_method_10_code
def yX1_rise : MethodName := ⟨RX1, "rise", "(LSupplyGrid$Net;I)J"⟩
abbrev cX1_givenBy : ByteArray := prog_3_method_11_code
def yX1_givenBy : MethodName := ⟨RX1, "givenBy", "(LSupplyGrid$Net;I)J"⟩
abbrev cX1_heatAbove : ByteArray := prog_3_method_12_code
def yX1_heatAbove : MethodName := ⟨RX1, "heatAbove", "(LSupplyGrid$Net;[II)J"⟩
abbrev cX1_wearBits : ByteArray := prog_3_method_13_code
def yX1_wearBits : MethodName := ⟨RX1, "wearBits", "(LSupplyGrid$Net;[I)I"⟩
def RX2 : String := "SupplyGrid$LoadTrials"
def TX2 : u_T := fun k => match k with
  | 0 => ("SupplyGrid$LoadTrials", "held", "I", false)
  | 1 => ("SupplyGrid$LoadTrials", "deepest", "LSupplyGrid$Score;", true)
  | 2 => ("SupplyGrid$LoadTrials", "seedNow", "J", false)
  | 3 => ("SupplyGrid$LoadTrials", "loads", "[I", true)
  | _ => ("SupplyGrid$LoadTrials", "flow", "LSupplyGrid$Flow;", true)
def tyX2 : Nat → FieldType := fun k => match k with
  | 0 => .int
  | 1 => .object "SupplyGrid$Score"
  | 2 => .long
  | 3 => .array .int
  | _ => .object "SupplyGrid$Flow"
abbrev wsX20 : List Cond := u_ws RX2 TX2 5
theorem nmX2 : ∀ a, a < 5 → ∀ b, b < 5 → a ≠ b → (TX2 a).2.1 ≠ (TX2 b).2.1 := by decide +kernel
theorem tyX2_ok : ∀ k, k < 5 → parseFieldDescriptor (TX2 k).2.2.1 = some (tyX2 k) := by decide +kernel
abbrev cX2_init : ByteArray := prog_4_method_1_code
def yX2_init : MethodName := ⟨RX2, "<init>", "()V"⟩
abbrev cX2_play : ByteArray := prog_4_method_2_code
def yX2_play : MethodName := ⟨RX2, "play", "(LSupplyGrid$Net;II)V"⟩
abbrev cX2_nextDraw : ByteArray := prog_4_method_3_code
def yX2_nextDraw : MethodName := ⟨RX2, "nextDraw", "(I)I"⟩
abbrev cX2_greatestDraw : ByteArray := prog_4_method_4_code
def yX2_greatestDraw : MethodName := ⟨RX2, "greatestDraw", "(LSupplyGrid$Net;I)I"⟩
def RX3 : String := "SupplyGrid$LossSearch"
def TX3 : u_T := fun k => match k with
  | 0 => ("SupplyGrid$LossSearch", "worstStrap", "I", false)
  | 1 => ("SupplyGrid$LossSearch", "spareBits", "I", false)
  | 2 => ("SupplyGrid$LossSearch", "pairCount", "I", false)
  | 3 => ("SupplyGrid$LossSearch", "pairCodes", "[I", true)
  | 4 => ("SupplyGrid$LossSearch", "singlesKnown", "Z", false)
  | 5 => ("SupplyGrid$LossSearch", "pairsKnown", "Z", false)
  | 6 => ("SupplyGrid$LossSearch", "widths", "[I", true)
  | 7 => ("SupplyGrid$LossSearch", "worstScore", "LSupplyGrid$Score;", true)
  | _ => ("SupplyGrid$LossSearch", "flow", "LSupplyGrid$Flow;", true)
def tyX3 : Nat → FieldType := fun k => match k with
  | 0 => .int
  | 1 => .int
  | 2 => .int
  | 3 => .array .int
  | 4 => .boolean
  | 5 => .boolean
  | 6 => .array .int
  | 7 => .object "SupplyGrid$Score"
  | _ => .object "SupplyGrid$Flow"
abbrev wsX30 : List Cond := u_ws RX3 TX3 9
theorem nmX3 : ∀ a, a < 9 → ∀ b, b < 9 → a ≠ b → (TX3 a).2.1 ≠ (TX3 b).2.1 := by decide +kernel
theorem tyX3_ok : ∀ k, k < 9 → parseFieldDescriptor (TX3 k).2.2.1 = some (tyX3 k) := by decide +kernel
abbrev cX3_init : ByteArray := prog_5_method_1_code
def yX3_init : MethodName := ⟨RX3, "<init>", "()V"⟩
abbrev cX3_forgetAll : ByteArray := prog_5_method_2_code
def yX3_forgetAll : MethodName := ⟨RX3, "forgetAll", "()V"⟩
abbrev cX3_settleWithout : ByteArray := prog_5_method_3_code
def yX3_settleWithout : MethodName := ⟨RX3, "settleWithout", "(LSupplyGrid$Net;II)V"⟩
abbrev cX3_lookSingles : ByteArray := prog_5_method_4_code
def yX3_lookSingles : MethodName := ⟨RX3, "lookSingles", "(LSupplyGrid$Net;)V"⟩
abbrev cX3_lookPairs : ByteArray := prog_5_method_5_code
def yX3_lookPairs : MethodName := ⟨RX3, "lookPairs", "(LSupplyGrid$Net;)V"⟩
abbrev cX3_tryPair : ByteArray := prog_5_method_6_code
def yX3_tryPair : MethodName := ⟨RX3, "tryPair", "(LSupplyGrid$Net;II)V"⟩
def RX4 : String := "SupplyGrid$Net"
def TX4 : u_T := fun k => match k with
  | 0 => ("SupplyGrid$Net", "columns", "I", false)
  | 1 => ("SupplyGrid$Net", "rows", "I", false)
  | 2 => ("SupplyGrid$Net", "limit", "I", false)
  | 3 => ("SupplyGrid$Net", "wear", "I", false)
  | 4 => ("SupplyGrid$Net", "lines", "I", false)
  | 5 => ("SupplyGrid$Net", "nodes", "I", false)
  | 6 => ("SupplyGrid$Net", "straps", "I", false)
  | 7 => ("SupplyGrid$Net", "padBits", "I", false)
  | 8 => ("SupplyGrid$Net", "acts", "I", false)
  | 9 => ("SupplyGrid$Net", "starts", "[I", true)
  | 10 => ("SupplyGrid$Net", "ends", "[I", true)
  | 11 => ("SupplyGrid$Net", "widths", "[I", true)
  | 12 => ("SupplyGrid$Net", "loads", "[I", true)
  | 13 => ("SupplyGrid$Net", "groups", "[I", true)
  | 14 => ("SupplyGrid$Net", "budgets", "[I", true)
  | 15 => ("SupplyGrid$Net", "kinds", "[I", true)
  | 16 => ("SupplyGrid$Net", "sites", "[I", true)
  | _ => ("SupplyGrid$Net", "answers", "[I", true)
def tyX4 : Nat → FieldType := fun k => match k with
  | 0 => .int
  | 1 => .int
  | 2 => .int
  | 3 => .int
  | 4 => .int
  | 5 => .int
  | 6 => .int
  | 7 => .int
  | 8 => .int
  | 9 => .array .int
  | 10 => .array .int
  | 11 => .array .int
  | 12 => .array .int
  | 13 => .array .int
  | 14 => .array .int
  | 15 => .array .int
  | 16 => .array .int
  | _ => .array .int
abbrev wsX40 : List Cond := u_ws RX4 TX4 18
theorem nmX4 : ∀ a, a < 18 → ∀ b, b < 18 → a ≠ b → (TX4 a).2.1 ≠ (TX4 b).2.1 := by decide +kernel
theorem tyX4_ok : ∀ k, k < 18 → parseFieldDescriptor (TX4 k).2.2.1 = some (tyX4 k) := by decide +kernel
abbrev cX4_init : ByteArray := prog_6_method_1_code
def yX4_init : MethodName := ⟨RX4, "<init>", "()V"⟩
abbrev cX4_clear : ByteArray := prog_6_method_2_code
def yX4_clear : MethodName := ⟨RX4, "clear", "()V"⟩
abbrev cX4_copyFrom : ByteArray := prog_6_method_3_code
def yX4_copyFrom : MethodName := ⟨RX4, "copyFrom", "(LSupplyGrid$Net;)V"⟩
abbrev cX4_layOut : ByteArray := prog_6_method_4_code
def yX4_layOut : MethodName := ⟨RX4, "layOut", "(III)V"⟩
abbrev cX4_addStrap : ByteArray := prog_6_method_5_code
def yX4_addStrap : MethodName := ⟨RX4, "addStrap", "(III)V"⟩
abbrev cX4_strapJoining : ByteArray := prog_6_method_6_code
def yX4_strapJoining : MethodName := ⟨RX4, "strapJoining", "(II)I"⟩
abbrev cX4_isPad : ByteArray := prog_6_method_7_code
def yX4_isPad : MethodName := ⟨RX4, "isPad", "(I)Z"⟩
abbrev cX4_spread : ByteArray := prog_6_method_8_code
def yX4_spread : MethodName := ⟨RX4, "spread", "([II)I"⟩
abbrev cX4_shiftWidths : ByteArray := prog_6_method_9_code
def yX4_shiftWidths : MethodName := ⟨RX4, "shiftWidths", "([III)V"⟩
abbrev cX4_keepAct : ByteArray := prog_6_method_10_code
def yX4_keepAct : MethodName := ⟨RX4, "keepAct", "(III)V"⟩
abbrev cX4_takeBack : ByteArray := prog_6_method_11_code
def yX4_takeBack : MethodName := ⟨RX4, "takeBack", "()V"⟩
def RX5 : String := "SupplyGrid$PadSearch"
def TX5 : u_T := fun k => match k with
  | 0 => ("SupplyGrid$PadSearch", "greedyCount", "I", false)
  | 1 => ("SupplyGrid$PadSearch", "greedy", "[I", true)
  | 2 => ("SupplyGrid$PadSearch", "setScores", "[LSupplyGrid$Score;", true)
  | 3 => ("SupplyGrid$PadSearch", "greedyKnown", "Z", false)
  | 4 => ("SupplyGrid$PadSearch", "setKnown", "[Z", true)
  | 5 => ("SupplyGrid$PadSearch", "sets", "[I", true)
  | 6 => ("SupplyGrid$PadSearch", "best", "LSupplyGrid$Score;", true)
  | _ => ("SupplyGrid$PadSearch", "flow", "LSupplyGrid$Flow;", true)
def tyX5 : Nat → FieldType := fun k => match k with
  | 0 => .int
  | 1 => .array .int
  | 2 => .array (.object "SupplyGrid$Score")
  | 3 => .boolean
  | 4 => .array .boolean
  | 5 => .array .int
  | 6 => .object "SupplyGrid$Score"
  | _ => .object "SupplyGrid$Flow"
abbrev wsX50 : List Cond := u_ws RX5 TX5 8
theorem nmX5 : ∀ a, a < 8 → ∀ b, b < 8 → a ≠ b → (TX5 a).2.1 ≠ (TX5 b).2.1 := by decide +kernel
theorem tyX5_ok : ∀ k, k < 8 → parseFieldDescriptor (TX5 k).2.2.1 = some (tyX5 k) := by decide +kernel
abbrev cX5_init : ByteArray := prog_7_method_1_code
def yX5_init : MethodName := ⟨RX5, "<init>", "()V"⟩
abbrev cX5_forgetAll : ByteArray := prog_7_method_2_code
def yX5_forgetAll : MethodName := ⟨RX5, "forgetAll", "()V"⟩
abbrev cX5_lookGreedy : ByteArray := prog_7_method_3_code
def yX5_lookGreedy : MethodName := ⟨RX5, "lookGreedy", "(LSupplyGrid$Net;)V"⟩
abbrev cX5_bestNext : ByteArray := prog_7_method_4_code
def yX5_bestNext : MethodName := ⟨RX5, "bestNext", "(LSupplyGrid$Net;I)I"⟩
abbrev cX5_bestSet : ByteArray := prog_7_method_5_code
def yX5_bestSet : MethodName := ⟨RX5, "bestSet", "(LSupplyGrid$Net;I)I"⟩
abbrev cX5_findSet : ByteArray := prog_7_method_6_code
def yX5_findSet : MethodName := ⟨RX5, "findSet", "(LSupplyGrid$Net;ILSupplyGrid$Score;)I"⟩
def RX6 : String := "SupplyGrid$Reader"
def TX6 : u_T := fun k => match k with
  | 0 => ("SupplyGrid$Reader", "size", "I", false)
  | 1 => ("SupplyGrid$Reader", "wrong", "I", false)
  | 2 => ("SupplyGrid$Reader", "wrongAt", "I", false)
  | 3 => ("SupplyGrid$Reader", "draft", "LSupplyGrid$Net;", true)
  | 4 => ("SupplyGrid$Reader", "bytes", "[I", true)
  | 5 => ("SupplyGrid$Reader", "kind", "I", false)
  | 6 => ("SupplyGrid$Reader", "first", "I", false)
  | 7 => ("SupplyGrid$Reader", "behind", "I", false)
  | 8 => ("SupplyGrid$Reader", "value", "I", false)
  | 9 => ("SupplyGrid$Reader", "x", "I", false)
  | 10 => ("SupplyGrid$Reader", "y", "I", false)
  | 11 => ("SupplyGrid$Reader", "site", "I", false)
  | _ => ("SupplyGrid$Reader", "budgetsTold", "I", false)
def tyX6 : Nat → FieldType := fun k => match k with
  | 0 => .int
  | 1 => .int
  | 2 => .int
  | 3 => .object "SupplyGrid$Net"
  | 4 => .array .int
  | 5 => .int
  | 6 => .int
  | 7 => .int
  | 8 => .int
  | 9 => .int
  | 10 => .int
  | 11 => .int
  | _ => .int
abbrev wsX60 : List Cond := u_ws RX6 TX6 13
theorem nmX6 : ∀ a, a < 13 → ∀ b, b < 13 → a ≠ b → (TX6 a).2.1 ≠ (TX6 b).2.1 := by decide +kernel
theorem tyX6_ok : ∀ k, k < 13 → parseFieldDescriptor (TX6 k).2.2.1 = some (tyX6 k) := by decide +kernel
abbrev cX6_init : ByteArray := prog_8_method_1_code
def yX6_init : MethodName := ⟨RX6, "<init>", "()V"⟩
abbrev cX6_putBytes : ByteArray := prog_8_method_2_code
def yX6_putBytes : MethodName := ⟨RX6, "putBytes", "(I)V"⟩
abbrev cX6_readText : ByteArray := prog_8_method_3_code
def yX6_readText : MethodName := ⟨RX6, "readText", "()Z"⟩
abbrev cX6_readGrid : ByteArray := prog_8_method_4_code
def yX6_readGrid : MethodName := ⟨RX6, "readGrid", "()Z"⟩
abbrev cX6_readStrap : ByteArray := prog_8_method_5_code
def yX6_readStrap : MethodName := ⟨RX6, "readStrap", "()Z"⟩
abbrev cX6_readPad : ByteArray := prog_8_method_6_code
def yX6_readPad : MethodName := ⟨RX6, "readPad", "()Z"⟩
abbrev cX6_readLoad : ByteArray := prog_8_method_7_code
def yX6_readLoad : MethodName := ⟨RX6, "readLoad", "()Z"⟩
abbrev cX6_readBudget : ByteArray := prog_8_method_8_code
def yX6_readBudget : MethodName := ⟨RX6, "readBudget", "()Z"⟩
abbrev cX6_needPlace : ByteArray := prog_8_method_9_code
def yX6_needPlace : MethodName := ⟨RX6, "needPlace", "()Z"⟩
abbrev cX6_needNumber : ByteArray := prog_8_method_10_code
def yX6_needNumber : MethodName := ⟨RX6, "needNumber", "(Ljava/lang/String;II)Z"⟩
abbrev cX6_needBounds : ByteArray := prog_8_method_11_code
def yX6_needBounds : MethodName := ⟨RX6, "needBounds", "(II)Z"⟩
abbrev cX6_needSign : ByteArray := prog_8_method_12_code
def yX6_needSign : MethodName := ⟨RX6, "needSign", "()Z"⟩
abbrev cX6_fail : ByteArray := prog_8_method_13_code
def yX6_fail : MethodName := ⟨RX6, "fail", "(I)Z"⟩
abbrev cX6_step : ByteArray := prog_8_method_14_code
def yX6_step : MethodName := ⟨RX6, "step", "()V"⟩
abbrev cX6_kindOf : ByteArray := prog_8_method_15_code
def yX6_kindOf : MethodName := ⟨RX6, "kindOf", "(I)I"⟩
abbrev cX6_isWord : ByteArray := prog_8_method_16_code
def yX6_isWord : MethodName := ⟨RX6, "isWord", "(Ljava/lang/String;)Z"⟩
def RX7 : String := "SupplyGrid$Score"
def TX7 : u_T := fun k => match k with
  | 0 => ("SupplyGrid$Score", "starved", "I", false)
  | 1 => ("SupplyGrid$Score", "above", "J", false)
  | _ => ("SupplyGrid$Score", "below", "J", false)
def tyX7 : Nat → FieldType := fun k => match k with
  | 0 => .int
  | 1 => .long
  | _ => .long
abbrev wsX70 : List Cond := u_ws RX7 TX7 3
theorem nmX7 : ∀ a, a < 3 → ∀ b, b < 3 → a ≠ b → (TX7 a).2.1 ≠ (TX7 b).2.1 := by decide +kernel
theorem tyX7_ok : ∀ k, k < 3 → parseFieldDescriptor (TX7 k).2.2.1 = some (tyX7 k) := by decide +kernel
abbrev cX7_init : ByteArray := prog_9_method_1_code
def yX7_init : MethodName := ⟨RX7, "<init>", "()V"⟩
abbrev cX7_copyFrom : ByteArray := prog_9_method_2_code
def yX7_copyFrom : MethodName := ⟨RX7, "copyFrom", "(LSupplyGrid$Score;)V"⟩
abbrev cX7_isBetterThan : ByteArray := prog_9_method_3_code
def yX7_isBetterThan : MethodName := ⟨RX7, "isBetterThan", "(LSupplyGrid$Score;)Z"⟩
abbrev cX7_isDeeperThan : ByteArray := prog_9_method_4_code
def yX7_isDeeperThan : MethodName := ⟨RX7, "isDeeperThan", "(LSupplyGrid$Score;)Z"⟩
abbrev cX7_isWithin : ByteArray := prog_9_method_5_code
def yX7_isWithin : MethodName := ⟨RX7, "isWithin", "(I)Z"⟩
def RX8 : String := "SupplyGrid$StrapSearch"
def TX8 : u_T := fun k => match k with
  | 0 => ("SupplyGrid$StrapSearch", "greedyCount", "I", false)
  | 1 => ("SupplyGrid$StrapSearch", "greedyHolds", "Z", false)
  | 2 => ("SupplyGrid$StrapSearch", "greedy", "[I", true)
  | 3 => ("SupplyGrid$StrapSearch", "leastCount", "I", false)
  | 4 => ("SupplyGrid$StrapSearch", "least", "[I", true)
  | 5 => ("SupplyGrid$StrapSearch", "slimCount", "I", false)
  | 6 => ("SupplyGrid$StrapSearch", "slimWidths", "[I", true)
  | 7 => ("SupplyGrid$StrapSearch", "greedyKnown", "Z", false)
  | 8 => ("SupplyGrid$StrapSearch", "leastKnown", "Z", false)
  | 9 => ("SupplyGrid$StrapSearch", "slimKnown", "Z", false)
  | 10 => ("SupplyGrid$StrapSearch", "widths", "[I", true)
  | 11 => ("SupplyGrid$StrapSearch", "best", "LSupplyGrid$Score;", true)
  | 12 => ("SupplyGrid$StrapSearch", "gained", "LSupplyGrid$Score;", true)
  | _ => ("SupplyGrid$StrapSearch", "flow", "LSupplyGrid$Flow;", true)
def tyX8 : Nat → FieldType := fun k => match k with
  | 0 => .int
  | 1 => .boolean
  | 2 => .array .int
  | 3 => .int
  | 4 => .array .int
  | 5 => .int
  | 6 => .array .int
  | 7 => .boolean
  | 8 => .boolean
  | 9 => .boolean
  | 10 => .array .int
  | 11 => .object "SupplyGrid$Score"
  | 12 => .object "SupplyGrid$Score"
  | _ => .object "SupplyGrid$Flow"
abbrev wsX80 : List Cond := u_ws RX8 TX8 14
theorem nmX8 : ∀ a, a < 14 → ∀ b, b < 14 → a ≠ b → (TX8 a).2.1 ≠ (TX8 b).2.1 := by decide +kernel
theorem tyX8_ok : ∀ k, k < 14 → parseFieldDescriptor (TX8 k).2.2.1 = some (tyX8 k) := by decide +kernel
abbrev cX8_init : ByteArray := prog_10_method_1_code
def yX8_init : MethodName := ⟨RX8, "<init>", "()V"⟩
abbrev cX8_forgetAll : ByteArray := prog_10_method_2_code
def yX8_forgetAll : MethodName := ⟨RX8, "forgetAll", "()V"⟩
abbrev cX8_lookGreedy : ByteArray := prog_10_method_3_code
def yX8_lookGreedy : MethodName := ⟨RX8, "lookGreedy", "(LSupplyGrid$Net;)V"⟩
abbrev cX8_lookSlim : ByteArray := prog_10_method_4_code
def yX8_lookSlim : MethodName := ⟨RX8, "lookSlim", "(LSupplyGrid$Net;)V"⟩
abbrev cX8_start : ByteArray := prog_10_method_5_code
def yX8_start : MethodName := ⟨RX8, "start", "(LSupplyGrid$Net;)V"⟩
abbrev cX8_bestChange : ByteArray := prog_10_method_6_code
def yX8_bestChange : MethodName := ⟨RX8, "bestChange", "(LSupplyGrid$Net;I)I"⟩
abbrev cX8_lookLeast : ByteArray := prog_10_method_7_code
def yX8_lookLeast : MethodName := ⟨RX8, "lookLeast", "(LSupplyGrid$Net;)V"⟩
abbrev cX8_findLeast : ByteArray := prog_10_method_8_code
def yX8_findLeast : MethodName := ⟨RX8, "findLeast", "(LSupplyGrid$Net;I)Z"⟩
abbrev cX8_holdsWider : ByteArray := prog_10_method_9_code
def yX8_holdsWider : MethodName := ⟨RX8, "holdsWider", "(LSupplyGrid$Net;I)Z"⟩
abbrev cX8_nextRising : ByteArray := prog_10_method_10_code
def yX8_nextRising : MethodName := ⟨RX8, "nextRising", "(LSupplyGrid$Net;I)Z"⟩
def RX9 : String := "SupplyGrid$Years"
def TX9 : u_T := fun k => match k with
  | 0 => ("SupplyGrid$Years", "known", "Z", false)
  | 1 => ("SupplyGrid$Years", "calm", "I", false)
  | 2 => ("SupplyGrid$Years", "firstFailed", "I", false)
  | 3 => ("SupplyGrid$Years", "widths", "[[I", true)
  | _ => ("SupplyGrid$Years", "flow", "LSupplyGrid$Flow;", true)
def tyX9 : Nat → FieldType := fun k => match k with
  | 0 => .boolean
  | 1 => .int
  | 2 => .int
  | 3 => .array (.array .int)
  | _ => .object "SupplyGrid$Flow"
abbrev wsX90 : List Cond := u_ws RX9 TX9 5
theorem nmX9 : ∀ a, a < 5 → ∀ b, b < 5 → a ≠ b → (TX9 a).2.1 ≠ (TX9 b).2.1 := by decide +kernel
theorem tyX9_ok : ∀ k, k < 5 → parseFieldDescriptor (TX9 k).2.2.1 = some (tyX9 k) := by decide +kernel
abbrev cX9_init : ByteArray := prog_11_method_1_code
def yX9_init : MethodName := ⟨RX9, "<init>", "()V"⟩
abbrev cX9_look : ByteArray := prog_11_method_2_code
def yX9_look : MethodName := ⟨RX9, "look", "(LSupplyGrid$Net;)V"⟩
def RX10 : String := "SupplyGrid"
def TX10 : u_T := fun k => match k with
  | 0 => ("SupplyGrid", "reader", "LSupplyGrid$Reader;", true)
  | 1 => ("SupplyGrid", "net", "LSupplyGrid$Net;", true)
  | 2 => ("SupplyGrid", "images", "[LSupplyGrid$Net;", true)
  | 3 => ("SupplyGrid", "kept", "[Z", true)
  | 4 => ("SupplyGrid", "present", "LSupplyGrid$Flow;", true)
  | 5 => ("SupplyGrid", "presentKnown", "Z", false)
  | 6 => ("SupplyGrid", "trial", "LSupplyGrid$Flow;", true)
  | 7 => ("SupplyGrid", "bounded", "LSupplyGrid$Bounded;", true)
  | 8 => ("SupplyGrid", "years", "LSupplyGrid$Years;", true)
  | 9 => ("SupplyGrid", "padSearch", "LSupplyGrid$PadSearch;", true)
  | 10 => ("SupplyGrid", "strapSearch", "LSupplyGrid$StrapSearch;", true)
  | 11 => ("SupplyGrid", "lossSearch", "LSupplyGrid$LossSearch;", true)
  | _ => ("SupplyGrid", "loadTrials", "LSupplyGrid$LoadTrials;", true)
def tyX10 : Nat → FieldType := fun k => match k with
  | 0 => .object "SupplyGrid$Reader"
  | 1 => .object "SupplyGrid$Net"
  | 2 => .array (.object "SupplyGrid$Net")
  | 3 => .array .boolean
  | 4 => .object "SupplyGrid$Flow"
  | 5 => .boolean
  | 6 => .object "SupplyGrid$Flow"
  | 7 => .object "SupplyGrid$Bounded"
  | 8 => .object "SupplyGrid$Years"
  | 9 => .object "SupplyGrid$PadSearch"
  | 10 => .object "SupplyGrid$StrapSearch"
  | 11 => .object "SupplyGrid$LossSearch"
  | _ => .object "SupplyGrid$LoadTrials"
abbrev wsX100 : List Cond := u_ws RX10 TX10 13
theorem nmX10 : ∀ a, a < 13 → ∀ b, b < 13 → a ≠ b → (TX10 a).2.1 ≠ (TX10 b).2.1 := by decide +kernel
theorem tyX10_ok : ∀ k, k < 13 → parseFieldDescriptor (TX10 k).2.2.1 = some (tyX10 k) := by decide +kernel
abbrev cX10_init : ByteArray := prog_1_method_1_code
def yX10_init : MethodName := ⟨RX10, "<init>", "()V"⟩
abbrev cX10_feed : ByteArray := prog_1_method_2_code
def yX10_feed : MethodName := ⟨RX10, "feed", "(IIIII)I"⟩
abbrev cX10_end : ByteArray := prog_1_method_3_code
def yX10_end : MethodName := ⟨RX10, "end", "(I)I"⟩
abbrev cX10_grid : ByteArray := prog_1_method_4_code
def yX10_grid : MethodName := ⟨RX10, "grid", "()I"⟩
abbrev cX10_fault : ByteArray := prog_1_method_5_code
def yX10_fault : MethodName := ⟨RX10, "fault", "(I)I"⟩
abbrev cX10_count : ByteArray := prog_1_method_6_code
def yX10_count : MethodName := ⟨RX10, "count", "(I)I"⟩
abbrev cX10_strap : ByteArray := prog_1_method_7_code
def yX10_strap : MethodName := ⟨RX10, "strap", "(II)I"⟩
abbrev cX10_between : ByteArray := prog_1_method_8_code
def yX10_between : MethodName := ⟨RX10, "between", "(II)I"⟩
abbrev cX10_node : ByteArray := prog_1_method_9_code
def yX10_node : MethodName := ⟨RX10, "node", "(II)I"⟩
abbrev cX10_budget : ByteArray := prog_1_method_10_code
def yX10_budget : MethodName := ⟨RX10, "budget", "(I)I"⟩
abbrev cX10_drop : ByteArray := prog_1_method_11_code
def yX10_drop : MethodName := ⟨RX10, "drop", "(II)J"⟩
abbrev cX10_through : ByteArray := prog_1_method_12_code
def yX10_through : MethodName := ⟨RX10, "through", "(II)J"⟩
abbrev cX10_gives : ByteArray := prog_1_method_13_code
def yX10_gives : MethodName := ⟨RX10, "gives", "(II)J"⟩
abbrev cX10_chief : ByteArray := prog_1_method_14_code
def yX10_chief : MethodName := ⟨RX10, "chief", "()I"⟩
abbrev cX10_area : ByteArray := prog_1_method_15_code
def yX10_area : MethodName := ⟨RX10, "area", "()I"⟩
abbrev cX10_worst : ByteArray := prog_1_method_16_code
def yX10_worst : MethodName := ⟨RX10, "worst", "()I"⟩
abbrev cX10_over : ByteArray := prog_1_method_17_code
def yX10_over : MethodName := ⟨RX10, "over", "()I"⟩
abbrev cX10_holds : ByteArray := prog_1_method_18_code
def yX10_holds : MethodName := ⟨RX10, "holds", "()I"⟩
abbrev cX10_loss : ByteArray := prog_1_method_19_code
def yX10_loss : MethodName := ⟨RX10, "loss", "(I)J"⟩
abbrev cX10_moves : ByteArray := prog_1_method_20_code
def yX10_moves : MethodName := ⟨RX10, "moves", "(III)J"⟩
abbrev cX10_resists : ByteArray := prog_1_method_21_code
def yX10_resists : MethodName := ⟨RX10, "resists", "(III)J"⟩
abbrev cX10_most : ByteArray := prog_1_method_22_code
def yX10_most : MethodName := ⟨RX10, "most", "(II)J"⟩
abbrev cX10_drawn : ByteArray := prog_1_method_23_code
def yX10_drawn : MethodName := ⟨RX10, "drawn", "(II)I"⟩
abbrev cX10_foe : ByteArray := prog_1_method_24_code
def yX10_foe : MethodName := ⟨RX10, "foe", "()I"⟩
abbrev cX10_unsafe : ByteArray := prog_1_method_25_code
def yX10_unsafe : MethodName := ⟨RX10, "\x75nsafe", "()I"⟩
abbrev cX10_tight : ByteArray := prog_1_method_26_code
def yX10_tight : MethodName := ⟨RX10, "tight", "(I)I"⟩
abbrev cX10_share : ByteArray := prog_1_method_27_code
def yX10_share : MethodName := ⟨RX10, "share", "(III)J"⟩
abbrev cX10_feeder : ByteArray := prog_1_method_28_code
def yX10_feeder : MethodName := ⟨RX10, "feeder", "(II)I"⟩
abbrev cX10_fedFrom : ByteArray := prog_1_method_29_code
def yX10_fedFrom : MethodName := ⟨RX10, "fedFrom", "(I)I"⟩
abbrev cX10_parts : ByteArray := prog_1_method_30_code
def yX10_parts : MethodName := ⟨RX10, "parts", "()I"⟩
abbrev cX10_reached : ByteArray := prog_1_method_31_code
def yX10_reached : MethodName := ⟨RX10, "reached", "(I)I"⟩
abbrev cX10_heat : ByteArray := prog_1_method_32_code
def yX10_heat : MethodName := ⟨RX10, "heat", "(II)J"⟩
abbrev cX10_hottest : ByteArray := prog_1_method_33_code
def yX10_hottest : MethodName := ⟨RX10, "hottest", "()I"⟩
abbrev cX10_wearing : ByteArray := prog_1_method_34_code
def yX10_wearing : MethodName := ⟨RX10, "wearing", "()I"⟩
abbrev cX10_aged : ByteArray := prog_1_method_35_code
def yX10_aged : MethodName := ⟨RX10, "aged", "(II)I"⟩
abbrev cX10_lasts : ByteArray := prog_1_method_36_code
def yX10_lasts : MethodName := ⟨RX10, "lasts", "()I"⟩
abbrev cX10_worn : ByteArray := prog_1_method_37_code
def yX10_worn : MethodName := ⟨RX10, "worn", "(I)I"⟩
abbrev cX10_calms : ByteArray := prog_1_method_38_code
def yX10_calms : MethodName := ⟨RX10, "calms", "()I"⟩
abbrev cX10_pad : ByteArray := prog_1_method_39_code
def yX10_pad : MethodName := ⟨RX10, "pad", "(I)I"⟩
abbrev cX10_pads : ByteArray := prog_1_method_40_code
def yX10_pads : MethodName := ⟨RX10, "pads", "(I)I"⟩
abbrev cX10_padded : ByteArray := prog_1_method_41_code
def yX10_padded : MethodName := ⟨RX10, "padded", "(II)J"⟩
abbrev cX10_enough : ByteArray := prog_1_method_42_code
def yX10_enough : MethodName := ⟨RX10, "enough", "()I"⟩
abbrev cX10_widens : ByteArray := prog_1_method_43_code
def yX10_widens : MethodName := ⟨RX10, "widens", "()I"⟩
abbrev cX10_widen : ByteArray := prog_1_method_44_code
def yX10_widen : MethodName := ⟨RX10, "widen", "(I)I"⟩
abbrev cX10_wide : ByteArray := prog_1_method_45_code
def yX10_wide : MethodName := ⟨RX10, "wide", "()I"⟩
abbrev cX10_fewest : ByteArray := prog_1_method_46_code
def yX10_fewest : MethodName := ⟨RX10, "fewest", "()I"⟩
abbrev cX10_few : ByteArray := prog_1_method_47_code
def yX10_few : MethodName := ⟨RX10, "few", "(I)I"⟩
abbrev cX10_slims : ByteArray := prog_1_method_48_code
def yX10_slims : MethodName := ⟨RX10, "slims", "()I"⟩
abbrev cX10_slim : ByteArray := prog_1_method_49_code
def yX10_slim : MethodName := ⟨RX10, "slim", "(I)I"⟩
abbrev cX10_without : ByteArray := prog_1_method_50_code
def yX10_without : MethodName := ⟨RX10, "without", "(II)J"⟩
abbrev cX10_lost : ByteArray := prog_1_method_51_code
def yX10_lost : MethodName := ⟨RX10, "lost", "(I)I"⟩
abbrev cX10_vital : ByteArray := prog_1_method_52_code
def yX10_vital : MethodName := ⟨RX10, "vital", "()I"⟩
abbrev cX10_spare : ByteArray := prog_1_method_53_code
def yX10_spare : MethodName := ⟨RX10, "spare", "()I"⟩
abbrev cX10_pairs : ByteArray := prog_1_method_54_code
def yX10_pairs : MethodName := ⟨RX10, "pairs", "()I"⟩
abbrev cX10_pair : ByteArray := prog_1_method_55_code
def yX10_pair : MethodName := ⟨RX10, "pair", "(I)I"⟩
abbrev cX10_chance : ByteArray := prog_1_method_56_code
def yX10_chance : MethodName := ⟨RX10, "chance", "(II)I"⟩
abbrev cX10_luck : ByteArray := prog_1_method_57_code
def yX10_luck : MethodName := ⟨RX10, "luck", "(III)J"⟩
abbrev cX10_room : ByteArray := prog_1_method_58_code
def yX10_room : MethodName := ⟨RX10, "room", "(I)I"⟩
abbrev cX10_lay : ByteArray := prog_1_method_59_code
def yX10_lay : MethodName := ⟨RX10, "lay", "(II)I"⟩
abbrev cX10_feeds : ByteArray := prog_1_method_60_code
def yX10_feeds : MethodName := ⟨RX10, "feeds", "(I)I"⟩
abbrev cX10_draw : ByteArray := prog_1_method_61_code
def yX10_draw : MethodName := ⟨RX10, "draw", "(II)I"⟩
abbrev cX10_year : ByteArray := prog_1_method_62_code
def yX10_year : MethodName := ⟨RX10, "year", "()I"⟩
abbrev cX10_did : ByteArray := prog_1_method_63_code
def yX10_did : MethodName := ⟨RX10, "did", "(II)I"⟩
abbrev cX10_image : ByteArray := prog_1_method_64_code
def yX10_image : MethodName := ⟨RX10, "image", "(I)I"⟩
abbrev cX10_back : ByteArray := prog_1_method_65_code
def yX10_back : MethodName := ⟨RX10, "back", "(I)I"⟩
abbrev cX10_undo : ByteArray := prog_1_method_66_code
def yX10_undo : MethodName := ⟨RX10, "undo", "()I"⟩
abbrev cX10_anew : ByteArray := prog_1_method_67_code
def yX10_anew : MethodName := ⟨RX10, "anew", "()I"⟩
abbrev cX10_noGrid : ByteArray := prog_1_method_68_code
def yX10_noGrid : MethodName := ⟨RX10, "noGrid", "()Z"⟩
abbrev cX10_hasNode : ByteArray := prog_1_method_69_code
def yX10_hasNode : MethodName := ⟨RX10, "hasNode", "(I)Z"⟩
abbrev cX10_hasStrap : ByteArray := prog_1_method_70_code
def yX10_hasStrap : MethodName := ⟨RX10, "hasStrap", "(I)Z"⟩
abbrev cX10_isPart : ByteArray := prog_1_method_71_code
def yX10_isPart : MethodName := ⟨RX10, "isPart", "(I)Z"⟩
abbrev cX10_now : ByteArray := prog_1_method_72_code
def yX10_now : MethodName := ⟨RX10, "now", "()LSupplyGrid$Flow;"⟩
abbrev cX10_forget : ByteArray := prog_1_method_73_code
def yX10_forget : MethodName := ⟨RX10, "forget", "()V"⟩
abbrev cX10_partOf : ByteArray := prog_1_method_74_code
def yX10_partOf : MethodName := ⟨RX10, "partOf", "(JJI)J"⟩
abbrev cX10_commonDivisor : ByteArray := prog_1_method_75_code
def yX10_commonDivisor : MethodName := ⟨RX10, "commonDivisor", "(JJ)J"⟩
def RX11 : String := "SupplyGridModel"
def TX11 : u_T := fun k => match k with
  | 0 => ("SupplyGridModel", "thrown", "I", false)
  | 1 => ("SupplyGridModel", "world", "[I", true)
  | 2 => ("SupplyGridModel", "fresh", "[I", true)
  | 3 => ("SupplyGridModel", "waysBack", "[I", true)
  | 4 => ("SupplyGridModel", "acts", "I", false)
  | 5 => ("SupplyGridModel", "images", "[I", true)
  | 6 => ("SupplyGridModel", "hasImage", "[Z", true)
  | 7 => ("SupplyGridModel", "endOf", "[I", true)
  | 8 => ("SupplyGridModel", "strapMany", "I", false)
  | 9 => ("SupplyGridModel", "tape", "[B", true)
  | 10 => ("SupplyGridModel", "taped", "I", false)
  | 11 => ("SupplyGridModel", "five", "[I", true)
  | 12 => ("SupplyGridModel", "size", "I", false)
  | 13 => ("SupplyGridModel", "at", "I", false)
  | 14 => ("SupplyGridModel", "from", "I", false)
  | 15 => ("SupplyGridModel", "token", "I", false)
  | 16 => ("SupplyGridModel", "value", "I", false)
  | 17 => ("SupplyGridModel", "faultKind", "I", false)
  | 18 => ("SupplyGridModel", "faultPlace", "I", false)
  | 19 => ("SupplyGridModel", "budgetsTold", "I", false)
  | 20 => ("SupplyGridModel", "loadsTold", "I", false)
  | 21 => ("SupplyGridModel", "deadSet", "I", false)
  | 22 => ("SupplyGridModel", "unknownOf", "[I", true)
  | 23 => ("SupplyGridModel", "nodeOf", "[I", true)
  | 24 => ("SupplyGridModel", "unknowns", "I", false)
  | 25 => ("SupplyGridModel", "cells", "[J", true)
  | 26 => ("SupplyGridModel", "whole", "J", false)
  | 27 => ("SupplyGridModel", "ordered", "[I", true)
  | 28 => ("SupplyGridModel", "drawnBy", "[I", true)
  | 29 => ("SupplyGridModel", "left", "[I", true)
  | 30 => ("SupplyGridModel", "aside", "[I", true)
  | 31 => ("SupplyGridModel", "bestDead", "I", false)
  | 32 => ("SupplyGridModel", "bestAbove", "J", false)
  | 33 => ("SupplyGridModel", "bestBelow", "J", false)
  | 34 => ("SupplyGridModel", "widened", "[I", true)
  | 35 => ("SupplyGridModel", "widenedMany", "I", false)
  | 36 => ("SupplyGridModel", "fewOf", "[I", true)
  | _ => ("SupplyGridModel", "drawing", "J", false)
def tyX11 : Nat → FieldType := fun k => match k with
  | 0 => .int
  | 1 => .array .int
  | 2 => .array .int
  | 3 => .array .int
  | 4 => .int
  | 5 => .array .int
  | 6 => .array .boolean
  | 7 => .array .int
  | 8 => .int
  | 9 => .array .byte
  | 10 => .int
  | 11 => .array .int
  | 12 => .int
  | 13 => .int
  | 14 => .int
  | 15 => .int
  | 16 => .int
  | 17 => .int
  | 18 => .int
  | 19 => .int
  | 20 => .int
  | 21 => .int
  | 22 => .array .int
  | 23 => .array .int
  | 24 => .int
  | 25 => .array .long
  | 26 => .long
  | 27 => .array .int
  | 28 => .array .int
  | 29 => .array .int
  | 30 => .array .int
  | 31 => .int
  | 32 => .long
  | 33 => .long
  | 34 => .array .int
  | 35 => .int
  | 36 => .array .int
  | _ => .long
abbrev wsX110 : List Cond := u_ws RX11 TX11 38
theorem nmX11 : ∀ a, a < 38 → ∀ b, b < 38 → a ≠ b → (TX11 a).2.1 ≠ (TX11 b).2.1 := by decide +kernel
theorem tyX11_ok : ∀ k, k < 38 → parseFieldDescriptor (TX11 k).2.2.1 = some (tyX11 k) := by decide +kernel
abbrev cX11_init : ByteArray := prog_13_method_1_code
def yX11_init : MethodName := ⟨RX11, "<init>", "()V"⟩
abbrev cX11_in : ByteArray := prog_13_method_3_code
def yX11_in : MethodName := ⟨RX11, "in", "(JJJ)Z"⟩
abbrev cX11_isOf : ByteArray := prog_13_method_4_code
def yX11_isOf : MethodName := ⟨RX11, "isOf", "(II)Z"⟩
abbrev cX11_bits : ByteArray := prog_13_method_5_code
def yX11_bits : MethodName := ⟨RX11, "bits", "(I)I"⟩
abbrev cX11_common : ByteArray := prog_13_method_6_code
def yX11_common : MethodName := ⟨RX11, "common", "(JJ)J"⟩
abbrev cX11_part : ByteArray := prog_13_method_7_code
def yX11_part : MethodName := ⟨RX11, "part", "(JJI)J"⟩
abbrev cX11_compares : ByteArray := prog_13_method_8_code
def yX11_compares : MethodName := ⟨RX11, "compares", "(JJJJ)I"⟩
abbrev cX11_image : ByteArray := prog_13_method_9_code
def yX11_image : MethodName := ⟨RX11, "image", "(I)I"⟩
abbrev cX11_back : ByteArray := prog_13_method_10_code
def yX11_back : MethodName := ⟨RX11, "back", "(I)I"⟩
abbrev cX11_isGrid : ByteArray := prog_13_method_11_code
def yX11_isGrid : MethodName := ⟨RX11, "isGrid", "()Z"⟩
abbrev cX11_nodesIn : ByteArray := prog_13_method_12_code
def yX11_nodesIn : MethodName := ⟨RX11, "nodesIn", "([I)I"⟩
abbrev cX11_nodes : ByteArray := prog_13_method_13_code
def yX11_nodes : MethodName := ⟨RX11, "nodes", "()I"⟩
abbrev cX11_isNode : ByteArray := prog_13_method_14_code
def yX11_isNode : MethodName := ⟨RX11, "isNode", "(I)Z"⟩
abbrev cX11_addsStrap : ByteArray := prog_13_method_15_code
def yX11_addsStrap : MethodName := ⟨RX11, "addsStrap", "(II)V"⟩
abbrev cX11_laysStraps : ByteArray := prog_13_method_16_code
def yX11_laysStraps : MethodName := ⟨RX11, "laysStraps", "(II)V"⟩
abbrev cX11_straps : ByteArray := prog_13_method_17_code
def yX11_straps : MethodName := ⟨RX11, "straps", "()I"⟩
abbrev cX11_isStrap : ByteArray := prog_13_method_18_code
def yX11_isStrap : MethodName := ⟨RX11, "isStrap", "(I)Z"⟩
abbrev cX11_strapOf : ByteArray := prog_13_method_19_code
def yX11_strapOf : MethodName := ⟨RX11, "strapOf", "(II)I"⟩
abbrev cX11_feed : ByteArray := prog_13_method_20_code
def yX11_feed : MethodName := ⟨RX11, "feed", "(IIIII)I"⟩
abbrev cX11_end : ByteArray := prog_13_method_21_code
def yX11_end : MethodName := ⟨RX11, "end", "(I)I"⟩
abbrev cX11_see : ByteArray := prog_13_method_22_code
def yX11_see : MethodName := ⟨RX11, "see", "(I)I"⟩
abbrev cX11_advance : ByteArray := prog_13_method_23_code
def yX11_advance : MethodName := ⟨RX11, "advance", "()V"⟩
abbrev cX11_good : ByteArray := prog_13_method_24_code
def yX11_good : MethodName := ⟨RX11, "good", "()Z"⟩
abbrev cX11_errs : ByteArray := prog_13_method_25_code
def yX11_errs : MethodName := ⟨RX11, "errs", "(I)V"⟩
abbrev cX11_is : ByteArray := prog_13_method_26_code
def yX11_is : MethodName := ⟨RX11, "is", "(Ljava/lang/String;)Z"⟩
abbrev cX11_expects : ByteArray := prog_13_method_27_code
def yX11_expects : MethodName := ⟨RX11, "expects", "(Ljava/lang/String;)V"⟩
abbrev cX11_takes : ByteArray := prog_13_method_28_code
def yX11_takes : MethodName := ⟨RX11, "takes", "(II)I"⟩
abbrev cX11_told : ByteArray := prog_13_method_29_code
def yX11_told : MethodName := ⟨RX11, "told", "(Ljava/lang/String;II)I"⟩
abbrev cX11_fault : ByteArray := prog_13_method_30_code
def yX11_fault : MethodName := ⟨RX11, "fault", "(I)I"⟩
abbrev cX11_readFirst : ByteArray := prog_13_method_31_code
def yX11_readFirst : MethodName := ⟨RX11, "readFirst", "()V"⟩
abbrev cX11_readPlace : ByteArray := prog_13_method_32_code
def yX11_readPlace : MethodName := ⟨RX11, "readPlace", "(I)I"⟩
abbrev cX11_readStrap : ByteArray := prog_13_method_33_code
def yX11_readStrap : MethodName := ⟨RX11, "readStrap", "()V"⟩
abbrev cX11_readLoad : ByteArray := prog_13_method_34_code
def yX11_readLoad : MethodName := ⟨RX11, "readLoad", "()V"⟩
abbrev cX11_readBudget : ByteArray := prog_13_method_35_code
def yX11_readBudget : MethodName := ⟨RX11, "readBudget", "()V"⟩
abbrev cX11_readLine : ByteArray := prog_13_method_36_code
def yX11_readLine : MethodName := ⟨RX11, "readLine", "()V"⟩
abbrev cX11_readText : ByteArray := prog_13_method_37_code
def yX11_readText : MethodName := ⟨RX11, "readText", "()V"⟩
abbrev cX11_grid : ByteArray := prog_13_method_38_code
def yX11_grid : MethodName := ⟨RX11, "grid", "()I"⟩
abbrev cX11_comesTo : ByteArray := prog_13_method_39_code
def yX11_comesTo : MethodName := ⟨RX11, "comesTo", "(I)I"⟩
abbrev cX11_laysCells : ByteArray := prog_13_method_40_code
def yX11_laysCells : MethodName := ⟨RX11, "laysCells", "()V"⟩
abbrev cX11_brings : ByteArray := prog_13_method_41_code
def yX11_brings : MethodName := ⟨RX11, "brings", "()V"⟩
abbrev cX11_solves : ByteArray := prog_13_method_42_code
def yX11_solves : MethodName := ⟨RX11, "solves", "(I)V"⟩
abbrev cX11_lays : ByteArray := prog_13_method_43_code
def yX11_lays : MethodName := ⟨RX11, "lays", "()V"⟩
abbrev cX11_isDead : ByteArray := prog_13_method_44_code
def yX11_isDead : MethodName := ⟨RX11, "isDead", "(I)Z"⟩
abbrev cX11_movesOf : ByteArray := prog_13_method_45_code
def yX11_movesOf : MethodName := ⟨RX11, "movesOf", "(II)J"⟩
abbrev cX11_dropOf : ByteArray := prog_13_method_46_code
def yX11_dropOf : MethodName := ⟨RX11, "dropOf", "(I)J"⟩
abbrev cX11_mostDrop : ByteArray := prog_13_method_47_code
def yX11_mostDrop : MethodName := ⟨RX11, "mostDrop", "()J"⟩
abbrev cX11_deadLoads : ByteArray := prog_13_method_48_code
def yX11_deadLoads : MethodName := ⟨RX11, "deadLoads", "()I"⟩
abbrev cX11_doesHold : ByteArray := prog_13_method_49_code
def yX11_doesHold : MethodName := ⟨RX11, "doesHold", "()Z"⟩
abbrev cX11_asks : ByteArray := prog_13_method_50_code
def yX11_asks : MethodName := ⟨RX11, "asks", "()Z"⟩
abbrev cX11_isPart : ByteArray := prog_13_method_51_code
def yX11_isPart : MethodName := ⟨RX11, "isPart", "(I)Z"⟩
abbrev cX11_count : ByteArray := prog_13_method_52_code
def yX11_count : MethodName := ⟨RX11, "count", "(I)I"⟩
abbrev cX11_strap : ByteArray := prog_13_method_53_code
def yX11_strap : MethodName := ⟨RX11, "strap", "(II)I"⟩
abbrev cX11_between : ByteArray := prog_13_method_54_code
def yX11_between : MethodName := ⟨RX11, "between", "(II)I"⟩
abbrev cX11_node : ByteArray := prog_13_method_55_code
def yX11_node : MethodName := ⟨RX11, "node", "(II)I"⟩
abbrev cX11_budget : ByteArray := prog_13_method_56_code
def yX11_budget : MethodName := ⟨RX11, "budget", "(I)I"⟩
abbrev cX11_drop : ByteArray := prog_13_method_57_code
def yX11_drop : MethodName := ⟨RX11, "drop", "(II)J"⟩
abbrev cX11_throughOf : ByteArray := prog_13_method_58_code
def yX11_throughOf : MethodName := ⟨RX11, "throughOf", "(I)J"⟩
abbrev cX11_through : ByteArray := prog_13_method_59_code
def yX11_through : MethodName := ⟨RX11, "through", "(II)J"⟩
abbrev cX11_chief : ByteArray := prog_13_method_60_code
def yX11_chief : MethodName := ⟨RX11, "chief", "()I"⟩
abbrev cX11_area : ByteArray := prog_13_method_61_code
def yX11_area : MethodName := ⟨RX11, "area", "()I"⟩
abbrev cX11_gives : ByteArray := prog_13_method_62_code
def yX11_gives : MethodName := ⟨RX11, "gives", "(II)J"⟩
abbrev cX11_givesOf : ByteArray := prog_13_method_63_code
def yX11_givesOf : MethodName := ⟨RX11, "givesOf", "(I)J"⟩
abbrev cX11_worst : ByteArray := prog_13_method_64_code
def yX11_worst : MethodName := ⟨RX11, "worst", "()I"⟩
abbrev cX11_over : ByteArray := prog_13_method_65_code
def yX11_over : MethodName := ⟨RX11, "over", "()I"⟩
abbrev cX11_holds : ByteArray := prog_13_method_66_code
def yX11_holds : MethodName := ⟨RX11, "holds", "()I"⟩
abbrev cX11_loss : ByteArray := prog_13_method_67_code
def yX11_loss : MethodName := ⟨RX11, "loss", "(I)J"⟩
abbrev cX11_moves : ByteArray := prog_13_method_68_code
def yX11_moves : MethodName := ⟨RX11, "moves", "(III)J"⟩
abbrev cX11_resists : ByteArray := prog_13_method_69_code
def yX11_resists : MethodName := ⟨RX11, "resists", "(III)J"⟩
abbrev cX11_share : ByteArray := prog_13_method_70_code
def yX11_share : MethodName := ⟨RX11, "share", "(III)J"⟩
abbrev cX11_comesBy : ByteArray := prog_13_method_71_code
def yX11_comesBy : MethodName := ⟨RX11, "comesBy", "(II)J"⟩
abbrev cX11_feederOf : ByteArray := prog_13_method_72_code
def yX11_feederOf : MethodName := ⟨RX11, "feederOf", "(I)I"⟩
abbrev cX11_feeder : ByteArray := prog_13_method_73_code
def yX11_feeder : MethodName := ⟨RX11, "feeder", "(II)I"⟩
abbrev cX11_parts : ByteArray := prog_13_method_74_code
def yX11_parts : MethodName := ⟨RX11, "parts", "()I"⟩
abbrev cX11_reached : ByteArray := prog_13_method_75_code
def yX11_reached : MethodName := ⟨RX11, "reached", "(I)I"⟩
abbrev cX11_isAhead : ByteArray := prog_13_method_76_code
def yX11_isAhead : MethodName := ⟨RX11, "isAhead", "(III)Z"⟩
abbrev cX11_draws : ByteArray := prog_13_method_77_code
def yX11_draws : MethodName := ⟨RX11, "draws", "(I)V"⟩
abbrev cX11_mostOf : ByteArray := prog_13_method_78_code
def yX11_mostOf : MethodName := ⟨RX11, "mostOf", "(I)J"⟩
abbrev cX11_most : ByteArray := prog_13_method_79_code
def yX11_most : MethodName := ⟨RX11, "most", "(II)J"⟩
abbrev cX11_drawn : ByteArray := prog_13_method_80_code
def yX11_drawn : MethodName := ⟨RX11, "drawn", "(II)I"⟩
abbrev cX11_tight : ByteArray := prog_13_method_81_code
def yX11_tight : MethodName := ⟨RX11, "tight", "(I)I"⟩
abbrev cX11_foe : ByteArray := prog_13_method_82_code
def yX11_foe : MethodName := ⟨RX11, "foe", "()I"⟩
abbrev cX11_unsafe : ByteArray := prog_13_method_83_code
def yX11_unsafe : MethodName := ⟨RX11, "\x75nsafe", "()I"⟩
abbrev cX11_heatOf : ByteArray := prog_13_method_84_code
def yX11_heatOf : MethodName := ⟨RX11, "heatOf", "(I)J"⟩
abbrev cX11_heat : ByteArray := prog_13_method_85_code
def yX11_heat : MethodName := ⟨RX11, "heat", "(II)J"⟩
abbrev cX11_hottest : ByteArray := prog_13_method_86_code
def yX11_hottest : MethodName := ⟨RX11, "hottest", "()I"⟩
abbrev cX11_wears : ByteArray := prog_13_method_87_code
def yX11_wears : MethodName := ⟨RX11, "wears", "()I"⟩
abbrev cX11_wearing : ByteArray := prog_13_method_88_code
def yX11_wearing : MethodName := ⟨RX11, "wearing", "()I"⟩
abbrev cX11_ages : ByteArray := prog_13_method_89_code
def yX11_ages : MethodName := ⟨RX11, "ages", "()I"⟩
abbrev cX11_puts : ByteArray := prog_13_method_90_code
def yX11_puts : MethodName := ⟨RX11, "puts", "()V"⟩
abbrev cX11_takesOut : ByteArray := prog_13_method_91_code
def yX11_takesOut : MethodName := ⟨RX11, "takesOut", "()V"⟩
abbrev cX11_aged : ByteArray := prog_13_method_92_code
def yX11_aged : MethodName := ⟨RX11, "aged", "(II)I"⟩
abbrev cX11_lasts : ByteArray := prog_13_method_93_code
def yX11_lasts : MethodName := ⟨RX11, "lasts", "()I"⟩
abbrev cX11_worn : ByteArray := prog_13_method_94_code
def yX11_worn : MethodName := ⟨RX11, "worn", "(I)I"⟩
abbrev cX11_calms : ByteArray := prog_13_method_95_code
def yX11_calms : MethodName := ⟨RX11, "calms", "()I"⟩
abbrev cX11_scores : ByteArray := prog_13_method_96_code
def yX11_scores : MethodName := ⟨RX11, "scores", "()I"⟩
abbrev cX11_keeps : ByteArray := prog_13_method_97_code
def yX11_keeps : MethodName := ⟨RX11, "keeps", "()V"⟩
abbrev cX11_beginsWith : ByteArray := prog_13_method_98_code
def yX11_beginsWith : MethodName := ⟨RX11, "beginsWith", "()V"⟩
abbrev cX11_beginsWithout : ByteArray := prog_13_method_99_code
def yX11_beginsWithout : MethodName := ⟨RX11, "beginsWithout", "()V"⟩
abbrev cX11_nextPad : ByteArray := prog_13_method_100_code
def yX11_nextPad : MethodName := ⟨RX11, "nextPad", "()I"⟩
abbrev cX11_pad : ByteArray := prog_13_method_101_code
def yX11_pad : MethodName := ⟨RX11, "pad", "(I)I"⟩
abbrev cX11_bestPads : ByteArray := prog_13_method_102_code
def yX11_bestPads : MethodName := ⟨RX11, "bestPads", "(I)I"⟩
abbrev cX11_pads : ByteArray := prog_13_method_103_code
def yX11_pads : MethodName := ⟨RX11, "pads", "(I)I"⟩
abbrev cX11_padded : ByteArray := prog_13_method_104_code
def yX11_padded : MethodName := ⟨RX11, "padded", "(II)J"⟩
abbrev cX11_enough : ByteArray := prog_13_method_105_code
def yX11_enough : MethodName := ⟨RX11, "enough", "()I"⟩
abbrev cX11_nextWider : ByteArray := prog_13_method_106_code
def yX11_nextWider : MethodName := ⟨RX11, "nextWider", "()I"⟩
abbrev cX11_widensAll : ByteArray := prog_13_method_107_code
def yX11_widensAll : MethodName := ⟨RX11, "widensAll", "()V"⟩
abbrev cX11_laysWidened : ByteArray := prog_13_method_108_code
def yX11_laysWidened : MethodName := ⟨RX11, "laysWidened", "()Z"⟩
abbrev cX11_widens : ByteArray := prog_13_method_109_code
def yX11_widens : MethodName := ⟨RX11, "widens", "()I"⟩
abbrev cX11_widen : ByteArray := prog_13_method_110_code
def yX11_widen : MethodName := ⟨RX11, "widen", "(I)I"⟩
abbrev cX11_wide : ByteArray := prog_13_method_111_code
def yX11_wide : MethodName := ⟨RX11, "wide", "()I"⟩
abbrev cX11_does : ByteArray := prog_13_method_112_code
def yX11_does : MethodName := ⟨RX11, "does", "(III)Z"⟩
abbrev cX11_fewestOf : ByteArray := prog_13_method_113_code
def yX11_fewestOf : MethodName := ⟨RX11, "fewestOf", "()I"⟩
abbrev cX11_fewest : ByteArray := prog_13_method_114_code
def yX11_fewest : MethodName := ⟨RX11, "fewest", "()I"⟩
abbrev cX11_few : ByteArray := prog_13_method_115_code
def yX11_few : MethodName := ⟨RX11, "few", "(I)I"⟩
abbrev cX11_nextSlim : ByteArray := prog_13_method_116_code
def yX11_nextSlim : MethodName := ⟨RX11, "nextSlim", "()I"⟩
abbrev cX11_slimsAll : ByteArray := prog_13_method_117_code
def yX11_slimsAll : MethodName := ⟨RX11, "slimsAll", "()I"⟩
abbrev cX11_slims : ByteArray := prog_13_method_118_code
def yX11_slims : MethodName := ⟨RX11, "slims", "()I"⟩
abbrev cX11_slim : ByteArray := prog_13_method_119_code
def yX11_slim : MethodName := ⟨RX11, "slim", "(I)I"⟩
abbrev cX11_holdsWithout : ByteArray := prog_13_method_120_code
def yX11_holdsWithout : MethodName := ⟨RX11, "holdsWithout", "(II)Z"⟩
abbrev cX11_isPair : ByteArray := prog_13_method_121_code
def yX11_isPair : MethodName := ⟨RX11, "isPair", "(II)Z"⟩
abbrev cX11_pairBy : ByteArray := prog_13_method_122_code
def yX11_pairBy : MethodName := ⟨RX11, "pairBy", "(I)I"⟩
abbrev cX11_pairs : ByteArray := prog_13_method_123_code
def yX11_pairs : MethodName := ⟨RX11, "pairs", "()I"⟩
abbrev cX11_pair : ByteArray := prog_13_method_124_code
def yX11_pair : MethodName := ⟨RX11, "pair", "(I)I"⟩
abbrev cX11_draws1 : ByteArray := prog_13_method_125_code
def yX11_draws1 : MethodName := ⟨RX11, "draws1", "(I)I"⟩
abbrev cX11_tries : ByteArray := prog_13_method_126_code
def yX11_tries : MethodName := ⟨RX11, "tries", "(II)I"⟩
abbrev cX11_chance : ByteArray := prog_13_method_127_code
def yX11_chance : MethodName := ⟨RX11, "chance", "(II)I"⟩
abbrev cX11_luck : ByteArray := prog_13_method_128_code
def yX11_luck : MethodName := ⟨RX11, "luck", "(III)J"⟩
abbrev cX11_without : ByteArray := prog_13_method_129_code
def yX11_without : MethodName := ⟨RX11, "without", "(II)J"⟩
abbrev cX11_lost : ByteArray := prog_13_method_130_code
def yX11_lost : MethodName := ⟨RX11, "lost", "(I)I"⟩
abbrev cX11_vital : ByteArray := prog_13_method_131_code
def yX11_vital : MethodName := ⟨RX11, "vital", "()I"⟩
abbrev cX11_spare : ByteArray := prog_13_method_132_code
def yX11_spare : MethodName := ⟨RX11, "spare", "()I"⟩
abbrev cX11_room : ByteArray := prog_13_method_133_code
def yX11_room : MethodName := ⟨RX11, "room", "(I)I"⟩
abbrev cX11_isFull : ByteArray := prog_13_method_134_code
def yX11_isFull : MethodName := ⟨RX11, "isFull", "()Z"⟩
abbrev cX11_remembers : ByteArray := prog_13_method_135_code
def yX11_remembers : MethodName := ⟨RX11, "remembers", "(II)V"⟩
abbrev cX11_did : ByteArray := prog_13_method_136_code
def yX11_did : MethodName := ⟨RX11, "did", "(II)I"⟩
abbrev cX11_lay : ByteArray := prog_13_method_137_code
def yX11_lay : MethodName := ⟨RX11, "lay", "(II)I"⟩
abbrev cX11_feeds : ByteArray := prog_13_method_138_code
def yX11_feeds : MethodName := ⟨RX11, "feeds", "(I)I"⟩
abbrev cX11_draw : ByteArray := prog_13_method_139_code
def yX11_draw : MethodName := ⟨RX11, "draw", "(II)I"⟩
abbrev cX11_year : ByteArray := prog_13_method_140_code
def yX11_year : MethodName := ⟨RX11, "year", "()I"⟩
abbrev cX11_takesBack : ByteArray := prog_13_method_141_code
def yX11_takesBack : MethodName := ⟨RX11, "takesBack", "()V"⟩
abbrev cX11_undo : ByteArray := prog_13_method_142_code
def yX11_undo : MethodName := ⟨RX11, "undo", "()I"⟩
abbrev cX11_anew : ByteArray := prog_13_method_143_code
def yX11_anew : MethodName := ⟨RX11, "anew", "()I"⟩
def RJx145de : String := "java/io/Serializable"
def TJx145de : u_T := fun k => match k with
  | _ => ("", "", "", false)
def tyJx145de : Nat → FieldType := fun k => match k with
  | _ => .int
abbrev wsJx145de0 : List Cond := u_ws RJx145de TJx145de 0
theorem nmJx145de : ∀ a, a < 0 → ∀ b, b < 0 → a ≠ b → (TJx145de a).2.1 ≠ (TJx145de b).2.1 := by decide +kernel
theorem tyJx145de_ok : ∀ k, k < 0 → parseFieldDescriptor (TJx145de k).2.2.1 = some (tyJx145de k) := by decide +kernel
def RJx9f9b0 : String := "java/lang/CharSequence"
def TJx9f9b0 : u_T := fun k => match k with
  | _ => ("", "", "", false)
def tyJx9f9b0 : Nat → FieldType := fun k => match k with
  | _ => .int
abbrev wsJx9f9b00 : List Cond := u_ws RJx9f9b0 TJx9f9b0 0
theorem nmJx9f9b0 : ∀ a, a < 0 → ∀ b, b < 0 → a ≠ b → (TJx9f9b0 a).2.1 ≠ (TJx9f9b0 b).2.1 := by decide +kernel
theorem tyJx9f9b0_ok : ∀ k, k < 0 → parseFieldDescriptor (TJx9f9b0 k).2.2.1 = some (tyJx9f9b0 k) := by decide +kernel
def RJxb160c : String := "java/lang/Comparable"
def TJxb160c : u_T := fun k => match k with
  | _ => ("", "", "", false)
def tyJxb160c : Nat → FieldType := fun k => match k with
  | _ => .int
abbrev wsJxb160c0 : List Cond := u_ws RJxb160c TJxb160c 0
theorem nmJxb160c : ∀ a, a < 0 → ∀ b, b < 0 → a ≠ b → (TJxb160c a).2.1 ≠ (TJxb160c b).2.1 := by decide +kernel
theorem tyJxb160c_ok : ∀ k, k < 0 → parseFieldDescriptor (TJxb160c k).2.2.1 = some (tyJxb160c k) := by decide +kernel
def RJ6 : String := "java/lang/Integer"
def TJ6 : u_T := fun k => match k with
  | _ => ("", "", "", false)
def tyJ6 : Nat → FieldType := fun k => match k with
  | _ => .int
abbrev wsJ60 : List Cond := u_ws RJ6 TJ6 0
theorem nmJ6 : ∀ a, a < 0 → ∀ b, b < 0 → a ≠ b → (TJ6 a).2.1 ≠ (TJ6 b).2.1 := by decide +kernel
theorem tyJ6_ok : ∀ k, k < 0 → parseFieldDescriptor (TJ6 k).2.2.1 = some (tyJ6 k) := by decide +kernel
abbrev cJ6_bitCount_0f7a4 : ByteArray := prog_14_method_49_code
def yJ6_bitCount_0f7a4 : MethodName := ⟨RJ6, "bitCount", "(I)I"⟩
def RJ9 : String := "java/lang/Math"
def TJ9 : u_T := fun k => match k with
  | _ => ("", "", "", false)
def tyJ9 : Nat → FieldType := fun k => match k with
  | _ => .int
abbrev wsJ90 : List Cond := u_ws RJ9 TJ9 0
theorem nmJ9 : ∀ a, a < 0 → ∀ b, b < 0 → a ≠ b → (TJ9 a).2.1 ≠ (TJ9 b).2.1 := by decide +kernel
theorem tyJ9_ok : ∀ k, k < 0 → parseFieldDescriptor (TJ9 k).2.2.1 = some (tyJ9 k) := by decide +kernel
abbrev cJ9_abs_067f4 : ByteArray := prog_15_method_61_code
def yJ9_abs_067f4 : MethodName := ⟨RJ9, "abs", "(J)J"⟩
abbrev cJ9_max_7cf53 : ByteArray := prog_15_method_65_code
def yJ9_max_7cf53 : MethodName := ⟨RJ9, "max", "(II)I"⟩
abbrev cJ9_max_f86c9 : ByteArray := prog_15_method_66_code
def yJ9_max_f86c9 : MethodName := ⟨RJ9, "max", "(JJ)J"⟩
abbrev cJ9_min_7cf53 : ByteArray := prog_15_method_69_code
def yJ9_min_7cf53 : MethodName := ⟨RJ9, "min", "(II)I"⟩
def RJ0 : String := "java/lang/String"
def TJ0 : u_T := fun k => match k with
  | _ => ("", "", "", false)
def tyJ0 : Nat → FieldType := fun k => match k with
  | _ => .int
abbrev wsJ00 : List Cond := u_ws RJ0 TJ0 0
theorem nmJ0 : ∀ a, a < 0 → ∀ b, b < 0 → a ≠ b → (TJ0 a).2.1 ≠ (TJ0 b).2.1 := by decide +kernel
theorem tyJ0_ok : ∀ k, k < 0 → parseFieldDescriptor (TJ0 k).2.2.1 = some (tyJ0 k) := by decide +kernel
abbrev cJ0_length_8abf5 : ByteArray := prog_16_method_54_code
def yJ0_length_8abf5 : MethodName := ⟨RJ0, "length", "()I"⟩
abbrev cJ0_charAt_5068e : ByteArray := prog_16_method_56_code
def yJ0_charAt_5068e : MethodName := ⟨RJ0, "charAt", "(I)C"⟩
abbrev cJ0_coder_7d493 : ByteArray := prog_16_method_152_code
def yJ0_coder_7d493 : MethodName := ⟨RJ0, "coder", "()B"⟩
abbrev cJ0_isLatin1_aae02 : ByteArray := prog_16_method_154_code
def yJ0_isLatin1_aae02 : MethodName := ⟨RJ0, "isLatin1", "()Z"⟩
abbrev cJ0_checkIndex_df160 : ByteArray := prog_16_method_155_code
def yJ0_checkIndex_df160 : MethodName := ⟨RJ0, "checkIndex", "(II)V"⟩
def RJ1 : String := "java/lang/StringLatin1"
def TJ1 : u_T := fun k => match k with
  | _ => ("", "", "", false)
def tyJ1 : Nat → FieldType := fun k => match k with
  | _ => .int
abbrev wsJ10 : List Cond := u_ws RJ1 TJ1 0
theorem nmJ1 : ∀ a, a < 0 → ∀ b, b < 0 → a ≠ b → (TJ1 a).2.1 ≠ (TJ1 b).2.1 := by decide +kernel
theorem tyJ1_ok : ∀ k, k < 0 → parseFieldDescriptor (TJ1 k).2.2.1 = some (tyJ1 k) := by decide +kernel
abbrev cJ1_charAt_3b067 : ByteArray := prog_17_method_2_code
def yJ1_charAt_3b067 : MethodName := ⟨RJ1, "charAt", "([BI)C"⟩
def RJ2 : String := "java/lang/StringUTF16"
def TJ2 : u_T := fun k => match k with
  | _ => ("", "", "", false)
def tyJ2 : Nat → FieldType := fun k => match k with
  | _ => .int
abbrev wsJ20 : List Cond := u_ws RJ2 TJ2 0
theorem nmJ2 : ∀ a, a < 0 → ∀ b, b < 0 → a ≠ b → (TJ2 a).2.1 ≠ (TJ2 b).2.1 := by decide +kernel
theorem tyJ2_ok : ∀ k, k < 0 → parseFieldDescriptor (TJ2 k).2.2.1 = some (tyJ2 k) := by decide +kernel
abbrev cJ2_getChar_3b067 : ByteArray := prog_18_method_5_code
def yJ2_getChar_3b067 : MethodName := ⟨RJ2, "getChar", "([BI)C"⟩
abbrev cJ2_length_9d52b : ByteArray := prog_18_method_6_code
def yJ2_length_9d52b : MethodName := ⟨RJ2, "length", "([B)I"⟩
abbrev cJ2_charAt_3b067 : ByteArray := prog_18_method_83_code
def yJ2_charAt_3b067 : MethodName := ⟨RJ2, "charAt", "([BI)C"⟩
abbrev cJ2_checkIndex_2214a : ByteArray := prog_18_method_91_code
def yJ2_checkIndex_2214a : MethodName := ⟨RJ2, "checkIndex", "(I[B)V"⟩
def RJ10 : String := "java/lang/System"
def TJ10 : u_T := fun k => match k with
  | _ => ("", "", "", false)
def tyJ10 : Nat → FieldType := fun k => match k with
  | _ => .int
abbrev wsJ100 : List Cond := u_ws RJ10 TJ10 0
theorem nmJ10 : ∀ a, a < 0 → ∀ b, b < 0 → a ≠ b → (TJ10 a).2.1 ≠ (TJ10 b).2.1 := by decide +kernel
theorem tyJ10_ok : ∀ k, k < 0 → parseFieldDescriptor (TJ10 k).2.2.1 = some (tyJ10 k) := by decide +kernel
def RJxfd54e : String := "java/lang/constant/Constable"
def TJxfd54e : u_T := fun k => match k with
  | _ => ("", "", "", false)
def tyJxfd54e : Nat → FieldType := fun k => match k with
  | _ => .int
abbrev wsJxfd54e0 : List Cond := u_ws RJxfd54e TJxfd54e 0
theorem nmJxfd54e : ∀ a, a < 0 → ∀ b, b < 0 → a ≠ b → (TJxfd54e a).2.1 ≠ (TJxfd54e b).2.1 := by decide +kernel
theorem tyJxfd54e_ok : ∀ k, k < 0 → parseFieldDescriptor (TJxfd54e k).2.2.1 = some (tyJxfd54e k) := by decide +kernel
def RJx3cf43 : String := "java/lang/constant/ConstantDesc"
def TJx3cf43 : u_T := fun k => match k with
  | _ => ("", "", "", false)
def tyJx3cf43 : Nat → FieldType := fun k => match k with
  | _ => .int
abbrev wsJx3cf430 : List Cond := u_ws RJx3cf43 TJx3cf43 0
theorem nmJx3cf43 : ∀ a, a < 0 → ∀ b, b < 0 → a ≠ b → (TJx3cf43 a).2.1 ≠ (TJx3cf43 b).2.1 := by decide +kernel
theorem tyJx3cf43_ok : ∀ k, k < 0 → parseFieldDescriptor (TJx3cf43 k).2.2.1 = some (tyJx3cf43 k) := by decide +kernel
def RJ7 : String := "java/util/Arrays"
def TJ7 : u_T := fun k => match k with
  | _ => ("", "", "", false)
def tyJ7 : Nat → FieldType := fun k => match k with
  | _ => .int
abbrev wsJ70 : List Cond := u_ws RJ7 TJ7 0
theorem nmJ7 : ∀ a, a < 0 → ∀ b, b < 0 → a ≠ b → (TJ7 a).2.1 ≠ (TJ7 b).2.1 := by decide +kernel
theorem tyJ7_ok : ∀ k, k < 0 → parseFieldDescriptor (TJ7 k).2.2.1 = some (tyJ7 k) := by decide +kernel
abbrev cJ7_fill_d0a16 : ByteArray := prog_20_method_101_code
def yJ7_fill_d0a16 : MethodName := ⟨RJ7, "fill", "([JJ)V"⟩
abbrev cJ7_fill_53178 : ByteArray := prog_20_method_103_code
def yJ7_fill_53178 : MethodName := ⟨RJ7, "fill", "([II)V"⟩
def RJ3 : String := "jdk/internal/util/Preconditions"
def TJ3 : u_T := fun k => match k with
  | _ => ("", "", "", false)
def tyJ3 : Nat → FieldType := fun k => match k with
  | _ => .int
abbrev wsJ30 : List Cond := u_ws RJ3 TJ3 0
theorem nmJ3 : ∀ a, a < 0 → ∀ b, b < 0 → a ≠ b → (TJ3 a).2.1 ≠ (TJ3 b).2.1 := by decide +kernel
theorem tyJ3_ok : ∀ k, k < 0 → parseFieldDescriptor (TJ3 k).2.2.1 = some (tyJ3 k) := by decide +kernel
abbrev cJ3_checkIndex_8e157 : ByteArray := prog_21_method_11_code
def yJ3_checkIndex_8e157 : MethodName := ⟨RJ3, "checkIndex", "(IILjava/util/function/BiFunction;)I"⟩
def RL : String := "SupplyGridLaw"
abbrev cL_law : ByteArray := code
abbrev vwCl : List vw_C := [(RX0, TX0, 5), (RX1, TX1, 9), (RX2, TX2, 5), (RX3, TX3, 9), (RX4, TX4, 18), (RX5, TX5, 8), (RX6, TX6, 13), (RX7, TX7, 3), (RX8, TX8, 14), (RX9, TX9, 5), (RX10, TX10, 13), (RX11, TX11, 38)]
theorem sg_in {ws : List Cond} (ix : List Nat) (h : ws.map some = ix.map (fun i => tables_1[i]?)) : ∀ w ∈ ws, w ∈ lw_tbl := by
  intro w hw
  have h1 : some w ∈ ix.map (fun i => tables_1[i]?) := by rw [← h]; exact List.mem_map_of_mem hw
  obtain ⟨i, -, hi⟩ := List.mem_map.mp h1
  exact List.mem_append_right _ (List.mem_of_getElem? hi)
theorem inX0 : ∀ w ∈ u_ws RX0 TX0 5, w ∈ lw_tbl := sg_in [296, 298, 300, 302, 304] (by decide +kernel)
theorem inX1 : ∀ w ∈ u_ws RX1 TX1 9, w ∈ lw_tbl := sg_in [260, 262, 264, 266, 268, 270, 272, 274, 276] (by decide +kernel)
theorem inX2 : ∀ w ∈ u_ws RX2 TX2 5, w ∈ lw_tbl := sg_in [496, 498, 500, 502, 504] (by decide +kernel)
theorem inX3 : ∀ w ∈ u_ws RX3 TX3 9, w ∈ lw_tbl := sg_in [460, 462, 464, 466, 468, 470, 472, 474, 476] (by decide +kernel)
theorem inX4 : ∀ w ∈ u_ws RX4 TX4 18, w ∈ lw_tbl := sg_in [121, 123, 125, 127, 129, 131, 133, 135, 137, 139, 141, 143, 145, 147, 149, 151, 153, 155] (by decide +kernel)
theorem inX5 : ∀ w ∈ u_ws RX5 TX5 8, w ∈ lw_tbl := sg_in [359, 361, 363, 365, 367, 369, 371, 373] (by decide +kernel)
theorem inX6 : ∀ w ∈ u_ws RX6 TX6 13, w ∈ lw_tbl := sg_in [176, 178, 180, 182, 184, 186, 188, 190, 192, 194, 196, 198, 200] (by decide +kernel)
theorem inX7 : ∀ w ∈ u_ws RX7 TX7 3, w ∈ lw_tbl := sg_in [228, 230, 232] (by decide +kernel)
theorem inX8 : ∀ w ∈ u_ws RX8 TX8 14, w ∈ lw_tbl := sg_in [407, 409, 411, 413, 415, 417, 419, 421, 423, 425, 427, 429, 431, 433] (by decide +kernel)
theorem inX9 : ∀ w ∈ u_ws RX9 TX9 5, w ∈ lw_tbl := sg_in [326, 328, 330, 332, 334] (by decide +kernel)
theorem inX10 : ∀ w ∈ u_ws RX10 TX10 13, w ∈ lw_tbl := sg_in [520, 522, 524, 526, 528, 530, 532, 534, 536, 538, 540, 542, 544] (by decide +kernel)
theorem inX11 : ∀ w ∈ u_ws RX11 TX11 38, w ∈ lw_tbl := sg_in [1287, 1289, 1291, 1293, 1295, 1297, 1299, 1301, 1303, 1305, 1307, 1309, 1311, 1313, 1315, 1317, 1319, 1321, 1323, 1325, 1327, 1329, 1331, 1333, 1335, 1337, 1339, 1341, 1343, 1345, 1347, 1349, 1351, 1353, 1355, 1357, 1359, 1361] (by decide +kernel)
