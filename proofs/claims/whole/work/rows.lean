section
-- ===== PART A: goes FIRST, ahead of the names: the tables' words, and 'selects' of the private methods out of them =====
/-- a private method of a class that the tables say can be made, by its rows of tables_1 -/
def lw_okq (q : MethodName × Nat) : Prop := (q.1.cls ≠ "java/lang/invoke/MethodHandle" ∧ q.1.cls ≠ "java/lang/invoke/VarHandle") ∧ Cond.instantiable q.1.cls q.2 ∈ tables_1 ∧ Cond.privateMethod q.1 ∈ tables_1 ∧ Cond.instanceMethod q.1 ∈ tables_1
theorem lw_p0 : lw_okq (⟨"QuarryOrders$History", "nextRow", "()[I"⟩, 3) := ⟨⟨by decide +kernel, by decide +kernel⟩, List.mem_of_getElem? (i := 68) (by decide +kernel), List.mem_of_getElem? (i := 157) (by decide +kernel), List.mem_of_getElem? (i := 158) (by decide +kernel)⟩
theorem lw_p1 : lw_okq (⟨"QuarryOrders$Works", "addBlock", "(IIII)I"⟩, 2) := ⟨⟨by decide +kernel, by decide +kernel⟩, List.mem_of_getElem? (i := 55) (by decide +kernel), List.mem_of_getElem? (i := 202) (by decide +kernel), List.mem_of_getElem? (i := 203) (by decide +kernel)⟩
theorem lw_p2 : lw_okq (⟨"QuarryOrders$Works", "addPiece", "(IIIZ)I"⟩, 2) := ⟨⟨by decide +kernel, by decide +kernel⟩, List.mem_of_getElem? (i := 55) (by decide +kernel), List.mem_of_getElem? (i := 237) (by decide +kernel), List.mem_of_getElem? (i := 238) (by decide +kernel)⟩
theorem lw_p3 : lw_okq (⟨"QuarryOrders$Facts", "isWithinOver", "(I)Z"⟩, 1) := ⟨⟨by decide +kernel, by decide +kernel⟩, List.mem_of_getElem? (i := 45) (by decide +kernel), List.mem_of_getElem? (i := 319) (by decide +kernel), List.mem_of_getElem? (i := 320) (by decide +kernel)⟩
theorem lw_p4 : lw_okq (⟨"QuarryOrders$Facts", "weightAt", "(IIII)F"⟩, 1) := ⟨⟨by decide +kernel, by decide +kernel⟩, List.mem_of_getElem? (i := 45) (by decide +kernel), List.mem_of_getElem? (i := 399) (by decide +kernel), List.mem_of_getElem? (i := 400) (by decide +kernel)⟩
theorem lw_p5 : lw_okq (⟨"QuarryOrders$Works", "deliver", "(I)I"⟩, 2) := ⟨⟨by decide +kernel, by decide +kernel⟩, List.mem_of_getElem? (i := 55) (by decide +kernel), List.mem_of_getElem? (i := 409) (by decide +kernel), List.mem_of_getElem? (i := 410) (by decide +kernel)⟩
theorem lw_p6 : lw_okq (⟨"QuarryOrders$Works", "crackBlocks", "()I"⟩, 2) := ⟨⟨by decide +kernel, by decide +kernel⟩, List.mem_of_getElem? (i := 55) (by decide +kernel), List.mem_of_getElem? (i := 422) (by decide +kernel), List.mem_of_getElem? (i := 423) (by decide +kernel)⟩
theorem lw_p7 : lw_okq (⟨"QuarryOrders$Works", "dryBlocks", "()V"⟩, 2) := ⟨⟨by decide +kernel, by decide +kernel⟩, List.mem_of_getElem? (i := 55) (by decide +kernel), List.mem_of_getElem? (i := 432) (by decide +kernel), List.mem_of_getElem? (i := 433) (by decide +kernel)⟩
theorem lw_p8 : lw_okq (⟨"QuarryOrders$Facts", "greaterShare", "(III)F"⟩, 1) := ⟨⟨by decide +kernel, by decide +kernel⟩, List.mem_of_getElem? (i := 45) (by decide +kernel), List.mem_of_getElem? (i := 553) (by decide +kernel), List.mem_of_getElem? (i := 554) (by decide +kernel)⟩
theorem lw_p9 : lw_okq (⟨"QuarryOrders$Pad", "take", "(I)Z"⟩, 7) := ⟨⟨by decide +kernel, by decide +kernel⟩, List.mem_of_getElem? (i := 101) (by decide +kernel), List.mem_of_getElem? (i := 596) (by decide +kernel), List.mem_of_getElem? (i := 597) (by decide +kernel)⟩
theorem lw_p10 : lw_okq (⟨"QuarryOrders$Pad", "sign", "()I"⟩, 7) := ⟨⟨by decide +kernel, by decide +kernel⟩, List.mem_of_getElem? (i := 101) (by decide +kernel), List.mem_of_getElem? (i := 600) (by decide +kernel), List.mem_of_getElem? (i := 601) (by decide +kernel)⟩
theorem lw_p11 : lw_okq (⟨"QuarryOrders$Pad", "readPart", "(I)Z"⟩, 7) := ⟨⟨by decide +kernel, by decide +kernel⟩, List.mem_of_getElem? (i := 101) (by decide +kernel), List.mem_of_getElem? (i := 667) (by decide +kernel), List.mem_of_getElem? (i := 668) (by decide +kernel)⟩
theorem lw_p12 : lw_okq (⟨"QuarryOrders$Pad", "readNumber", "(I)Z"⟩, 7) := ⟨⟨by decide +kernel, by decide +kernel⟩, List.mem_of_getElem? (i := 101) (by decide +kernel), List.mem_of_getElem? (i := 671) (by decide +kernel), List.mem_of_getElem? (i := 672) (by decide +kernel)⟩
theorem lw_p13 : lw_okq (⟨"QuarryOrders", "carryOrder", "()I"⟩, 6) := ⟨⟨by decide +kernel, by decide +kernel⟩, List.mem_of_getElem? (i := 18) (by decide +kernel), List.mem_of_getElem? (i := 682) (by decide +kernel), List.mem_of_getElem? (i := 683) (by decide +kernel)⟩
theorem lw_p14 : lw_okq (⟨"QuarryOrdersModel", "lays", "(II)I"⟩, 12) := ⟨⟨by decide +kernel, by decide +kernel⟩, List.mem_of_getElem? (i := 728) (by decide +kernel), List.mem_of_getElem? (i := 781) (by decide +kernel), List.mem_of_getElem? (i := 782) (by decide +kernel)⟩
theorem lw_p15 : lw_okq (⟨"QuarryOrdersModel", "looks", "()V"⟩, 12) := ⟨⟨by decide +kernel, by decide +kernel⟩, List.mem_of_getElem? (i := 728) (by decide +kernel), List.mem_of_getElem? (i := 785) (by decide +kernel), List.mem_of_getElem? (i := 786) (by decide +kernel)⟩
def lw_privs_1 : List (MethodName × Nat) := [(⟨"QuarryOrders$History", "nextRow", "()[I"⟩, 3), (⟨"QuarryOrders$Works", "addBlock", "(IIII)I"⟩, 2), (⟨"QuarryOrders$Works", "addPiece", "(IIIZ)I"⟩, 2), (⟨"QuarryOrders$Facts", "isWithinOver", "(I)Z"⟩, 1), (⟨"QuarryOrders$Facts", "weightAt", "(IIII)F"⟩, 1), (⟨"QuarryOrders$Works", "deliver", "(I)I"⟩, 2), (⟨"QuarryOrders$Works", "crackBlocks", "()I"⟩, 2), (⟨"QuarryOrders$Works", "dryBlocks", "()V"⟩, 2), (⟨"QuarryOrders$Facts", "greaterShare", "(III)F"⟩, 1), (⟨"QuarryOrders$Pad", "take", "(I)Z"⟩, 7), (⟨"QuarryOrders$Pad", "sign", "()I"⟩, 7), (⟨"QuarryOrders$Pad", "readPart", "(I)Z"⟩, 7), (⟨"QuarryOrders$Pad", "readNumber", "(I)Z"⟩, 7), (⟨"QuarryOrders", "carryOrder", "()I"⟩, 6), (⟨"QuarryOrdersModel", "lays", "(II)I"⟩, 12), (⟨"QuarryOrdersModel", "looks", "()V"⟩, 12)]
theorem lw_r1 : ∀ q ∈ lw_privs_1, lw_okq q := List.forall_mem_cons.mpr ⟨lw_p0, List.forall_mem_cons.mpr ⟨lw_p1, List.forall_mem_cons.mpr ⟨lw_p2, List.forall_mem_cons.mpr ⟨lw_p3, List.forall_mem_cons.mpr ⟨lw_p4, List.forall_mem_cons.mpr ⟨lw_p5, List.forall_mem_cons.mpr ⟨lw_p6, List.forall_mem_cons.mpr ⟨lw_p7, List.forall_mem_cons.mpr ⟨lw_p8, List.forall_mem_cons.mpr ⟨lw_p9, List.forall_mem_cons.mpr ⟨lw_p10, List.forall_mem_cons.mpr ⟨lw_p11, List.forall_mem_cons.mpr ⟨lw_p12, List.forall_mem_cons.mpr ⟨lw_p13, List.forall_mem_cons.mpr ⟨lw_p14, List.forall_mem_cons.mpr ⟨lw_p15, fun _ h => absurd h List.not_mem_nil⟩⟩⟩⟩⟩⟩⟩⟩⟩⟩⟩⟩⟩⟩⟩⟩
theorem lw_p16 : lw_okq (⟨"QuarryOrdersModel", "records", "()V"⟩, 12) := ⟨⟨by decide +kernel, by decide +kernel⟩, List.mem_of_getElem? (i := 728) (by decide +kernel), List.mem_of_getElem? (i := 789) (by decide +kernel), List.mem_of_getElem? (i := 790) (by decide +kernel)⟩
theorem lw_p17 : lw_okq (⟨"QuarryOrdersModel", "tries", "(IIIII)I"⟩, 12) := ⟨⟨by decide +kernel, by decide +kernel⟩, List.mem_of_getElem? (i := 728) (by decide +kernel), List.mem_of_getElem? (i := 797) (by decide +kernel), List.mem_of_getElem? (i := 798) (by decide +kernel)⟩
theorem lw_p18 : lw_okq (⟨"QuarryOrdersModel", "does", "(IIIII)I"⟩, 12) := ⟨⟨by decide +kernel, by decide +kernel⟩, List.mem_of_getElem? (i := 728) (by decide +kernel), List.mem_of_getElem? (i := 801) (by decide +kernel), List.mem_of_getElem? (i := 802) (by decide +kernel)⟩
theorem lw_p19 : lw_okq (⟨"QuarryOrdersModel", "quarries", "(IIII)I"⟩, 12) := ⟨⟨by decide +kernel, by decide +kernel⟩, List.mem_of_getElem? (i := 728) (by decide +kernel), List.mem_of_getElem? (i := 805) (by decide +kernel), List.mem_of_getElem? (i := 806) (by decide +kernel)⟩
theorem lw_p20 : lw_okq (⟨"QuarryOrdersModel", "newBlock", "(IIII)I"⟩, 12) := ⟨⟨by decide +kernel, by decide +kernel⟩, List.mem_of_getElem? (i := 728) (by decide +kernel), List.mem_of_getElem? (i := 812) (by decide +kernel), List.mem_of_getElem? (i := 813) (by decide +kernel)⟩
theorem lw_p21 : lw_okq (⟨"QuarryOrdersModel", "weight", "(I)I"⟩, 12) := ⟨⟨by decide +kernel, by decide +kernel⟩, List.mem_of_getElem? (i := 728) (by decide +kernel), List.mem_of_getElem? (i := 819) (by decide +kernel), List.mem_of_getElem? (i := 820) (by decide +kernel)⟩
theorem lw_p22 : lw_okq (⟨"QuarryOrdersModel", "cuts", "(III)I"⟩, 12) := ⟨⟨by decide +kernel, by decide +kernel⟩, List.mem_of_getElem? (i := 728) (by decide +kernel), List.mem_of_getElem? (i := 823) (by decide +kernel), List.mem_of_getElem? (i := 824) (by decide +kernel)⟩
theorem lw_p23 : lw_okq (⟨"QuarryOrdersModel", "isBlock", "(I)Z"⟩, 12) := ⟨⟨by decide +kernel, by decide +kernel⟩, List.mem_of_getElem? (i := 728) (by decide +kernel), List.mem_of_getElem? (i := 827) (by decide +kernel), List.mem_of_getElem? (i := 828) (by decide +kernel)⟩
theorem lw_p24 : lw_okq (⟨"QuarryOrdersModel", "canBeCut", "(I)Z"⟩, 12) := ⟨⟨by decide +kernel, by decide +kernel⟩, List.mem_of_getElem? (i := 728) (by decide +kernel), List.mem_of_getElem? (i := 831) (by decide +kernel), List.mem_of_getElem? (i := 832) (by decide +kernel)⟩
theorem lw_p25 : lw_okq (⟨"QuarryOrdersModel", "isHere", "(I)Z"⟩, 12) := ⟨⟨by decide +kernel, by decide +kernel⟩, List.mem_of_getElem? (i := 728) (by decide +kernel), List.mem_of_getElem? (i := 835) (by decide +kernel), List.mem_of_getElem? (i := 836) (by decide +kernel)⟩
theorem lw_p26 : lw_okq (⟨"QuarryOrdersModel", "isAt", "(II)Z"⟩, 12) := ⟨⟨by decide +kernel, by decide +kernel⟩, List.mem_of_getElem? (i := 728) (by decide +kernel), List.mem_of_getElem? (i := 839) (by decide +kernel), List.mem_of_getElem? (i := 840) (by decide +kernel)⟩
theorem lw_p27 : lw_okq (⟨"QuarryOrdersModel", "part", "(III)V"⟩, 12) := ⟨⟨by decide +kernel, by decide +kernel⟩, List.mem_of_getElem? (i := 728) (by decide +kernel), List.mem_of_getElem? (i := 843) (by decide +kernel), List.mem_of_getElem? (i := 844) (by decide +kernel)⟩
theorem lw_p28 : lw_okq (⟨"QuarryOrdersModel", "underRoof", "()I"⟩, 12) := ⟨⟨by decide +kernel, by decide +kernel⟩, List.mem_of_getElem? (i := 728) (by decide +kernel), List.mem_of_getElem? (i := 847) (by decide +kernel), List.mem_of_getElem? (i := 848) (by decide +kernel)⟩
theorem lw_p29 : lw_okq (⟨"QuarryOrdersModel", "orders", "(III)I"⟩, 12) := ⟨⟨by decide +kernel, by decide +kernel⟩, List.mem_of_getElem? (i := 728) (by decide +kernel), List.mem_of_getElem? (i := 851) (by decide +kernel), List.mem_of_getElem? (i := 852) (by decide +kernel)⟩
theorem lw_p30 : lw_okq (⟨"QuarryOrdersModel", "sorts", "(III)V"⟩, 12) := ⟨⟨by decide +kernel, by decide +kernel⟩, List.mem_of_getElem? (i := 728) (by decide +kernel), List.mem_of_getElem? (i := 855) (by decide +kernel), List.mem_of_getElem? (i := 856) (by decide +kernel)⟩
theorem lw_p31 : lw_okq (⟨"QuarryOrdersModel", "gives", "(II)I"⟩, 12) := ⟨⟨by decide +kernel, by decide +kernel⟩, List.mem_of_getElem? (i := 728) (by decide +kernel), List.mem_of_getElem? (i := 862) (by decide +kernel), List.mem_of_getElem? (i := 863) (by decide +kernel)⟩
def lw_privs_2 : List (MethodName × Nat) := [(⟨"QuarryOrdersModel", "records", "()V"⟩, 12), (⟨"QuarryOrdersModel", "tries", "(IIIII)I"⟩, 12), (⟨"QuarryOrdersModel", "does", "(IIIII)I"⟩, 12), (⟨"QuarryOrdersModel", "quarries", "(IIII)I"⟩, 12), (⟨"QuarryOrdersModel", "newBlock", "(IIII)I"⟩, 12), (⟨"QuarryOrdersModel", "weight", "(I)I"⟩, 12), (⟨"QuarryOrdersModel", "cuts", "(III)I"⟩, 12), (⟨"QuarryOrdersModel", "isBlock", "(I)Z"⟩, 12), (⟨"QuarryOrdersModel", "canBeCut", "(I)Z"⟩, 12), (⟨"QuarryOrdersModel", "isHere", "(I)Z"⟩, 12), (⟨"QuarryOrdersModel", "isAt", "(II)Z"⟩, 12), (⟨"QuarryOrdersModel", "part", "(III)V"⟩, 12), (⟨"QuarryOrdersModel", "underRoof", "()I"⟩, 12), (⟨"QuarryOrdersModel", "orders", "(III)I"⟩, 12), (⟨"QuarryOrdersModel", "sorts", "(III)V"⟩, 12), (⟨"QuarryOrdersModel", "gives", "(II)I"⟩, 12)]
theorem lw_r2 : ∀ q ∈ lw_privs_2, lw_okq q := List.forall_mem_cons.mpr ⟨lw_p16, List.forall_mem_cons.mpr ⟨lw_p17, List.forall_mem_cons.mpr ⟨lw_p18, List.forall_mem_cons.mpr ⟨lw_p19, List.forall_mem_cons.mpr ⟨lw_p20, List.forall_mem_cons.mpr ⟨lw_p21, List.forall_mem_cons.mpr ⟨lw_p22, List.forall_mem_cons.mpr ⟨lw_p23, List.forall_mem_cons.mpr ⟨lw_p24, List.forall_mem_cons.mpr ⟨lw_p25, List.forall_mem_cons.mpr ⟨lw_p26, List.forall_mem_cons.mpr ⟨lw_p27, List.forall_mem_cons.mpr ⟨lw_p28, List.forall_mem_cons.mpr ⟨lw_p29, List.forall_mem_cons.mpr ⟨lw_p30, List.forall_mem_cons.mpr ⟨lw_p31, fun _ h => absurd h List.not_mem_nil⟩⟩⟩⟩⟩⟩⟩⟩⟩⟩⟩⟩⟩⟩⟩⟩
theorem lw_p32 : lw_okq (⟨"QuarryOrdersModel", "isOrder", "(I)Z"⟩, 12) := ⟨⟨by decide +kernel, by decide +kernel⟩, List.mem_of_getElem? (i := 728) (by decide +kernel), List.mem_of_getElem? (i := 866) (by decide +kernel), List.mem_of_getElem? (i := 867) (by decide +kernel)⟩
theorem lw_p33 : lw_okq (⟨"QuarryOrdersModel", "canGive", "(II)Z"⟩, 12) := ⟨⟨by decide +kernel, by decide +kernel⟩, List.mem_of_getElem? (i := 728) (by decide +kernel), List.mem_of_getElem? (i := 870) (by decide +kernel), List.mem_of_getElem? (i := 871) (by decide +kernel)⟩
theorem lw_p34 : lw_okq (⟨"QuarryOrdersModel", "excessOf", "(II)I"⟩, 12) := ⟨⟨by decide +kernel, by decide +kernel⟩, List.mem_of_getElem? (i := 728) (by decide +kernel), List.mem_of_getElem? (i := 874) (by decide +kernel), List.mem_of_getElem? (i := 875) (by decide +kernel)⟩
theorem lw_p35 : lw_okq (⟨"QuarryOrdersModel", "excess", "(IIII)I"⟩, 12) := ⟨⟨by decide +kernel, by decide +kernel⟩, List.mem_of_getElem? (i := 728) (by decide +kernel), List.mem_of_getElem? (i := 878) (by decide +kernel), List.mem_of_getElem? (i := 879) (by decide +kernel)⟩
theorem lw_p36 : lw_okq (⟨"QuarryOrdersModel", "loads", "(III)I"⟩, 12) := ⟨⟨by decide +kernel, by decide +kernel⟩, List.mem_of_getElem? (i := 728) (by decide +kernel), List.mem_of_getElem? (i := 882) (by decide +kernel), List.mem_of_getElem? (i := 883) (by decide +kernel)⟩
theorem lw_p37 : lw_okq (⟨"QuarryOrdersModel", "blockAt", "(II)I"⟩, 12) := ⟨⟨by decide +kernel, by decide +kernel⟩, List.mem_of_getElem? (i := 728) (by decide +kernel), List.mem_of_getElem? (i := 889) (by decide +kernel), List.mem_of_getElem? (i := 890) (by decide +kernel)⟩
theorem lw_p38 : lw_okq (⟨"QuarryOrdersModel", "loadOf", "(I)I"⟩, 12) := ⟨⟨by decide +kernel, by decide +kernel⟩, List.mem_of_getElem? (i := 728) (by decide +kernel), List.mem_of_getElem? (i := 893) (by decide +kernel), List.mem_of_getElem? (i := 894) (by decide +kernel)⟩
theorem lw_p39 : lw_okq (⟨"QuarryOrdersModel", "nights", "(I)I"⟩, 12) := ⟨⟨by decide +kernel, by decide +kernel⟩, List.mem_of_getElem? (i := 728) (by decide +kernel), List.mem_of_getElem? (i := 897) (by decide +kernel), List.mem_of_getElem? (i := 898) (by decide +kernel)⟩
theorem lw_p40 : lw_okq (⟨"QuarryOrdersModel", "wouldCrack", "(I)Z"⟩, 12) := ⟨⟨by decide +kernel, by decide +kernel⟩, List.mem_of_getElem? (i := 728) (by decide +kernel), List.mem_of_getElem? (i := 901) (by decide +kernel), List.mem_of_getElem? (i := 902) (by decide +kernel)⟩
theorem lw_p41 : lw_okq (⟨"QuarryOrdersModel", "leaves", "(I)I"⟩, 12) := ⟨⟨by decide +kernel, by decide +kernel⟩, List.mem_of_getElem? (i := 728) (by decide +kernel), List.mem_of_getElem? (i := 905) (by decide +kernel), List.mem_of_getElem? (i := 906) (by decide +kernel)⟩
theorem lw_p42 : lw_okq (⟨"QuarryOrdersModel", "whyNot", "(I)I"⟩, 12) := ⟨⟨by decide +kernel, by decide +kernel⟩, List.mem_of_getElem? (i := 728) (by decide +kernel), List.mem_of_getElem? (i := 909) (by decide +kernel), List.mem_of_getElem? (i := 910) (by decide +kernel)⟩
theorem lw_p43 : lw_okq (⟨"QuarryOrdersModel", "blocksOn", "(I)I"⟩, 12) := ⟨⟨by decide +kernel, by decide +kernel⟩, List.mem_of_getElem? (i := 728) (by decide +kernel), List.mem_of_getElem? (i := 913) (by decide +kernel), List.mem_of_getElem? (i := 914) (by decide +kernel)⟩
theorem lw_p44 : lw_okq (⟨"QuarryOrdersModel", "hasCracked", "(I)Z"⟩, 12) := ⟨⟨by decide +kernel, by decide +kernel⟩, List.mem_of_getElem? (i := 728) (by decide +kernel), List.mem_of_getElem? (i := 917) (by decide +kernel), List.mem_of_getElem? (i := 918) (by decide +kernel)⟩
theorem lw_p45 : lw_okq (⟨"QuarryOrdersModel", "axleNow", "(IZ)F"⟩, 12) := ⟨⟨by decide +kernel, by decide +kernel⟩, List.mem_of_getElem? (i := 728) (by decide +kernel), List.mem_of_getElem? (i := 921) (by decide +kernel), List.mem_of_getElem? (i := 922) (by decide +kernel)⟩
theorem lw_p46 : lw_okq (⟨"QuarryOrdersModel", "axle", "(IZII)F"⟩, 12) := ⟨⟨by decide +kernel, by decide +kernel⟩, List.mem_of_getElem? (i := 728) (by decide +kernel), List.mem_of_getElem? (i := 925) (by decide +kernel), List.mem_of_getElem? (i := 926) (by decide +kernel)⟩
theorem lw_p47 : lw_okq (⟨"QuarryOrdersModel", "delivers", "(I)I"⟩, 12) := ⟨⟨by decide +kernel, by decide +kernel⟩, List.mem_of_getElem? (i := 728) (by decide +kernel), List.mem_of_getElem? (i := 930) (by decide +kernel), List.mem_of_getElem? (i := 931) (by decide +kernel)⟩
def lw_privs_3 : List (MethodName × Nat) := [(⟨"QuarryOrdersModel", "isOrder", "(I)Z"⟩, 12), (⟨"QuarryOrdersModel", "canGive", "(II)Z"⟩, 12), (⟨"QuarryOrdersModel", "excessOf", "(II)I"⟩, 12), (⟨"QuarryOrdersModel", "excess", "(IIII)I"⟩, 12), (⟨"QuarryOrdersModel", "loads", "(III)I"⟩, 12), (⟨"QuarryOrdersModel", "blockAt", "(II)I"⟩, 12), (⟨"QuarryOrdersModel", "loadOf", "(I)I"⟩, 12), (⟨"QuarryOrdersModel", "nights", "(I)I"⟩, 12), (⟨"QuarryOrdersModel", "wouldCrack", "(I)Z"⟩, 12), (⟨"QuarryOrdersModel", "leaves", "(I)I"⟩, 12), (⟨"QuarryOrdersModel", "whyNot", "(I)I"⟩, 12), (⟨"QuarryOrdersModel", "blocksOn", "(I)I"⟩, 12), (⟨"QuarryOrdersModel", "hasCracked", "(I)Z"⟩, 12), (⟨"QuarryOrdersModel", "axleNow", "(IZ)F"⟩, 12), (⟨"QuarryOrdersModel", "axle", "(IZII)F"⟩, 12), (⟨"QuarryOrdersModel", "delivers", "(I)I"⟩, 12)]
theorem lw_r3 : ∀ q ∈ lw_privs_3, lw_okq q := List.forall_mem_cons.mpr ⟨lw_p32, List.forall_mem_cons.mpr ⟨lw_p33, List.forall_mem_cons.mpr ⟨lw_p34, List.forall_mem_cons.mpr ⟨lw_p35, List.forall_mem_cons.mpr ⟨lw_p36, List.forall_mem_cons.mpr ⟨lw_p37, List.forall_mem_cons.mpr ⟨lw_p38, List.forall_mem_cons.mpr ⟨lw_p39, List.forall_mem_cons.mpr ⟨lw_p40, List.forall_mem_cons.mpr ⟨lw_p41, List.forall_mem_cons.mpr ⟨lw_p42, List.forall_mem_cons.mpr ⟨lw_p43, List.forall_mem_cons.mpr ⟨lw_p44, List.forall_mem_cons.mpr ⟨lw_p45, List.forall_mem_cons.mpr ⟨lw_p46, List.forall_mem_cons.mpr ⟨lw_p47, fun _ h => absurd h List.not_mem_nil⟩⟩⟩⟩⟩⟩⟩⟩⟩⟩⟩⟩⟩⟩⟩⟩
theorem lw_p48 : lw_okq (⟨"QuarryOrdersModel", "couldBeGiven", "(I)I"⟩, 12) := ⟨⟨by decide +kernel, by decide +kernel⟩, List.mem_of_getElem? (i := 728) (by decide +kernel), List.mem_of_getElem? (i := 982) (by decide +kernel), List.mem_of_getElem? (i := 983) (by decide +kernel)⟩
theorem lw_p49 : lw_okq (⟨"QuarryOrdersModel", "setOf", "(Z)I"⟩, 12) := ⟨⟨by decide +kernel, by decide +kernel⟩, List.mem_of_getElem? (i := 728) (by decide +kernel), List.mem_of_getElem? (i := 1000) (by decide +kernel), List.mem_of_getElem? (i := 1001) (by decide +kernel)⟩
theorem lw_p50 : lw_okq (⟨"QuarryOrdersModel", "notCut", "(Z)I"⟩, 12) := ⟨⟨by decide +kernel, by decide +kernel⟩, List.mem_of_getElem? (i := 728) (by decide +kernel), List.mem_of_getElem? (i := 1004) (by decide +kernel), List.mem_of_getElem? (i := 1005) (by decide +kernel)⟩
theorem lw_p51 : lw_okq (⟨"QuarryOrdersModel", "isFitting", "(IIII)Z"⟩, 12) := ⟨⟨by decide +kernel, by decide +kernel⟩, List.mem_of_getElem? (i := 728) (by decide +kernel), List.mem_of_getElem? (i := 1032) (by decide +kernel), List.mem_of_getElem? (i := 1033) (by decide +kernel)⟩
theorem lw_p52 : lw_okq (⟨"QuarryOrdersModel", "share", "(III)F"⟩, 12) := ⟨⟨by decide +kernel, by decide +kernel⟩, List.mem_of_getElem? (i := 728) (by decide +kernel), List.mem_of_getElem? (i := 1044) (by decide +kernel), List.mem_of_getElem? (i := 1045) (by decide +kernel)⟩
theorem lw_p53 : lw_okq (⟨"QuarryOrdersModel", "goes", "(Z)I"⟩, 12) := ⟨⟨by decide +kernel, by decide +kernel⟩, List.mem_of_getElem? (i := 728) (by decide +kernel), List.mem_of_getElem? (i := 1061) (by decide +kernel), List.mem_of_getElem? (i := 1062) (by decide +kernel)⟩
theorem lw_p54 : lw_okq (⟨"QuarryOrdersModel", "readOrder", "()V"⟩, 12) := ⟨⟨by decide +kernel, by decide +kernel⟩, List.mem_of_getElem? (i := 728) (by decide +kernel), List.mem_of_getElem? (i := 1065) (by decide +kernel), List.mem_of_getElem? (i := 1066) (by decide +kernel)⟩
theorem lw_p55 : lw_okq (⟨"QuarryOrdersModel", "isNext", "(II)Z"⟩, 12) := ⟨⟨by decide +kernel, by decide +kernel⟩, List.mem_of_getElem? (i := 728) (by decide +kernel), List.mem_of_getElem? (i := 1069) (by decide +kernel), List.mem_of_getElem? (i := 1070) (by decide +kernel)⟩
theorem lw_p56 : lw_okq (⟨"QuarryOrdersModel", "takes", "(II)I"⟩, 12) := ⟨⟨by decide +kernel, by decide +kernel⟩, List.mem_of_getElem? (i := 728) (by decide +kernel), List.mem_of_getElem? (i := 1073) (by decide +kernel), List.mem_of_getElem? (i := 1074) (by decide +kernel)⟩
theorem lw_p57 : lw_okq (⟨"QuarryOrdersModel", "takesNumber", "()I"⟩, 12) := ⟨⟨by decide +kernel, by decide +kernel⟩, List.mem_of_getElem? (i := 728) (by decide +kernel), List.mem_of_getElem? (i := 1077) (by decide +kernel), List.mem_of_getElem? (i := 1078) (by decide +kernel)⟩
theorem lw_p58 : lw_okq (⟨"QuarryOrdersModel", "takesBehind", "(I)I"⟩, 12) := ⟨⟨by decide +kernel, by decide +kernel⟩, List.mem_of_getElem? (i := 728) (by decide +kernel), List.mem_of_getElem? (i := 1081) (by decide +kernel), List.mem_of_getElem? (i := 1082) (by decide +kernel)⟩
def lw_privs_4 : List (MethodName × Nat) := [(⟨"QuarryOrdersModel", "couldBeGiven", "(I)I"⟩, 12), (⟨"QuarryOrdersModel", "setOf", "(Z)I"⟩, 12), (⟨"QuarryOrdersModel", "notCut", "(Z)I"⟩, 12), (⟨"QuarryOrdersModel", "isFitting", "(IIII)Z"⟩, 12), (⟨"QuarryOrdersModel", "share", "(III)F"⟩, 12), (⟨"QuarryOrdersModel", "goes", "(Z)I"⟩, 12), (⟨"QuarryOrdersModel", "readOrder", "()V"⟩, 12), (⟨"QuarryOrdersModel", "isNext", "(II)Z"⟩, 12), (⟨"QuarryOrdersModel", "takes", "(II)I"⟩, 12), (⟨"QuarryOrdersModel", "takesNumber", "()I"⟩, 12), (⟨"QuarryOrdersModel", "takesBehind", "(I)I"⟩, 12)]
theorem lw_r4 : ∀ q ∈ lw_privs_4, lw_okq q := List.forall_mem_cons.mpr ⟨lw_p48, List.forall_mem_cons.mpr ⟨lw_p49, List.forall_mem_cons.mpr ⟨lw_p50, List.forall_mem_cons.mpr ⟨lw_p51, List.forall_mem_cons.mpr ⟨lw_p52, List.forall_mem_cons.mpr ⟨lw_p53, List.forall_mem_cons.mpr ⟨lw_p54, List.forall_mem_cons.mpr ⟨lw_p55, List.forall_mem_cons.mpr ⟨lw_p56, List.forall_mem_cons.mpr ⟨lw_p57, List.forall_mem_cons.mpr ⟨lw_p58, fun _ h => absurd h List.not_mem_nil⟩⟩⟩⟩⟩⟩⟩⟩⟩⟩⟩
def lw_privs : List (MethodName × Nat) := lw_privs_1 ++ (lw_privs_2 ++ (lw_privs_3 ++ (lw_privs_4)))
def lw_tbl : List Cond := k2_sels lw_privs ++ tables_1
theorem lw_privs_ok : ∀ q ∈ lw_privs, lw_okq q := by
  show ∀ q ∈ lw_privs_1 ++ (lw_privs_2 ++ (lw_privs_3 ++ (lw_privs_4))), lw_okq q
  exact List.forall_mem_append.mpr ⟨lw_r1, List.forall_mem_append.mpr ⟨lw_r2, List.forall_mem_append.mpr ⟨lw_r3, lw_r4⟩⟩⟩
/-- the streams that the claim lets the run draw from -/
abbrev lw_cs : List Choice := [Jvm.Choice.named "NaN.bits"]
theorem lw_bits : nanBits ∈ lw_cs := by first | decide | exact List.mem_cons_self | simp [lw_cs, nanBits]
-- ===== end of PART A; then your names; then what follows =====
end
section
/-! the names, as printed -/
def RX0 : String := "QuarryOrders$Bits"
def TX0 : u_T := fun k => match k with
  | _ => ("", "", "", false)
def tyX0 : Nat → FieldType := fun k => match k with
  | _ => .int
abbrev wsX00 : List Cond := u_ws RX0 TX0 0
theorem nmX0 : ∀ a, a < 0 → ∀ b, b < 0 → a ≠ b → (TX0 a).2.1 ≠ (TX0 b).2.1 := by decide +kernel
theorem tyX0_ok : ∀ k, k < 0 → parseFieldDescriptor (TX0 k).2.2.1 = some (tyX0 k) := by decide +kernel
abbrev cX0_ofFloat : ByteArray := prog_2_method_2_code
def yX0_ofFloat : MethodName := ⟨RX0, "ofFloat", "(F)I"⟩
abbrev cX0_ofDouble : ByteArray := prog_2_method_3_code
def yX0_ofDouble : MethodName := ⟨RX0, "ofDouble", "(D)J"⟩
def RX1 : String := "QuarryOrders$Facts"
def TX1 : u_T := fun k => match k with
  | _ => ("QuarryOrders$Facts", "state", "LQuarryOrders$State;", true)
def tyX1 : Nat → FieldType := fun k => match k with
  | _ => .object "QuarryOrders$State"
abbrev wsX10 : List Cond := u_ws RX1 TX1 1
theorem nmX1 : ∀ a, a < 1 → ∀ b, b < 1 → a ≠ b → (TX1 a).2.1 ≠ (TX1 b).2.1 := by decide +kernel
theorem tyX1_ok : ∀ k, k < 1 → parseFieldDescriptor (TX1 k).2.2.1 = some (tyX1 k) := by decide +kernel
abbrev cX1_init : ByteArray := prog_3_method_1_code
def yX1_init : MethodName := ⟨RX1, "<init>", "(LQuarryOrders$State;)V"⟩
abbrev cX1_weightOf : ByteArray := prog_3_method_2_code
def yX1_weightOf : MethodName := ⟨RX1, "weightOf", "(I)I"⟩
abbrev cX1_uncutBlocks : ByteArray := prog_3_method_3_code
def yX1_uncutBlocks : MethodName := ⟨RX1, "uncutBlocks", "()I"⟩
abbrev cX1_uncutWeight : ByteArray := prog_3_method_4_code
def yX1_uncutWeight : MethodName := ⟨RX1, "uncutWeight", "()I"⟩
abbrev cX1_quarriedWeight : ByteArray := prog_3_method_5_code
def yX1_quarriedWeight : MethodName := ⟨RX1, "quarriedWeight", "()I"⟩
abbrev cX1_lostWeight : ByteArray := prog_3_method_6_code
def yX1_lostWeight : MethodName := ⟨RX1, "lostWeight", "()I"⟩
abbrev cX1_allInvoices : ByteArray := prog_3_method_7_code
def yX1_allInvoices : MethodName := ⟨RX1, "allInvoices", "()I"⟩
abbrev cX1_roofHasRoom : ByteArray := prog_3_method_8_code
def yX1_roofHasRoom : MethodName := ⟨RX1, "roofHasRoom", "()Z"⟩
abbrev cX1_isAtHand : ByteArray := prog_3_method_9_code
def yX1_isAtHand : MethodName := ⟨RX1, "isAtHand", "(I)Z"⟩
abbrev cX1_mayBeSawn : ByteArray := prog_3_method_10_code
def yX1_mayBeSawn : MethodName := ⟨RX1, "mayBeSawn", "(I)Z"⟩
abbrev cX1_blocksForFrost : ByteArray := prog_3_method_11_code
def yX1_blocksForFrost : MethodName := ⟨RX1, "blocksForFrost", "()I"⟩
abbrev cX1_isWithinOver : ByteArray := prog_3_method_12_code
def yX1_isWithinOver : MethodName := ⟨RX1, "isWithinOver", "(I)Z"⟩
abbrev cX1_surplus : ByteArray := prog_3_method_13_code
def yX1_surplus : MethodName := ⟨RX1, "surplus", "(IIII)I"⟩
abbrev cX1_surplusToGive : ByteArray := prog_3_method_14_code
def yX1_surplusToGive : MethodName := ⟨RX1, "surplusToGive", "(II)I"⟩
abbrev cX1_blocksToGive : ByteArray := prog_3_method_15_code
def yX1_blocksToGive : MethodName := ⟨RX1, "blocksToGive", "(I)I"⟩
abbrev cX1_nearestBlock : ByteArray := prog_3_method_16_code
def yX1_nearestBlock : MethodName := ⟨RX1, "nearestBlock", "(I)I"⟩
abbrev cX1_fittingLength : ByteArray := prog_3_method_17_code
def yX1_fittingLength : MethodName := ⟨RX1, "fittingLength", "(III)I"⟩
abbrev cX1_blocksOn : ByteArray := prog_3_method_18_code
def yX1_blocksOn : MethodName := ⟨RX1, "blocksOn", "(I)I"⟩
abbrev cX1_isFree : ByteArray := prog_3_method_19_code
def yX1_isFree : MethodName := ⟨RX1, "isFree", "(II)Z"⟩
abbrev cX1_loadOf : ByteArray := prog_3_method_20_code
def yX1_loadOf : MethodName := ⟨RX1, "loadOf", "(I)I"⟩
abbrev cX1_weightAt : ByteArray := prog_3_method_21_code
def yX1_weightAt : MethodName := ⟨RX1, "weightAt", "(IIII)F"⟩
abbrev cX1_front : ByteArray := prog_3_method_22_code
def yX1_front : MethodName := ⟨RX1, "front", "(III)F"⟩
abbrev cX1_rear : ByteArray := prog_3_method_23_code
def yX1_rear : MethodName := ⟨RX1, "rear", "(III)F"⟩
abbrev cX1_reasonToStay : ByteArray := prog_3_method_24_code
def yX1_reasonToStay : MethodName := ⟨RX1, "reasonToStay", "(I)I"⟩
abbrev cX1_greaterShare : ByteArray := prog_3_method_25_code
def yX1_greaterShare : MethodName := ⟨RX1, "greaterShare", "(III)F"⟩
abbrev cX1_shareOf : ByteArray := prog_3_method_26_code
def yX1_shareOf : MethodName := ⟨RX1, "shareOf", "(FI)F"⟩
abbrev cX1_easiestPlace : ByteArray := prog_3_method_27_code
def yX1_easiestPlace : MethodName := ⟨RX1, "easiestPlace", "(II)I"⟩
def RX2 : String := "QuarryOrders$History"
def TX2 : u_T := fun k => match k with
  | 0 => ("QuarryOrders$History", "rows", "[[I", true)
  | 1 => ("QuarryOrders$History", "next", "I", false)
  | _ => ("QuarryOrders$History", "size", "I", false)
def tyX2 : Nat → FieldType := fun k => match k with
  | 0 => .array (.array .int)
  | 1 => .int
  | _ => .int
abbrev wsX20 : List Cond := u_ws RX2 TX2 3
theorem nmX2 : ∀ a, a < 3 → ∀ b, b < 3 → a ≠ b → (TX2 a).2.1 ≠ (TX2 b).2.1 := by decide +kernel
theorem tyX2_ok : ∀ k, k < 3 → parseFieldDescriptor (TX2 k).2.2.1 = some (tyX2 k) := by decide +kernel
abbrev cX2_init : ByteArray := prog_4_method_1_code
def yX2_init : MethodName := ⟨RX2, "<init>", "()V"⟩
abbrev cX2_size : ByteArray := prog_4_method_2_code
def yX2_size : MethodName := ⟨RX2, "size", "()I"⟩
abbrev cX2_nextRow : ByteArray := prog_4_method_3_code
def yX2_nextRow : MethodName := ⟨RX2, "nextRow", "()[I"⟩
abbrev cX2_note : ByteArray := prog_4_method_4_code
def yX2_note : MethodName := ⟨RX2, "note", "(LQuarryOrders$State;)V"⟩
abbrev cX2_settle : ByteArray := prog_4_method_5_code
def yX2_settle : MethodName := ⟨RX2, "settle", "(I)I"⟩
abbrev cX2_goBack : ByteArray := prog_4_method_6_code
def yX2_goBack : MethodName := ⟨RX2, "goBack", "(LQuarryOrders$State;)I"⟩
def RX3 : String := "QuarryOrders$Pad"
def TX3 : u_T := fun k => match k with
  | 0 => ("QuarryOrders$Pad", "signs", "[C", true)
  | 1 => ("QuarryOrders$Pad", "length", "I", false)
  | 2 => ("QuarryOrders$Pad", "at", "I", false)
  | 3 => ("QuarryOrders$Pad", "kind", "I", false)
  | 4 => ("QuarryOrders$Pad", "numbers", "[I", true)
  | 5 => ("QuarryOrders$Pad", "found", "I", false)
  | _ => ("QuarryOrders$Pad", "negative", "Z", false)
def tyX3 : Nat → FieldType := fun k => match k with
  | 0 => .array .char
  | 1 => .int
  | 2 => .int
  | 3 => .int
  | 4 => .array .int
  | 5 => .int
  | _ => .boolean
abbrev wsX30 : List Cond := u_ws RX3 TX3 7
theorem nmX3 : ∀ a, a < 7 → ∀ b, b < 7 → a ≠ b → (TX3 a).2.1 ≠ (TX3 b).2.1 := by decide +kernel
theorem tyX3_ok : ∀ k, k < 7 → parseFieldDescriptor (TX3 k).2.2.1 = some (tyX3 k) := by decide +kernel
abbrev cX3_init : ByteArray := prog_5_method_1_code
def yX3_init : MethodName := ⟨RX3, "<init>", "()V"⟩
abbrev cX3_length : ByteArray := prog_5_method_2_code
def yX3_length : MethodName := ⟨RX3, "length", "()I"⟩
abbrev cX3_clear : ByteArray := prog_5_method_3_code
def yX3_clear : MethodName := ⟨RX3, "clear", "()I"⟩
abbrev cX3_code : ByteArray := prog_5_method_4_code
def yX3_code : MethodName := ⟨RX3, "code", "(JI)I"⟩
abbrev cX3_append : ByteArray := prog_5_method_5_code
def yX3_append : MethodName := ⟨RX3, "append", "(J)I"⟩
abbrev cX3_findFault : ByteArray := prog_5_method_6_code
def yX3_findFault : MethodName := ⟨RX3, "findFault", "()I"⟩
abbrev cX3_rewind : ByteArray := prog_5_method_7_code
def yX3_rewind : MethodName := ⟨RX3, "rewind", "()V"⟩
abbrev cX3_kind : ByteArray := prog_5_method_8_code
def yX3_kind : MethodName := ⟨RX3, "kind", "()I"⟩
abbrev cX3_number : ByteArray := prog_5_method_9_code
def yX3_number : MethodName := ⟨RX3, "number", "(I)I"⟩
abbrev cX3_readOrder : ByteArray := prog_5_method_10_code
def yX3_readOrder : MethodName := ⟨RX3, "readOrder", "()Z"⟩
abbrev cX3_partsOf : ByteArray := prog_5_method_11_code
def yX3_partsOf : MethodName := ⟨RX3, "partsOf", "(I)Ljava/lang/String;"⟩
abbrev cX3_readPart : ByteArray := prog_5_method_12_code
def yX3_readPart : MethodName := ⟨RX3, "readPart", "(I)Z"⟩
abbrev cX3_sign : ByteArray := prog_5_method_13_code
def yX3_sign : MethodName := ⟨RX3, "sign", "()I"⟩
abbrev cX3_take : ByteArray := prog_5_method_14_code
def yX3_take : MethodName := ⟨RX3, "take", "(I)Z"⟩
abbrev cX3_readNumber : ByteArray := prog_5_method_15_code
def yX3_readNumber : MethodName := ⟨RX3, "readNumber", "(I)Z"⟩
def RX4 : String := "QuarryOrders$Slots"
def TX4 : u_T := fun k => match k with
  | 0 => ("QuarryOrders$Slots", "rows", "[[I", true)
  | _ => ("QuarryOrders$Slots", "filled", "[Z", true)
def tyX4 : Nat → FieldType := fun k => match k with
  | 0 => .array (.array .int)
  | _ => .array .boolean
abbrev wsX40 : List Cond := u_ws RX4 TX4 2
theorem nmX4 : ∀ a, a < 2 → ∀ b, b < 2 → a ≠ b → (TX4 a).2.1 ≠ (TX4 b).2.1 := by decide +kernel
theorem tyX4_ok : ∀ k, k < 2 → parseFieldDescriptor (TX4 k).2.2.1 = some (tyX4 k) := by decide +kernel
abbrev cX4_init : ByteArray := prog_6_method_1_code
def yX4_init : MethodName := ⟨RX4, "<init>", "()V"⟩
abbrev cX4_keep : ByteArray := prog_6_method_2_code
def yX4_keep : MethodName := ⟨RX4, "keep", "(ILQuarryOrders$State;)I"⟩
abbrev cX4_bring : ByteArray := prog_6_method_3_code
def yX4_bring : MethodName := ⟨RX4, "bring", "(ILQuarryOrders$State;)I"⟩
def RX5 : String := "QuarryOrders$State"
def TX5 : u_T := fun k => match k with
  | _ => ("QuarryOrders$State", "cells", "[I", true)
def tyX5 : Nat → FieldType := fun k => match k with
  | _ => .array .int
abbrev wsX50 : List Cond := u_ws RX5 TX5 1
theorem nmX5 : ∀ a, a < 1 → ∀ b, b < 1 → a ≠ b → (TX5 a).2.1 ≠ (TX5 b).2.1 := by decide +kernel
theorem tyX5_ok : ∀ k, k < 1 → parseFieldDescriptor (TX5 k).2.2.1 = some (tyX5 k) := by decide +kernel
abbrev cX5_init : ByteArray := prog_7_method_1_code
def yX5_init : MethodName := ⟨RX5, "<init>", "()V"⟩
abbrev cX5_cell : ByteArray := prog_7_method_2_code
def yX5_cell : MethodName := ⟨RX5, "cell", "(I)I"⟩
abbrev cX5_setCell : ByteArray := prog_7_method_3_code
def yX5_setCell : MethodName := ⟨RX5, "setCell", "(II)V"⟩
abbrev cX5_blockCell : ByteArray := prog_7_method_4_code
def yX5_blockCell : MethodName := ⟨RX5, "blockCell", "(II)I"⟩
abbrev cX5_setBlockCell : ByteArray := prog_7_method_5_code
def yX5_setBlockCell : MethodName := ⟨RX5, "setBlockCell", "(III)V"⟩
abbrev cX5_orderCell : ByteArray := prog_7_method_6_code
def yX5_orderCell : MethodName := ⟨RX5, "orderCell", "(II)I"⟩
abbrev cX5_setOrderCell : ByteArray := prog_7_method_7_code
def yX5_setOrderCell : MethodName := ⟨RX5, "setOrderCell", "(III)V"⟩
abbrev cX5_lorryCell : ByteArray := prog_7_method_8_code
def yX5_lorryCell : MethodName := ⟨RX5, "lorryCell", "(II)I"⟩
abbrev cX5_setLorryCell : ByteArray := prog_7_method_9_code
def yX5_setLorryCell : MethodName := ⟨RX5, "setLorryCell", "(III)V"⟩
abbrev cX5_hasBlock : ByteArray := prog_7_method_10_code
def yX5_hasBlock : MethodName := ⟨RX5, "hasBlock", "(I)Z"⟩
abbrev cX5_hasOrder : ByteArray := prog_7_method_11_code
def yX5_hasOrder : MethodName := ⟨RX5, "hasOrder", "(I)Z"⟩
abbrev cX5_blocksWith : ByteArray := prog_7_method_12_code
def yX5_blocksWith : MethodName := ⟨RX5, "blocksWith", "(II)I"⟩
abbrev cX5_copyTo : ByteArray := prog_7_method_13_code
def yX5_copyTo : MethodName := ⟨RX5, "copyTo", "([I)V"⟩
abbrev cX5_copyFrom : ByteArray := prog_7_method_14_code
def yX5_copyFrom : MethodName := ⟨RX5, "copyFrom", "([I)V"⟩
def RX6 : String := "QuarryOrders$Works"
def TX6 : u_T := fun k => match k with
  | 0 => ("QuarryOrders$Works", "state", "LQuarryOrders$State;", true)
  | _ => ("QuarryOrders$Works", "facts", "LQuarryOrders$Facts;", true)
def tyX6 : Nat → FieldType := fun k => match k with
  | 0 => .object "QuarryOrders$State"
  | _ => .object "QuarryOrders$Facts"
abbrev wsX60 : List Cond := u_ws RX6 TX6 2
theorem nmX6 : ∀ a, a < 2 → ∀ b, b < 2 → a ≠ b → (TX6 a).2.1 ≠ (TX6 b).2.1 := by decide +kernel
theorem tyX6_ok : ∀ k, k < 2 → parseFieldDescriptor (TX6 k).2.2.1 = some (tyX6 k) := by decide +kernel
abbrev cX6_init : ByteArray := prog_8_method_1_code
def yX6_init : MethodName := ⟨RX6, "<init>", "(LQuarryOrders$State;LQuarryOrders$Facts;)V"⟩
abbrev cX6_changeSetting : ByteArray := prog_8_method_2_code
def yX6_changeSetting : MethodName := ⟨RX6, "changeSetting", "(II)I"⟩
abbrev cX6_quarryBlock : ByteArray := prog_8_method_3_code
def yX6_quarryBlock : MethodName := ⟨RX6, "quarryBlock", "(IIII)I"⟩
abbrev cX6_addBlock : ByteArray := prog_8_method_4_code
def yX6_addBlock : MethodName := ⟨RX6, "addBlock", "(IIII)I"⟩
abbrev cX6_cutBlock : ByteArray := prog_8_method_5_code
def yX6_cutBlock : MethodName := ⟨RX6, "cutBlock", "(III)I"⟩
abbrev cX6_addPiece : ByteArray := prog_8_method_6_code
def yX6_addPiece : MethodName := ⟨RX6, "addPiece", "(IIIZ)I"⟩
abbrev cX6_moveBlock : ByteArray := prog_8_method_7_code
def yX6_moveBlock : MethodName := ⟨RX6, "moveBlock", "(I)I"⟩
abbrev cX6_takeOrder : ByteArray := prog_8_method_8_code
def yX6_takeOrder : MethodName := ⟨RX6, "takeOrder", "(III)I"⟩
abbrev cX6_giveBlock : ByteArray := prog_8_method_9_code
def yX6_giveBlock : MethodName := ⟨RX6, "giveBlock", "(II)I"⟩
abbrev cX6_takeBlockAway : ByteArray := prog_8_method_10_code
def yX6_takeBlockAway : MethodName := ⟨RX6, "takeBlockAway", "(I)I"⟩
abbrev cX6_isLimit : ByteArray := prog_8_method_11_code
def yX6_isLimit : MethodName := ⟨RX6, "isLimit", "(I)Z"⟩
abbrev cX6_changeLimits : ByteArray := prog_8_method_12_code
def yX6_changeLimits : MethodName := ⟨RX6, "changeLimits", "(IIII)I"⟩
abbrev cX6_loadBlock : ByteArray := prog_8_method_13_code
def yX6_loadBlock : MethodName := ⟨RX6, "loadBlock", "(III)I"⟩
abbrev cX6_unloadBlock : ByteArray := prog_8_method_14_code
def yX6_unloadBlock : MethodName := ⟨RX6, "unloadBlock", "(I)I"⟩
abbrev cX6_sendLorry : ByteArray := prog_8_method_15_code
def yX6_sendLorry : MethodName := ⟨RX6, "sendLorry", "(I)I"⟩
abbrev cX6_deliver : ByteArray := prog_8_method_16_code
def yX6_deliver : MethodName := ⟨RX6, "deliver", "(I)I"⟩
abbrev cX6_passNight : ByteArray := prog_8_method_17_code
def yX6_passNight : MethodName := ⟨RX6, "passNight", "(I)I"⟩
abbrev cX6_crackBlocks : ByteArray := prog_8_method_18_code
def yX6_crackBlocks : MethodName := ⟨RX6, "crackBlocks", "()I"⟩
abbrev cX6_dryBlocks : ByteArray := prog_8_method_19_code
def yX6_dryBlocks : MethodName := ⟨RX6, "dryBlocks", "()V"⟩
def RX7 : String := "QuarryOrders"
def TX7 : u_T := fun k => match k with
  | 0 => ("QuarryOrders", "state", "LQuarryOrders$State;", true)
  | 1 => ("QuarryOrders", "facts", "LQuarryOrders$Facts;", true)
  | 2 => ("QuarryOrders", "works", "LQuarryOrders$Works;", true)
  | 3 => ("QuarryOrders", "history", "LQuarryOrders$History;", true)
  | 4 => ("QuarryOrders", "slots", "LQuarryOrders$Slots;", true)
  | _ => ("QuarryOrders", "pad", "LQuarryOrders$Pad;", true)
def tyX7 : Nat → FieldType := fun k => match k with
  | 0 => .object "QuarryOrders$State"
  | 1 => .object "QuarryOrders$Facts"
  | 2 => .object "QuarryOrders$Works"
  | 3 => .object "QuarryOrders$History"
  | 4 => .object "QuarryOrders$Slots"
  | _ => .object "QuarryOrders$Pad"
abbrev wsX70 : List Cond := u_ws RX7 TX7 6
theorem nmX7 : ∀ a, a < 6 → ∀ b, b < 6 → a ≠ b → (TX7 a).2.1 ≠ (TX7 b).2.1 := by decide +kernel
theorem tyX7_ok : ∀ k, k < 6 → parseFieldDescriptor (TX7 k).2.2.1 = some (tyX7 k) := by decide +kernel
abbrev cX7_init : ByteArray := prog_1_method_1_code
def yX7_init : MethodName := ⟨RX7, "<init>", "()V"⟩
abbrev cX7_set : ByteArray := prog_1_method_2_code
def yX7_set : MethodName := ⟨RX7, "set", "(II)I"⟩
abbrev cX7_quarry : ByteArray := prog_1_method_3_code
def yX7_quarry : MethodName := ⟨RX7, "quarry", "(IIII)I"⟩
abbrev cX7_cut : ByteArray := prog_1_method_4_code
def yX7_cut : MethodName := ⟨RX7, "cut", "(III)I"⟩
abbrev cX7_shelter : ByteArray := prog_1_method_5_code
def yX7_shelter : MethodName := ⟨RX7, "shelter", "(I)I"⟩
abbrev cX7_order : ByteArray := prog_1_method_6_code
def yX7_order : MethodName := ⟨RX7, "order", "(III)I"⟩
abbrev cX7_give : ByteArray := prog_1_method_7_code
def yX7_give : MethodName := ⟨RX7, "give", "(II)I"⟩
abbrev cX7_takeBack : ByteArray := prog_1_method_8_code
def yX7_takeBack : MethodName := ⟨RX7, "takeBack", "(I)I"⟩
abbrev cX7_limits : ByteArray := prog_1_method_9_code
def yX7_limits : MethodName := ⟨RX7, "limits", "(IIII)I"⟩
abbrev cX7_load : ByteArray := prog_1_method_10_code
def yX7_load : MethodName := ⟨RX7, "load", "(III)I"⟩
abbrev cX7_unload : ByteArray := prog_1_method_11_code
def yX7_unload : MethodName := ⟨RX7, "unload", "(I)I"⟩
abbrev cX7_leave : ByteArray := prog_1_method_12_code
def yX7_leave : MethodName := ⟨RX7, "leave", "(I)I"⟩
abbrev cX7_night : ByteArray := prog_1_method_13_code
def yX7_night : MethodName := ⟨RX7, "night", "(I)I"⟩
abbrev cX7_of : ByteArray := prog_1_method_14_code
def yX7_of : MethodName := ⟨RX7, "of", "(II)I"⟩
abbrev cX7_ofOrder : ByteArray := prog_1_method_15_code
def yX7_ofOrder : MethodName := ⟨RX7, "ofOrder", "(II)I"⟩
abbrev cX7_ofLorry : ByteArray := prog_1_method_16_code
def yX7_ofLorry : MethodName := ⟨RX7, "ofLorry", "(II)I"⟩
abbrev cX7_count : ByteArray := prog_1_method_17_code
def yX7_count : MethodName := ⟨RX7, "count", "(I)I"⟩
abbrev cX7_meanWeight : ByteArray := prog_1_method_18_code
def yX7_meanWeight : MethodName := ⟨RX7, "meanWeight", "()J"⟩
abbrev cX7_why : ByteArray := prog_1_method_19_code
def yX7_why : MethodName := ⟨RX7, "why", "(I)I"⟩
abbrev cX7_bestBlock : ByteArray := prog_1_method_20_code
def yX7_bestBlock : MethodName := ⟨RX7, "bestBlock", "(I)I"⟩
abbrev cX7_fittingCut : ByteArray := prog_1_method_21_code
def yX7_fittingCut : MethodName := ⟨RX7, "fittingCut", "(III)I"⟩
abbrev cX7_ifFrost : ByteArray := prog_1_method_22_code
def yX7_ifFrost : MethodName := ⟨RX7, "ifFrost", "()I"⟩
abbrev cX7_bestPlace : ByteArray := prog_1_method_23_code
def yX7_bestPlace : MethodName := ⟨RX7, "bestPlace", "(II)I"⟩
abbrev cX7_put : ByteArray := prog_1_method_24_code
def yX7_put : MethodName := ⟨RX7, "put", "(J)I"⟩
abbrev cX7_wipe : ByteArray := prog_1_method_25_code
def yX7_wipe : MethodName := ⟨RX7, "wipe", "()I"⟩
abbrev cX7_fault : ByteArray := prog_1_method_26_code
def yX7_fault : MethodName := ⟨RX7, "fault", "()I"⟩
abbrev cX7_carryOut : ByteArray := prog_1_method_27_code
def yX7_carryOut : MethodName := ⟨RX7, "carryOut", "()I"⟩
abbrev cX7_carryOrder : ByteArray := prog_1_method_28_code
def yX7_carryOrder : MethodName := ⟨RX7, "carryOrder", "()I"⟩
abbrev cX7_undo : ByteArray := prog_1_method_29_code
def yX7_undo : MethodName := ⟨RX7, "undo", "()I"⟩
abbrev cX7_save : ByteArray := prog_1_method_30_code
def yX7_save : MethodName := ⟨RX7, "save", "(I)I"⟩
abbrev cX7_restore : ByteArray := prog_1_method_31_code
def yX7_restore : MethodName := ⟨RX7, "restore", "(I)I"⟩
abbrev cX7_isLorry : ByteArray := prog_1_method_32_code
def yX7_isLorry : MethodName := ⟨RX7, "isLorry", "(I)Z"⟩
abbrev cX7_isSlot : ByteArray := prog_1_method_33_code
def yX7_isSlot : MethodName := ⟨RX7, "isSlot", "(I)Z"⟩
abbrev cX7_isSize : ByteArray := prog_1_method_34_code
def yX7_isSize : MethodName := ⟨RX7, "isSize", "(I)Z"⟩
abbrev cX7_greatestOf : ByteArray := prog_1_method_35_code
def yX7_greatestOf : MethodName := ⟨RX7, "greatestOf", "(III)I"⟩
abbrev cX7_leastOf : ByteArray := prog_1_method_36_code
def yX7_leastOf : MethodName := ⟨RX7, "leastOf", "(III)I"⟩
abbrev cX7_middleOf : ByteArray := prog_1_method_37_code
def yX7_middleOf : MethodName := ⟨RX7, "middleOf", "(III)I"⟩
abbrev cX7_copyRow : ByteArray := prog_1_method_38_code
def yX7_copyRow : MethodName := ⟨RX7, "copyRow", "([I[I)V"⟩
def RX8 : String := "QuarryOrdersModel"
def TX8 : u_T := fun k => match k with
  | 0 => ("QuarryOrdersModel", "s", "[I", true)
  | 1 => ("QuarryOrdersModel", "ahead", "[I", true)
  | 2 => ("QuarryOrdersModel", "history", "[I", true)
  | 3 => ("QuarryOrdersModel", "kept", "I", false)
  | 4 => ("QuarryOrdersModel", "slots", "[I", true)
  | 5 => ("QuarryOrdersModel", "isSaved", "[Z", true)
  | 6 => ("QuarryOrdersModel", "pad", "[I", true)
  | 7 => ("QuarryOrdersModel", "length", "I", false)
  | 8 => ("QuarryOrdersModel", "sorted", "[I", true)
  | 9 => ("QuarryOrdersModel", "position", "I", false)
  | 10 => ("QuarryOrdersModel", "isWrong", "Z", false)
  | _ => ("QuarryOrdersModel", "told", "[I", true)
def tyX8 : Nat → FieldType := fun k => match k with
  | 0 => .array .int
  | 1 => .array .int
  | 2 => .array .int
  | 3 => .int
  | 4 => .array .int
  | 5 => .array .boolean
  | 6 => .array .int
  | 7 => .int
  | 8 => .array .int
  | 9 => .int
  | 10 => .boolean
  | _ => .array .int
abbrev wsX80 : List Cond := u_ws RX8 TX8 12
theorem nmX8 : ∀ a, a < 12 → ∀ b, b < 12 → a ≠ b → (TX8 a).2.1 ≠ (TX8 b).2.1 := by decide +kernel
theorem tyX8_ok : ∀ k, k < 12 → parseFieldDescriptor (TX8 k).2.2.1 = some (tyX8 k) := by decide +kernel
abbrev cX8_init : ByteArray := prog_10_method_1_code
def yX8_init : MethodName := ⟨RX8, "<init>", "()V"⟩
abbrev cX8_in : ByteArray := prog_10_method_3_code
def yX8_in : MethodName := ⟨RX8, "in", "(III)Z"⟩
abbrev cX8_isBlock : ByteArray := prog_10_method_4_code
def yX8_isBlock : MethodName := ⟨RX8, "isBlock", "(I)Z"⟩
abbrev cX8_isOrder : ByteArray := prog_10_method_5_code
def yX8_isOrder : MethodName := ⟨RX8, "isOrder", "(I)Z"⟩
abbrev cX8_isLorry : ByteArray := prog_10_method_6_code
def yX8_isLorry : MethodName := ⟨RX8, "isLorry", "(I)Z"⟩
abbrev cX8_at : ByteArray := prog_10_method_7_code
def yX8_at : MethodName := ⟨RX8, "at", "(II)I"⟩
abbrev cX8_ofOrderAt : ByteArray := prog_10_method_8_code
def yX8_ofOrderAt : MethodName := ⟨RX8, "ofOrderAt", "(II)I"⟩
abbrev cX8_ofLorryAt : ByteArray := prog_10_method_9_code
def yX8_ofLorryAt : MethodName := ⟨RX8, "ofLorryAt", "(II)I"⟩
abbrev cX8_looks : ByteArray := prog_10_method_10_code
def yX8_looks : MethodName := ⟨RX8, "looks", "()V"⟩
abbrev cX8_records : ByteArray := prog_10_method_11_code
def yX8_records : MethodName := ⟨RX8, "records", "()V"⟩
abbrev cX8_weight : ByteArray := prog_10_method_12_code
def yX8_weight : MethodName := ⟨RX8, "weight", "(I)I"⟩
abbrev cX8_isAt : ByteArray := prog_10_method_13_code
def yX8_isAt : MethodName := ⟨RX8, "isAt", "(II)Z"⟩
abbrev cX8_isHere : ByteArray := prog_10_method_14_code
def yX8_isHere : MethodName := ⟨RX8, "isHere", "(I)Z"⟩
abbrev cX8_underRoof : ByteArray := prog_10_method_15_code
def yX8_underRoof : MethodName := ⟨RX8, "underRoof", "()I"⟩
abbrev cX8_isSize : ByteArray := prog_10_method_16_code
def yX8_isSize : MethodName := ⟨RX8, "isSize", "(I)Z"⟩
abbrev cX8_newBlock : ByteArray := prog_10_method_17_code
def yX8_newBlock : MethodName := ⟨RX8, "newBlock", "(IIII)I"⟩
abbrev cX8_part : ByteArray := prog_10_method_18_code
def yX8_part : MethodName := ⟨RX8, "part", "(III)V"⟩
abbrev cX8_sorts : ByteArray := prog_10_method_19_code
def yX8_sorts : MethodName := ⟨RX8, "sorts", "(III)V"⟩
abbrev cX8_excess : ByteArray := prog_10_method_20_code
def yX8_excess : MethodName := ⟨RX8, "excess", "(IIII)I"⟩
abbrev cX8_excessOf : ByteArray := prog_10_method_21_code
def yX8_excessOf : MethodName := ⟨RX8, "excessOf", "(II)I"⟩
abbrev cX8_canGive : ByteArray := prog_10_method_22_code
def yX8_canGive : MethodName := ⟨RX8, "canGive", "(II)Z"⟩
abbrev cX8_blockAt : ByteArray := prog_10_method_23_code
def yX8_blockAt : MethodName := ⟨RX8, "blockAt", "(II)I"⟩
abbrev cX8_loadOf : ByteArray := prog_10_method_24_code
def yX8_loadOf : MethodName := ⟨RX8, "loadOf", "(I)I"⟩
abbrev cX8_axle : ByteArray := prog_10_method_25_code
def yX8_axle : MethodName := ⟨RX8, "axle", "(IZII)F"⟩
abbrev cX8_axleNow : ByteArray := prog_10_method_26_code
def yX8_axleNow : MethodName := ⟨RX8, "axleNow", "(IZ)F"⟩
abbrev cX8_hasCracked : ByteArray := prog_10_method_27_code
def yX8_hasCracked : MethodName := ⟨RX8, "hasCracked", "(I)Z"⟩
abbrev cX8_blocksOn : ByteArray := prog_10_method_28_code
def yX8_blocksOn : MethodName := ⟨RX8, "blocksOn", "(I)I"⟩
abbrev cX8_whyNot : ByteArray := prog_10_method_29_code
def yX8_whyNot : MethodName := ⟨RX8, "whyNot", "(I)I"⟩
abbrev cX8_delivers : ByteArray := prog_10_method_30_code
def yX8_delivers : MethodName := ⟨RX8, "delivers", "(I)I"⟩
abbrev cX8_quarries : ByteArray := prog_10_method_31_code
def yX8_quarries : MethodName := ⟨RX8, "quarries", "(IIII)I"⟩
abbrev cX8_canBeCut : ByteArray := prog_10_method_32_code
def yX8_canBeCut : MethodName := ⟨RX8, "canBeCut", "(I)Z"⟩
abbrev cX8_cuts : ByteArray := prog_10_method_33_code
def yX8_cuts : MethodName := ⟨RX8, "cuts", "(III)I"⟩
abbrev cX8_orders : ByteArray := prog_10_method_34_code
def yX8_orders : MethodName := ⟨RX8, "orders", "(III)I"⟩
abbrev cX8_gives : ByteArray := prog_10_method_35_code
def yX8_gives : MethodName := ⟨RX8, "gives", "(II)I"⟩
abbrev cX8_loads : ByteArray := prog_10_method_36_code
def yX8_loads : MethodName := ⟨RX8, "loads", "(III)I"⟩
abbrev cX8_leaves : ByteArray := prog_10_method_37_code
def yX8_leaves : MethodName := ⟨RX8, "leaves", "(I)I"⟩
abbrev cX8_wouldCrack : ByteArray := prog_10_method_38_code
def yX8_wouldCrack : MethodName := ⟨RX8, "wouldCrack", "(I)Z"⟩
abbrev cX8_nights : ByteArray := prog_10_method_39_code
def yX8_nights : MethodName := ⟨RX8, "nights", "(I)I"⟩
abbrev cX8_does : ByteArray := prog_10_method_40_code
def yX8_does : MethodName := ⟨RX8, "does", "(IIIII)I"⟩
abbrev cX8_tries : ByteArray := prog_10_method_41_code
def yX8_tries : MethodName := ⟨RX8, "tries", "(IIIII)I"⟩
abbrev cX8_lays : ByteArray := prog_10_method_42_code
def yX8_lays : MethodName := ⟨RX8, "lays", "(II)I"⟩
abbrev cX8_set : ByteArray := prog_10_method_43_code
def yX8_set : MethodName := ⟨RX8, "set", "(II)I"⟩
abbrev cX8_quarry : ByteArray := prog_10_method_44_code
def yX8_quarry : MethodName := ⟨RX8, "quarry", "(IIII)I"⟩
abbrev cX8_cut : ByteArray := prog_10_method_45_code
def yX8_cut : MethodName := ⟨RX8, "cut", "(III)I"⟩
abbrev cX8_shelter : ByteArray := prog_10_method_46_code
def yX8_shelter : MethodName := ⟨RX8, "shelter", "(I)I"⟩
abbrev cX8_order : ByteArray := prog_10_method_47_code
def yX8_order : MethodName := ⟨RX8, "order", "(III)I"⟩
abbrev cX8_give : ByteArray := prog_10_method_48_code
def yX8_give : MethodName := ⟨RX8, "give", "(II)I"⟩
abbrev cX8_takeBack : ByteArray := prog_10_method_49_code
def yX8_takeBack : MethodName := ⟨RX8, "takeBack", "(I)I"⟩
abbrev cX8_limits : ByteArray := prog_10_method_50_code
def yX8_limits : MethodName := ⟨RX8, "limits", "(IIII)I"⟩
abbrev cX8_load : ByteArray := prog_10_method_51_code
def yX8_load : MethodName := ⟨RX8, "load", "(III)I"⟩
abbrev cX8_unload : ByteArray := prog_10_method_52_code
def yX8_unload : MethodName := ⟨RX8, "unload", "(I)I"⟩
abbrev cX8_leave : ByteArray := prog_10_method_53_code
def yX8_leave : MethodName := ⟨RX8, "leave", "(I)I"⟩
abbrev cX8_night : ByteArray := prog_10_method_54_code
def yX8_night : MethodName := ⟨RX8, "night", "(I)I"⟩
abbrev cX8_of : ByteArray := prog_10_method_55_code
def yX8_of : MethodName := ⟨RX8, "of", "(II)I"⟩
abbrev cX8_couldBeGiven : ByteArray := prog_10_method_56_code
def yX8_couldBeGiven : MethodName := ⟨RX8, "couldBeGiven", "(I)I"⟩
abbrev cX8_ofOrder : ByteArray := prog_10_method_57_code
def yX8_ofOrder : MethodName := ⟨RX8, "ofOrder", "(II)I"⟩
abbrev cX8_floatBits : ByteArray := prog_10_method_58_code
def yX8_floatBits : MethodName := ⟨RX8, "floatBits", "(F)I"⟩
abbrev cX8_ofLorry : ByteArray := prog_10_method_59_code
def yX8_ofLorry : MethodName := ⟨RX8, "ofLorry", "(II)I"⟩
abbrev cX8_setOf : ByteArray := prog_10_method_60_code
def yX8_setOf : MethodName := ⟨RX8, "setOf", "(Z)I"⟩
abbrev cX8_notCut : ByteArray := prog_10_method_61_code
def yX8_notCut : MethodName := ⟨RX8, "notCut", "(Z)I"⟩
abbrev cX8_count : ByteArray := prog_10_method_62_code
def yX8_count : MethodName := ⟨RX8, "count", "(I)I"⟩
abbrev cX8_bitsOf : ByteArray := prog_10_method_63_code
def yX8_bitsOf : MethodName := ⟨RX8, "bitsOf", "(D)J"⟩
abbrev cX8_meanWeight : ByteArray := prog_10_method_64_code
def yX8_meanWeight : MethodName := ⟨RX8, "meanWeight", "()J"⟩
abbrev cX8_why : ByteArray := prog_10_method_65_code
def yX8_why : MethodName := ⟨RX8, "why", "(I)I"⟩
abbrev cX8_bestBlock : ByteArray := prog_10_method_66_code
def yX8_bestBlock : MethodName := ⟨RX8, "bestBlock", "(I)I"⟩
abbrev cX8_isFitting : ByteArray := prog_10_method_67_code
def yX8_isFitting : MethodName := ⟨RX8, "isFitting", "(IIII)Z"⟩
abbrev cX8_fittingCut : ByteArray := prog_10_method_68_code
def yX8_fittingCut : MethodName := ⟨RX8, "fittingCut", "(III)I"⟩
abbrev cX8_ifFrost : ByteArray := prog_10_method_69_code
def yX8_ifFrost : MethodName := ⟨RX8, "ifFrost", "()I"⟩
abbrev cX8_share : ByteArray := prog_10_method_70_code
def yX8_share : MethodName := ⟨RX8, "share", "(III)F"⟩
abbrev cX8_bestPlace : ByteArray := prog_10_method_71_code
def yX8_bestPlace : MethodName := ⟨RX8, "bestPlace", "(II)I"⟩
abbrev cX8_put : ByteArray := prog_10_method_72_code
def yX8_put : MethodName := ⟨RX8, "put", "(J)I"⟩
abbrev cX8_wipe : ByteArray := prog_10_method_73_code
def yX8_wipe : MethodName := ⟨RX8, "wipe", "()I"⟩
abbrev cX8_isNext : ByteArray := prog_10_method_74_code
def yX8_isNext : MethodName := ⟨RX8, "isNext", "(II)Z"⟩
abbrev cX8_takes : ByteArray := prog_10_method_75_code
def yX8_takes : MethodName := ⟨RX8, "takes", "(II)I"⟩
abbrev cX8_takesNumber : ByteArray := prog_10_method_76_code
def yX8_takesNumber : MethodName := ⟨RX8, "takesNumber", "()I"⟩
abbrev cX8_takesBehind : ByteArray := prog_10_method_77_code
def yX8_takesBehind : MethodName := ⟨RX8, "takesBehind", "(I)I"⟩
abbrev cX8_readOrder : ByteArray := prog_10_method_78_code
def yX8_readOrder : MethodName := ⟨RX8, "readOrder", "()V"⟩
abbrev cX8_goes : ByteArray := prog_10_method_79_code
def yX8_goes : MethodName := ⟨RX8, "goes", "(Z)I"⟩
abbrev cX8_fault : ByteArray := prog_10_method_80_code
def yX8_fault : MethodName := ⟨RX8, "fault", "()I"⟩
abbrev cX8_carryOut : ByteArray := prog_10_method_81_code
def yX8_carryOut : MethodName := ⟨RX8, "carryOut", "()I"⟩
abbrev cX8_undo : ByteArray := prog_10_method_82_code
def yX8_undo : MethodName := ⟨RX8, "undo", "()I"⟩
abbrev cX8_save : ByteArray := prog_10_method_83_code
def yX8_save : MethodName := ⟨RX8, "save", "(I)I"⟩
abbrev cX8_restore : ByteArray := prog_10_method_84_code
def yX8_restore : MethodName := ⟨RX8, "restore", "(I)I"⟩
def RJ6 : String := "java/lang/Integer"
def TJ6 : u_T := fun k => match k with
  | _ => ("", "", "", false)
def tyJ6 : Nat → FieldType := fun k => match k with
  | _ => .int
abbrev wsJ60 : List Cond := u_ws RJ6 TJ6 0
theorem nmJ6 : ∀ a, a < 0 → ∀ b, b < 0 → a ≠ b → (TJ6 a).2.1 ≠ (TJ6 b).2.1 := by decide +kernel
theorem tyJ6_ok : ∀ k, k < 0 → parseFieldDescriptor (TJ6 k).2.2.1 = some (tyJ6 k) := by decide +kernel
abbrev cJ6_bitCount_0f7a4 : ByteArray := prog_11_method_49_code
def yJ6_bitCount_0f7a4 : MethodName := ⟨RJ6, "bitCount", "(I)I"⟩
def RJ9 : String := "java/lang/Math"
def TJ9 : u_T := fun k => match k with
  | _ => ("", "", "", false)
def tyJ9 : Nat → FieldType := fun k => match k with
  | _ => .int
abbrev wsJ90 : List Cond := u_ws RJ9 TJ9 0
theorem nmJ9 : ∀ a, a < 0 → ∀ b, b < 0 → a ≠ b → (TJ9 a).2.1 ≠ (TJ9 b).2.1 := by decide +kernel
theorem tyJ9_ok : ∀ k, k < 0 → parseFieldDescriptor (TJ9 k).2.2.1 = some (tyJ9 k) := by decide +kernel
abbrev cJ9_max_7cf53 : ByteArray := prog_12_method_65_code
def yJ9_max_7cf53 : MethodName := ⟨RJ9, "max", "(II)I"⟩
abbrev cJ9_min_7cf53 : ByteArray := prog_12_method_69_code
def yJ9_min_7cf53 : MethodName := ⟨RJ9, "min", "(II)I"⟩
def RJ0 : String := "java/lang/String"
def TJ0 : u_T := fun k => match k with
  | _ => ("", "", "", false)
def tyJ0 : Nat → FieldType := fun k => match k with
  | _ => .int
abbrev wsJ00 : List Cond := u_ws RJ0 TJ0 0
theorem nmJ0 : ∀ a, a < 0 → ∀ b, b < 0 → a ≠ b → (TJ0 a).2.1 ≠ (TJ0 b).2.1 := by decide +kernel
theorem tyJ0_ok : ∀ k, k < 0 → parseFieldDescriptor (TJ0 k).2.2.1 = some (tyJ0 k) := by decide +kernel
abbrev cJ0_length_8abf5 : ByteArray := prog_13_method_54_code
def yJ0_length_8abf5 : MethodName := ⟨RJ0, "length", "()I"⟩
abbrev cJ0_isEmpty_aae02 : ByteArray := prog_13_method_55_code
def yJ0_isEmpty_aae02 : MethodName := ⟨RJ0, "isEmpty", "()Z"⟩
abbrev cJ0_charAt_5068e : ByteArray := prog_13_method_56_code
def yJ0_charAt_5068e : MethodName := ⟨RJ0, "charAt", "(I)C"⟩
abbrev cJ0_coder_7d493 : ByteArray := prog_13_method_152_code
def yJ0_coder_7d493 : MethodName := ⟨RJ0, "coder", "()B"⟩
abbrev cJ0_isLatin1_aae02 : ByteArray := prog_13_method_154_code
def yJ0_isLatin1_aae02 : MethodName := ⟨RJ0, "isLatin1", "()Z"⟩
abbrev cJ0_checkIndex_df160 : ByteArray := prog_13_method_155_code
def yJ0_checkIndex_df160 : MethodName := ⟨RJ0, "checkIndex", "(II)V"⟩
def RJ1 : String := "java/lang/StringLatin1"
def TJ1 : u_T := fun k => match k with
  | _ => ("", "", "", false)
def tyJ1 : Nat → FieldType := fun k => match k with
  | _ => .int
abbrev wsJ10 : List Cond := u_ws RJ1 TJ1 0
theorem nmJ1 : ∀ a, a < 0 → ∀ b, b < 0 → a ≠ b → (TJ1 a).2.1 ≠ (TJ1 b).2.1 := by decide +kernel
theorem tyJ1_ok : ∀ k, k < 0 → parseFieldDescriptor (TJ1 k).2.2.1 = some (tyJ1 k) := by decide +kernel
abbrev cJ1_charAt_3b067 : ByteArray := prog_14_method_2_code
def yJ1_charAt_3b067 : MethodName := ⟨RJ1, "charAt", "([BI)C"⟩
def RJ2 : String := "java/lang/StringUTF16"
def TJ2 : u_T := fun k => match k with
  | _ => ("", "", "", false)
def tyJ2 : Nat → FieldType := fun k => match k with
  | _ => .int
abbrev wsJ20 : List Cond := u_ws RJ2 TJ2 0
theorem nmJ2 : ∀ a, a < 0 → ∀ b, b < 0 → a ≠ b → (TJ2 a).2.1 ≠ (TJ2 b).2.1 := by decide +kernel
theorem tyJ2_ok : ∀ k, k < 0 → parseFieldDescriptor (TJ2 k).2.2.1 = some (tyJ2 k) := by decide +kernel
abbrev cJ2_getChar_3b067 : ByteArray := prog_15_method_5_code
def yJ2_getChar_3b067 : MethodName := ⟨RJ2, "getChar", "([BI)C"⟩
abbrev cJ2_length_9d52b : ByteArray := prog_15_method_6_code
def yJ2_length_9d52b : MethodName := ⟨RJ2, "length", "([B)I"⟩
abbrev cJ2_charAt_3b067 : ByteArray := prog_15_method_83_code
def yJ2_charAt_3b067 : MethodName := ⟨RJ2, "charAt", "([BI)C"⟩
abbrev cJ2_checkIndex_2214a : ByteArray := prog_15_method_91_code
def yJ2_checkIndex_2214a : MethodName := ⟨RJ2, "checkIndex", "(I[B)V"⟩
def RJ10 : String := "java/lang/System"
def TJ10 : u_T := fun k => match k with
  | _ => ("", "", "", false)
def tyJ10 : Nat → FieldType := fun k => match k with
  | _ => .int
abbrev wsJ100 : List Cond := u_ws RJ10 TJ10 0
theorem nmJ10 : ∀ a, a < 0 → ∀ b, b < 0 → a ≠ b → (TJ10 a).2.1 ≠ (TJ10 b).2.1 := by decide +kernel
theorem tyJ10_ok : ∀ k, k < 0 → parseFieldDescriptor (TJ10 k).2.2.1 = some (tyJ10 k) := by decide +kernel
def RJ3 : String := "jdk/internal/util/Preconditions"
def TJ3 : u_T := fun k => match k with
  | _ => ("", "", "", false)
def tyJ3 : Nat → FieldType := fun k => match k with
  | _ => .int
abbrev wsJ30 : List Cond := u_ws RJ3 TJ3 0
theorem nmJ3 : ∀ a, a < 0 → ∀ b, b < 0 → a ≠ b → (TJ3 a).2.1 ≠ (TJ3 b).2.1 := by decide +kernel
theorem tyJ3_ok : ∀ k, k < 0 → parseFieldDescriptor (TJ3 k).2.2.1 = some (tyJ3 k) := by decide +kernel
abbrev cJ3_checkIndex_8e157 : ByteArray := prog_17_method_11_code
def yJ3_checkIndex_8e157 : MethodName := ⟨RJ3, "checkIndex", "(IILjava/util/function/BiFunction;)I"⟩
def RL : String := "QuarryOrdersLaw"
abbrev cL_law : ByteArray := code
def yL_law : MethodName := ⟨RL, "law", "([I)Z"⟩
abbrev vwCl : List vw_C := [(RX1, TX1, 1), (RX2, TX2, 3), (RX3, TX3, 7), (RX4, TX4, 2), (RX5, TX5, 1), (RX6, TX6, 2), (RX7, TX7, 6), (RX8, TX8, 12)]
end
section
/-! MY WALK'S BASE: functions in plain form (zl, zg, zb..), and rows that carry 'function = some result' along the walk. -/
def zl {α β : Type} (x : α) (k : α → β) : β := k x
def zg {ρ : Type} (b : Bool) (k : Option ρ) : Option ρ := match b with
  | true => k
  | false => none
theorem zg_s {ρ : Type} {b : Bool} {k : Option ρ} {r : ρ} (h : zg b k = some r) : b = true ∧ k = some r := by
  cases b with
  | true => exact ⟨rfl, h⟩
  | false => cases h
def zb1 {α ρ : Type} (o : Option α) (k : α → Option ρ) : Option ρ := match o with
  | some a => k a
  | none => none
def zb2 {α β ρ : Type} (o : Option (α × β)) (k : α → β → Option ρ) : Option ρ := match o with
  | some (a, b) => k a b
  | none => none
def zb3 {α β γ ρ : Type} (o : Option (α × β × γ)) (k : α → β → γ → Option ρ) : Option ρ := match o with
  | some (a, b, c) => k a b c
  | none => none
def zb4 {α β γ δ ρ : Type} (o : Option (α × β × γ × δ)) (k : α → β → γ → δ → Option ρ) : Option ρ := match o with
  | some (a, b, c, d) => k a b c d
  | none => none
def zb5 {α β γ δ ε ρ : Type} (o : Option (α × β × γ × δ × ε)) (k : α → β → γ → δ → ε → Option ρ) : Option ρ := match o with
  | some (a, b, c, d, e) => k a b c d e
  | none => none
def zb6 {α β γ δ ε ζ ρ : Type} (o : Option (α × β × γ × δ × ε × ζ)) (k : α → β → γ → δ → ε → ζ → Option ρ) : Option ρ := match o with
  | some (a, b, c, d, e, f) => k a b c d e f
  | none => none
def zb7 {α β γ δ ε ζ η ρ : Type} (o : Option (α × β × γ × δ × ε × ζ × η)) (k : α → β → γ → δ → ε → ζ → η → Option ρ) : Option ρ := match o with
  | some (a, b, c, d, e, f, g) => k a b c d e f g
  | none => none
def zb8 {α β γ δ ε ζ η θ ρ : Type} (o : Option (α × β × γ × δ × ε × ζ × η × θ)) (k : α → β → γ → δ → ε → ζ → η → θ → Option ρ) : Option ρ := match o with
  | some (a, b, c, d, e, f, g, i) => k a b c d e f g i
  | none => none
theorem zb1_s {α ρ : Type} {o : Option α} {k : α → Option ρ} {r : ρ} (h : zb1 o k = some r) : ∃ a, o = some a ∧ k a = some r := by
  cases o with
  | none => cases h
  | some a => exact ⟨a, rfl, h⟩
theorem zb2_s {α β ρ : Type} {o : Option (α × β)} {k : α → β → Option ρ} {r : ρ} (h : zb2 o k = some r) : ∃ a b, o = some (a, b) ∧ k a b = some r := by
  cases o with
  | none => cases h
  | some q => exact ⟨q.1, q.2, rfl, h⟩
theorem zb3_s {α β γ ρ : Type} {o : Option (α × β × γ)} {k : α → β → γ → Option ρ} {r : ρ} (h : zb3 o k = some r) : ∃ a b c, o = some (a, b, c) ∧ k a b c = some r := by
  cases o with
  | none => cases h
  | some q => exact ⟨q.1, q.2.1, q.2.2, rfl, h⟩
theorem zb4_s {α β γ δ ρ : Type} {o : Option (α × β × γ × δ)} {k : α → β → γ → δ → Option ρ} {r : ρ} (h : zb4 o k = some r) : ∃ a b c d, o = some (a, b, c, d) ∧ k a b c d = some r := by
  cases o with
  | none => cases h
  | some q => exact ⟨q.1, q.2.1, q.2.2.1, q.2.2.2, rfl, h⟩
theorem zb5_s {α β γ δ ε ρ : Type} {o : Option (α × β × γ × δ × ε)} {k : α → β → γ → δ → ε → Option ρ} {r : ρ} (h : zb5 o k = some r) : ∃ a b c d e, o = some (a, b, c, d, e) ∧ k a b c d e = some r := by
  cases o with
  | none => cases h
  | some q => exact ⟨q.1, q.2.1, q.2.2.1, q.2.2.2.1, q.2.2.2.2, rfl, h⟩
theorem zb6_s {α β γ δ ε ζ ρ : Type} {o : Option (α × β × γ × δ × ε × ζ)} {k : α → β → γ → δ → ε → ζ → Option ρ} {r : ρ} (h : zb6 o k = some r) : ∃ a b c d e f, o = some (a, b, c, d, e, f) ∧ k a b c d e f = some r := by
  cases o with
  | none => cases h
  | some q => exact ⟨q.1, q.2.1, q.2.2.1, q.2.2.2.1, q.2.2.2.2.1, q.2.2.2.2.2, rfl, h⟩
theorem zb7_s {α β γ δ ε ζ η ρ : Type} {o : Option (α × β × γ × δ × ε × ζ × η)} {k : α → β → γ → δ → ε → ζ → η → Option ρ} {r : ρ} (h : zb7 o k = some r) : ∃ a b c d e f g, o = some (a, b, c, d, e, f, g) ∧ k a b c d e f g = some r := by
  cases o with
  | none => cases h
  | some q => exact ⟨q.1, q.2.1, q.2.2.1, q.2.2.2.1, q.2.2.2.2.1, q.2.2.2.2.2.1, q.2.2.2.2.2.2, rfl, h⟩
theorem zb8_s {α β γ δ ε ζ η θ ρ : Type} {o : Option (α × β × γ × δ × ε × ζ × η × θ)} {k : α → β → γ → δ → ε → ζ → η → θ → Option ρ} {r : ρ} (h : zb8 o k = some r) : ∃ a b c d e f g i, o = some (a, b, c, d, e, f, g, i) ∧ k a b c d e f g i = some r := by
  cases o with
  | none => cases h
  | some q => exact ⟨q.1, q.2.1, q.2.2.1, q.2.2.2.1, q.2.2.2.2.1, q.2.2.2.2.2.1, q.2.2.2.2.2.2.1, q.2.2.2.2.2.2.2, rfl, h⟩
/-- guards -/
def zin (i : Int32) (n : Nat) : Bool := decide (0 ≤ i.toInt ∧ i.toInt < n)
theorem zin_s {i : Int32} {n : Nat} (h : zin i n = true) : vp_in i n := vp_in_iff.mpr (of_decide_eq_true h)
def znz (y : Int32) : Bool := decide (¬ y = 0)
def zbo (v : Int32) : Bool := decide (v = 0 ∨ v = 1)
def z32 (r : UInt32) : Bool := decide (r &&& 0x7fffffff ≤ 0x7f800000)
def z64 (r : UInt64) : Bool := decide (r &&& 0x7fffffffffffffff ≤ 0x7ff0000000000000)
theorem z32_s {r : UInt32} (h : z32 r = true) : vf_n32 r := by
  unfold vf_n32
  exact of_decide_eq_true h
theorem z64_s {r : UInt64} (h : z64 r = true) : vf_n64 r := by
  unfold vf_n64
  exact of_decide_eq_true h
theorem zbo_n {v : Int32} (h : zbo v = true) : narrow .boolean (.int v) = .int v := by
  rcases of_decide_eq_true h with rfl | rfl <;> rfl
theorem zbo_f {v : Int32} (h : zbo v = true) : fits .boolean (.int v) = true := by
  rcases of_decide_eq_true h with rfl | rfl <;> rfl
theorem z_fm {α β : Type} {f : α → Option β} : ∀ {is : List α} {w : List β}, is.map f = w.map some → is.filterMap f = w := by
  intro is
  induction is with
  | nil => intro w h; cases w with
    | nil => rfl
    | cons b w => cases h
  | cons i is ih => intro w h; cases w with
    | nil => cases h
    | cons b w =>
      have h1 := List.cons.inj h
      rw [List.filterMap_cons, h1.1]
      exact congrArg (b :: ·) (ih h1.2)
/-! the one table of words -/
def zT : List Cond := lw_tbl.filter goodWord
theorem zT_i {w : Cond} (h : w ∈ lw_tbl) (hg : goodWord w = true) : w ∈ zT := List.mem_filter.mpr ⟨h, hg⟩
theorem zT_g {w : Cond} (h : w ∈ zT) : goodWord w = true := (List.mem_filter.mp h).2
theorem z_good {a : Cond} {ws : List Cond} (h : ∀ w ∈ ws, w ∈ zT) : GoodIn (a :: zT) ws := fun w hw => ⟨List.mem_cons_of_mem _ (h w hw), good_of_word (zT_g (h w hw))⟩
theorem z_goodC {a b : Cond} (hb : b ∈ zT) : GoodIn (a :: zT) (b :: zT) := z_good (fun w hw => by
  rcases List.mem_cons.mp hw with rfl | h
  · exact hb
  · exact h)
/-- what the table says of an instance method, of a static one -/
def zMV (y : MethodName) (C : String) (bytes : ByteArray) (maxL : Nat) (ret : Option FieldType) (n : Nat) : Prop :=
  (Cond.instanceMethod y ∈ zT ∧ Cond.selects C y y ∈ zT ∧ Cond.initialized C ∈ zT ∧ Cond.code y bytes maxL ret ∈ zT) ∧ y.cls = C ∧ y.cls ≠ "java/lang/invoke/MethodHandle" ∧ y.cls ≠ "java/lang/invoke/VarHandle" ∧ (parseMethodDescriptor y.desc).map (fun d => d.parameters.length) = some n
def zMS (y : MethodName) (bytes : ByteArray) (maxL : Nat) (ret : Option FieldType) (n : Nat) : Prop :=
  (Cond.static y ∈ zT ∧ Cond.initialized y.cls ∈ zT ∧ Cond.code y bytes maxL ret ∈ zT) ∧ y.cls ≠ "java/lang/invoke/MethodHandle" ∧ y.cls ≠ "java/lang/invoke/VarHandle" ∧ (parseMethodDescriptor y.desc).map (fun d => d.parameters.length) = some n
def zMI (y : MethodName) (bytes : ByteArray) (maxL : Nat) (n : Nat) : Prop :=
  (Cond.instanceMethod y ∈ zT ∧ Cond.initialized y.cls ∈ zT ∧ Cond.code y bytes maxL none ∈ zT ∧ y.name = "<init>") ∧ y.cls ≠ "java/lang/invoke/MethodHandle" ∧ y.cls ≠ "java/lang/invoke/VarHandle" ∧ (parseMethodDescriptor y.desc).map (fun d => d.parameters.length) = some n
section ZB
variable {p : Program} {l : Launch} {e : Env} {R : Room} {s : State} {m : MethodId} {args : Array Value} {below : List Frame} {meth : Method} {c : Code} {H : Heap} {locs : List Loc} {cells slots : Nat} {Q : State → Prop}
variable {cc : ByteArray} {pc : Nat} {ls : Array Slot} {rest : List Value} {D : va_G} {tys : List (ClassId × FieldType)} {ws : va_W} {A : Nat → Prop} {H0 : Heap}
/-- a method's contract out of its body's walk -/
theorem zMet {y : MethodName} {maxL : Nat} {ret : Option FieldType} {rm : Room} {av : List Value} {B : State → Prop} {Qc : Array Value → State → Outcome → State → Prop} {mc ms : Nat} {free : Addr → Prop} (hy : plainName y.cls = true) (hav : (lg_sl av).length ≤ maxL)
    (body : ∀ (p : Program) (e : Env) (s : State) (m : MethodId) (below : List Frame) (meth : Method) (c : Code) (ls : Array Slot), p.tables.exec = Jvm.exec → c.code = cc → meth.sig.returnType = ret → c.maxLocals = maxL → (∀ w ∈ Cond.code y cc maxL ret :: zT, w.before av.toArray s = true) → s.vm.findClass y.cls = some m.cls → meth.locks = false → meth.name = y.name → B s → lv_has ls maxL (lv_args 0 av) →
      W p l e rm s m av.toArray below meth c s.heap [] 0 0 (MQ below Qc av.toArray s mc ms free) (F0 m 0 ls [])) : Met l y (Cond.code y cc maxL ret :: zT) rm (va_Pc av B) Qc mc ms free := by
  refine Met.ofW (cc := cc) (maxL := maxL) (ret := ret) hy rfl ?_
  intro p e s m args below meth c s₁ B' hml hv
  obtain ⟨rfl, hB⟩ := hv
  rw [lg_entry_eq]
  exact body p e s m below meth c _ B'.exec B'.bytes B'.returns hml (atoms_spec (ws := Cond.code y cc maxL ret :: zT) B'.pre) (findClass_of_methodNamed B'.named) B'.notSynchronized (name_of_methodNamed B'.named B'.method).1 hB (lv_entry av hav)
/-! branches -/
theorem zi_eq {ρ : Type} {a b : Option ρ} {r : ρ} {x : Int32} {off : Int} {tgt : Nat} (hexec : p.tables.exec = Jvm.exec) (hb : c.code = cc) (hdg : decode cc pc = .ok (.ifCond .eq off, 3)) (ht : (pc : Int) + off = (tgt : Int)) (h : (if x = 0 then a else b) = some r)
    (kt : a = some r → W p l e R s m args below meth c H locs cells slots Q (F0 m tgt ls rest)) (kf : b = some r → W p l e R s m args below meth c H locs cells slots Q (F0 m (pc + 3) ls rest)) : W p l e R s m args below meth c H locs cells slots Q (F0 m pc ls (.int x :: rest)) :=
  lv_if_eq hexec hb hdg ht (fun q => kt (by rwa [if_pos q] at h)) (fun q => kf (by rwa [if_neg q] at h))
theorem zi_ne {ρ : Type} {a b : Option ρ} {r : ρ} {x : Int32} {off : Int} {tgt : Nat} (hexec : p.tables.exec = Jvm.exec) (hb : c.code = cc) (hdg : decode cc pc = .ok (.ifCond .ne off, 3)) (ht : (pc : Int) + off = (tgt : Int)) (h : (if x = 0 then b else a) = some r)
    (kt : a = some r → W p l e R s m args below meth c H locs cells slots Q (F0 m tgt ls rest)) (kf : b = some r → W p l e R s m args below meth c H locs cells slots Q (F0 m (pc + 3) ls rest)) : W p l e R s m args below meth c H locs cells slots Q (F0 m pc ls (.int x :: rest)) :=
  lv_if_ne hexec hb hdg ht (fun q => kt (by rwa [if_neg q] at h)) (fun q => kf (by rwa [if_pos q] at h))
theorem zi_lt {ρ : Type} {a b : Option ρ} {r : ρ} {x : Int32} {off : Int} {tgt : Nat} (hexec : p.tables.exec = Jvm.exec) (hb : c.code = cc) (hdg : decode cc pc = .ok (.ifCond .lt off, 3)) (ht : (pc : Int) + off = (tgt : Int)) (h : (if x < 0 then a else b) = some r)
    (kt : a = some r → W p l e R s m args below meth c H locs cells slots Q (F0 m tgt ls rest)) (kf : b = some r → W p l e R s m args below meth c H locs cells slots Q (F0 m (pc + 3) ls rest)) : W p l e R s m args below meth c H locs cells slots Q (F0 m pc ls (.int x :: rest)) :=
  lv_if_lt hexec hb hdg ht (fun q => kt (by rwa [if_pos q] at h)) (fun q => kf (by rwa [if_neg q] at h))
theorem zi_ge {ρ : Type} {a b : Option ρ} {r : ρ} {x : Int32} {off : Int} {tgt : Nat} (hexec : p.tables.exec = Jvm.exec) (hb : c.code = cc) (hdg : decode cc pc = .ok (.ifCond .ge off, 3)) (ht : (pc : Int) + off = (tgt : Int)) (h : (if 0 ≤ x then a else b) = some r)
    (kt : a = some r → W p l e R s m args below meth c H locs cells slots Q (F0 m tgt ls rest)) (kf : b = some r → W p l e R s m args below meth c H locs cells slots Q (F0 m (pc + 3) ls rest)) : W p l e R s m args below meth c H locs cells slots Q (F0 m pc ls (.int x :: rest)) :=
  lv_if_ge hexec hb hdg ht (fun q => kt (by rwa [if_pos q] at h)) (fun q => kf (by rwa [if_neg q] at h))
theorem zi_gt {ρ : Type} {a b : Option ρ} {r : ρ} {x : Int32} {off : Int} {tgt : Nat} (hexec : p.tables.exec = Jvm.exec) (hb : c.code = cc) (hdg : decode cc pc = .ok (.ifCond .gt off, 3)) (ht : (pc : Int) + off = (tgt : Int)) (h : (if 0 < x then a else b) = some r)
    (kt : a = some r → W p l e R s m args below meth c H locs cells slots Q (F0 m tgt ls rest)) (kf : b = some r → W p l e R s m args below meth c H locs cells slots Q (F0 m (pc + 3) ls rest)) : W p l e R s m args below meth c H locs cells slots Q (F0 m pc ls (.int x :: rest)) :=
  lv_if_gt hexec hb hdg ht (fun q => kt (by rwa [if_pos q] at h)) (fun q => kf (by rwa [if_neg q] at h))
theorem zi_le {ρ : Type} {a b : Option ρ} {r : ρ} {x : Int32} {off : Int} {tgt : Nat} (hexec : p.tables.exec = Jvm.exec) (hb : c.code = cc) (hdg : decode cc pc = .ok (.ifCond .le off, 3)) (ht : (pc : Int) + off = (tgt : Int)) (h : (if x ≤ 0 then a else b) = some r)
    (kt : a = some r → W p l e R s m args below meth c H locs cells slots Q (F0 m tgt ls rest)) (kf : b = some r → W p l e R s m args below meth c H locs cells slots Q (F0 m (pc + 3) ls rest)) : W p l e R s m args below meth c H locs cells slots Q (F0 m pc ls (.int x :: rest)) :=
  lv_if_le hexec hb hdg ht (fun q => kt (by rwa [if_pos q] at h)) (fun q => kf (by rwa [if_neg q] at h))
theorem zc_eq {ρ : Type} {a b : Option ρ} {r : ρ} {x y : Int32} {off : Int} {tgt : Nat} (hexec : p.tables.exec = Jvm.exec) (hb : c.code = cc) (hdg : decode cc pc = .ok (.if_icmp .eq off, 3)) (ht : (pc : Int) + off = (tgt : Int)) (h : (if x = y then a else b) = some r)
    (kt : a = some r → W p l e R s m args below meth c H locs cells slots Q (F0 m tgt ls rest)) (kf : b = some r → W p l e R s m args below meth c H locs cells slots Q (F0 m (pc + 3) ls rest)) : W p l e R s m args below meth c H locs cells slots Q (F0 m pc ls (.int y :: .int x :: rest)) :=
  lv_icmp_eq hexec hb hdg ht (fun q => kt (by rwa [if_pos q] at h)) (fun q => kf (by rwa [if_neg q] at h))
theorem zc_ne {ρ : Type} {a b : Option ρ} {r : ρ} {x y : Int32} {off : Int} {tgt : Nat} (hexec : p.tables.exec = Jvm.exec) (hb : c.code = cc) (hdg : decode cc pc = .ok (.if_icmp .ne off, 3)) (ht : (pc : Int) + off = (tgt : Int)) (h : (if x = y then b else a) = some r)
    (kt : a = some r → W p l e R s m args below meth c H locs cells slots Q (F0 m tgt ls rest)) (kf : b = some r → W p l e R s m args below meth c H locs cells slots Q (F0 m (pc + 3) ls rest)) : W p l e R s m args below meth c H locs cells slots Q (F0 m pc ls (.int y :: .int x :: rest)) :=
  lv_icmp_ne hexec hb hdg ht (fun q => kt (by rwa [if_neg q] at h)) (fun q => kf (by rwa [if_pos q] at h))
theorem zc_lt {ρ : Type} {a b : Option ρ} {r : ρ} {x y : Int32} {off : Int} {tgt : Nat} (hexec : p.tables.exec = Jvm.exec) (hb : c.code = cc) (hdg : decode cc pc = .ok (.if_icmp .lt off, 3)) (ht : (pc : Int) + off = (tgt : Int)) (h : (if x < y then a else b) = some r)
    (kt : a = some r → W p l e R s m args below meth c H locs cells slots Q (F0 m tgt ls rest)) (kf : b = some r → W p l e R s m args below meth c H locs cells slots Q (F0 m (pc + 3) ls rest)) : W p l e R s m args below meth c H locs cells slots Q (F0 m pc ls (.int y :: .int x :: rest)) :=
  lv_icmp_lt hexec hb hdg ht (fun q => kt (by rwa [if_pos q] at h)) (fun q => kf (by rwa [if_neg q] at h))
theorem zc_ge {ρ : Type} {a b : Option ρ} {r : ρ} {x y : Int32} {off : Int} {tgt : Nat} (hexec : p.tables.exec = Jvm.exec) (hb : c.code = cc) (hdg : decode cc pc = .ok (.if_icmp .ge off, 3)) (ht : (pc : Int) + off = (tgt : Int)) (h : (if y ≤ x then a else b) = some r)
    (kt : a = some r → W p l e R s m args below meth c H locs cells slots Q (F0 m tgt ls rest)) (kf : b = some r → W p l e R s m args below meth c H locs cells slots Q (F0 m (pc + 3) ls rest)) : W p l e R s m args below meth c H locs cells slots Q (F0 m pc ls (.int y :: .int x :: rest)) :=
  lv_icmp_ge hexec hb hdg ht (fun q => kt (by rwa [if_pos q] at h)) (fun q => kf (by rwa [if_neg q] at h))
theorem zc_gt {ρ : Type} {a b : Option ρ} {r : ρ} {x y : Int32} {off : Int} {tgt : Nat} (hexec : p.tables.exec = Jvm.exec) (hb : c.code = cc) (hdg : decode cc pc = .ok (.if_icmp .gt off, 3)) (ht : (pc : Int) + off = (tgt : Int)) (h : (if y < x then a else b) = some r)
    (kt : a = some r → W p l e R s m args below meth c H locs cells slots Q (F0 m tgt ls rest)) (kf : b = some r → W p l e R s m args below meth c H locs cells slots Q (F0 m (pc + 3) ls rest)) : W p l e R s m args below meth c H locs cells slots Q (F0 m pc ls (.int y :: .int x :: rest)) :=
  lv_icmp_gt hexec hb hdg ht (fun q => kt (by rwa [if_pos q] at h)) (fun q => kf (by rwa [if_neg q] at h))
theorem zc_le {ρ : Type} {a b : Option ρ} {r : ρ} {x y : Int32} {off : Int} {tgt : Nat} (hexec : p.tables.exec = Jvm.exec) (hb : c.code = cc) (hdg : decode cc pc = .ok (.if_icmp .le off, 3)) (ht : (pc : Int) + off = (tgt : Int)) (h : (if x ≤ y then a else b) = some r)
    (kt : a = some r → W p l e R s m args below meth c H locs cells slots Q (F0 m tgt ls rest)) (kf : b = some r → W p l e R s m args below meth c H locs cells slots Q (F0 m (pc + 3) ls rest)) : W p l e R s m args below meth c H locs cells slots Q (F0 m pc ls (.int y :: .int x :: rest)) :=
  lv_icmp_le hexec hb hdg ht (fun q => kt (by rwa [if_pos q] at h)) (fun q => kf (by rwa [if_neg q] at h))
/-! naming what is on top -/
theorem zn_i {ρ : Type} {r : ρ} {x : Int32} {K : Int32 → Option ρ} (h : zl x K = some r) (k : ∀ y : Int32, K y = some r → W p l e R s m args below meth c H locs cells slots Q (F0 m pc ls (.int y :: rest))) : W p l e R s m args below meth c H locs cells slots Q (F0 m pc ls (.int x :: rest)) := k x h
theorem zn_l {ρ : Type} {r : ρ} {x : Int64} {K : Int64 → Option ρ} (h : zl x K = some r) (k : ∀ y : Int64, K y = some r → W p l e R s m args below meth c H locs cells slots Q (F0 m pc ls (.long y :: rest))) : W p l e R s m args below meth c H locs cells slots Q (F0 m pc ls (.long x :: rest)) := k x h
theorem zn_f {ρ : Type} {r : ρ} {x : UInt32} {K : UInt32 → Option ρ} (h : zl x K = some r) (k : ∀ y : UInt32, K y = some r → W p l e R s m args below meth c H locs cells slots Q (F0 m pc ls (.float y :: rest))) : W p l e R s m args below meth c H locs cells slots Q (F0 m pc ls (.float x :: rest)) := k x h
theorem zn_d {ρ : Type} {r : ρ} {x : UInt64} {K : UInt64 → Option ρ} (h : zl x K = some r) (k : ∀ y : UInt64, K y = some r → W p l e R s m args below meth c H locs cells slots Q (F0 m pc ls (.double y :: rest))) : W p l e R s m args below meth c H locs cells slots Q (F0 m pc ls (.double x :: rest)) := k x h
/-! arrays: the index by its guard; a store names the new contents -/
theorem z_iald {ρ : Type} {r : ρ} {K : Option ρ} {a : Nat} (hexec : p.tables.exec = Jvm.exec) (hb : c.code = cc) (hK : va_K D vwCl tys s) (hP : va_P D vwCl ws H) (q0 t0 : Nat) {cA : ClassId} {n : Nat} {f : Nat → Int32} (ha : ws[q0]? = some (a, .inl (cA, n, .inl f))) (ht : tys[t0]? = some (cA, .int)) {i : Int32} (h : zg (zin i n) K = some r) (hdg : decode cc pc = .ok (.iaload, 1))
    (kk : K = some r → W p l e R s m args below meth c H locs cells slots Q (F0 m (pc + 1) ls (.int (f i.toNatClampNeg) :: rest))) : W p l e R s m args below meth c H locs cells slots Q (F0 m pc ls (.int i :: .ref a :: rest)) :=
  va_iald hexec hb hK hP q0 t0 ha ht (zin_s (zg_s h).1) hdg (kk (zg_s h).2)
/-- at a place that is written out -/
theorem z_ialdc {a : Nat} (hexec : p.tables.exec = Jvm.exec) (hb : c.code = cc) (hK : va_K D vwCl tys s) (hP : va_P D vwCl ws H) (q0 t0 j0 : Nat) {cA : ClassId} {n : Nat} {f : Nat → Int32} (ha : ws[q0]? = some (a, .inl (cA, n, .inl f))) (ht : tys[t0]? = some (cA, .int)) {i : Int32} (h : zin i n = true) (hj : i.toNatClampNeg = j0) (hdg : decode cc pc = .ok (.iaload, 1))
    (kk : W p l e R s m args below meth c H locs cells slots Q (F0 m (pc + 1) ls (.int (f j0) :: rest))) : W p l e R s m args below meth c H locs cells slots Q (F0 m pc ls (.int i :: .ref a :: rest)) := by
  subst hj
  exact va_iald hexec hb hK hP q0 t0 ha ht (zin_s h) hdg kk
theorem z_zald {ρ : Type} {r : ρ} {K : Option ρ} {a : Nat} (hexec : p.tables.exec = Jvm.exec) (hb : c.code = cc) (hK : va_K D vwCl tys s) (hP : va_P D vwCl ws H) (q0 t0 : Nat) {cA : ClassId} {n : Nat} {f : Nat → Int32} (ha : ws[q0]? = some (a, .inl (cA, n, .inl f))) (ht : tys[t0]? = some (cA, .boolean)) {i : Int32} (h : zg (zin i n) K = some r) (hdg : decode cc pc = .ok (.baload, 1))
    (kk : K = some r → W p l e R s m args below meth c H locs cells slots Q (F0 m (pc + 1) ls (.int (f i.toNatClampNeg) :: rest))) : W p l e R s m args below meth c H locs cells slots Q (F0 m pc ls (.int i :: .ref a :: rest)) :=
  va_zald hexec hb hK hP q0 t0 ha ht (zin_s (zg_s h).1) hdg (kk (zg_s h).2)
theorem z_cald {ρ : Type} {r : ρ} {K : Option ρ} {a : Nat} (hexec : p.tables.exec = Jvm.exec) (hb : c.code = cc) (hK : va_K D vwCl tys s) (hP : va_P D vwCl ws H) (q0 t0 : Nat) {cA : ClassId} {n : Nat} {f : Nat → Int32} (ha : ws[q0]? = some (a, .inl (cA, n, .inl f))) (ht : tys[t0]? = some (cA, .char)) {i : Int32} (h : zg (zin i n) K = some r) (hdg : decode cc pc = .ok (.caload, 1))
    (kk : K = some r → W p l e R s m args below meth c H locs cells slots Q (F0 m (pc + 1) ls (.int (f i.toNatClampNeg) :: rest))) : W p l e R s m args below meth c H locs cells slots Q (F0 m pc ls (.int i :: .ref a :: rest)) :=
  va_cald hexec hb hK hP q0 t0 ha ht (zin_s (zg_s h).1) hdg (kk (zg_s h).2)
theorem z_iast {ρ : Type} {r : ρ} {K : (Nat → Int32) → Option ρ} {a : Nat} (hexec : p.tables.exec = Jvm.exec) (hb : c.code = cc) (hK : va_K D vwCl tys s) (hP : va_P D vwCl ws H) (hD : va_D A ws) (hS : va_S A H0 H locs) (q0 t0 : Nat) {cA : ClassId} {n : Nat} {f : Nat → Int32} (ha : ws[q0]? = some (a, .inl (cA, n, .inl f))) (ht : tys[t0]? = some (cA, .int)) {i x : Int32} (h : zg (zin i n) (zl (upd f i.toNatClampNeg x) K) = some r) (hdg : decode cc pc = .ok (.iastore, 1))
    (kk : ∀ (f' : Nat → Int32) (H1 : Heap) (locs1 : List Loc), K f' = some r → va_P D vwCl (ws.set q0 (a, .inl (cA, n, .inl f'))) H1 → va_D A (ws.set q0 (a, .inl (cA, n, .inl f'))) → va_S A H0 H1 locs1 → W p l e R s m args below meth c H1 locs1 cells slots Q (F0 m (pc + 1) ls rest)) : W p l e R s m args below meth c H locs cells slots Q (F0 m pc ls (.int x :: .int i :: .ref a :: rest)) :=
  va_iast hexec hb hK hP hD hS q0 t0 ha ht (zin_s (zg_s h).1) hdg (fun H1 locs1 h1 h2 h3 => kk _ H1 locs1 (zg_s h).2 h1 h2 h3)
theorem z_iastc {ρ : Type} {r : ρ} {K : (Nat → Int32) → Option ρ} {a : Nat} (hexec : p.tables.exec = Jvm.exec) (hb : c.code = cc) (hK : va_K D vwCl tys s) (hP : va_P D vwCl ws H) (hD : va_D A ws) (hS : va_S A H0 H locs) (q0 t0 j0 : Nat) {cA : ClassId} {n : Nat} {f : Nat → Int32} (ha : ws[q0]? = some (a, .inl (cA, n, .inl f))) (ht : tys[t0]? = some (cA, .int)) {i x : Int32} (hi : zin i n = true) (hj : i.toNatClampNeg = j0) (h : zl (upd f j0 x) K = some r) (hdg : decode cc pc = .ok (.iastore, 1))
    (kk : ∀ (f' : Nat → Int32) (H1 : Heap) (locs1 : List Loc), K f' = some r → va_P D vwCl (ws.set q0 (a, .inl (cA, n, .inl f'))) H1 → va_D A (ws.set q0 (a, .inl (cA, n, .inl f'))) → va_S A H0 H1 locs1 → W p l e R s m args below meth c H1 locs1 cells slots Q (F0 m (pc + 1) ls rest)) : W p l e R s m args below meth c H locs cells slots Q (F0 m pc ls (.int x :: .int i :: .ref a :: rest)) := by
  subst hj
  exact va_iast hexec hb hK hP hD hS q0 t0 ha ht (zin_s hi) hdg (fun H1 locs1 h1 h2 h3 => kk _ H1 locs1 h h1 h2 h3)
theorem z_zast {ρ : Type} {r : ρ} {K : (Nat → Int32) → Option ρ} {a : Nat} (hexec : p.tables.exec = Jvm.exec) (hb : c.code = cc) (hK : va_K D vwCl tys s) (hP : va_P D vwCl ws H) (hD : va_D A ws) (hS : va_S A H0 H locs) (q0 t0 : Nat) {cA : ClassId} {n : Nat} {f : Nat → Int32} (ha : ws[q0]? = some (a, .inl (cA, n, .inl f))) (ht : tys[t0]? = some (cA, .boolean)) {i x : Int32} (h : zg (zin i n) (zl (upd f i.toNatClampNeg (vp_nar .boolean x)) K) = some r) (hdg : decode cc pc = .ok (.bastore, 1))
    (kk : ∀ (f' : Nat → Int32) (H1 : Heap) (locs1 : List Loc), K f' = some r → va_P D vwCl (ws.set q0 (a, .inl (cA, n, .inl f'))) H1 → va_D A (ws.set q0 (a, .inl (cA, n, .inl f'))) → va_S A H0 H1 locs1 → W p l e R s m args below meth c H1 locs1 cells slots Q (F0 m (pc + 1) ls rest)) : W p l e R s m args below meth c H locs cells slots Q (F0 m pc ls (.int x :: .int i :: .ref a :: rest)) :=
  va_zast hexec hb hK hP hD hS q0 t0 ha ht (zin_s (zg_s h).1) hdg (fun H1 locs1 h1 h2 h3 => kk _ H1 locs1 (zg_s h).2 h1 h2 h3)
theorem z_cast {ρ : Type} {r : ρ} {K : (Nat → Int32) → Option ρ} {a : Nat} (hexec : p.tables.exec = Jvm.exec) (hb : c.code = cc) (hK : va_K D vwCl tys s) (hP : va_P D vwCl ws H) (hD : va_D A ws) (hS : va_S A H0 H locs) (q0 t0 : Nat) {cA : ClassId} {n : Nat} {f : Nat → Int32} (ha : ws[q0]? = some (a, .inl (cA, n, .inl f))) (ht : tys[t0]? = some (cA, .char)) {i x : Int32} (h : zg (zin i n) (zl (upd f i.toNatClampNeg (vp_nar .char x)) K) = some r) (hdg : decode cc pc = .ok (.castore, 1))
    (kk : ∀ (f' : Nat → Int32) (H1 : Heap) (locs1 : List Loc), K f' = some r → va_P D vwCl (ws.set q0 (a, .inl (cA, n, .inl f'))) H1 → va_D A (ws.set q0 (a, .inl (cA, n, .inl f'))) → va_S A H0 H1 locs1 → W p l e R s m args below meth c H1 locs1 cells slots Q (F0 m (pc + 1) ls rest)) : W p l e R s m args below meth c H locs cells slots Q (F0 m pc ls (.int x :: .int i :: .ref a :: rest)) :=
  va_cast hexec hb hK hP hD hS q0 t0 ha ht (zin_s (zg_s h).1) hdg (fun H1 locs1 h1 h2 h3 => kk _ H1 locs1 (zg_s h).2 h1 h2 h3)
/-! fields -/
theorem z_get {a0 : Cond} {own ref C : String} {T : u_T} {N ci index : Nat} {a : Nat} (hexec : p.tables.exec = Jvm.exec) (hb : c.code = cc) (hts : ∀ w ∈ a0 :: zT, w.before args s = true) (hin : ∀ w ∈ u_ws C T N, w ∈ zT) (hown : s.vm.findClass own = some m.cls) (hK : va_K D vwCl tys s) (hP : va_P D vwCl ws H) (q0 k : Nat) {fs : List Value} (he : ws[q0]? = some (a, .inr (ci, fs))) (hc : vwCl[ci]? = some (C, T, N)) (hk : k < N) (hlink : Cond.fieldLink own index ref (T k).2.1 (T k).2.2.1 ∈ zT) (hsame : (T k).1 = ref) {v : Value} (hv : fs[k]? = some v) (hdg : decode cc pc = .ok (.getfield index, 3))
    (kk : W p l e R s m args below meth c H locs cells slots Q (F0 m (pc + 3) ls (v :: rest))) : W p l e R s m args below meth c H locs cells slots Q (F0 m pc ls (.ref a :: rest)) :=
  va_get hexec hb hts (fun w h => List.mem_cons_of_mem _ (hin w h)) hown hK hP q0 he hc k hk (hts _ (List.mem_cons_of_mem _ hlink)) (fun _ h9 => by rw [← hsame]; exact h9) hv hdg kk
theorem z_puti {ρ : Type} {r : ρ} {K : Int32 → Option ρ} {a0 : Cond} {own ref C : String} {T : u_T} {N ci index : Nat} {a : Nat} (hexec : p.tables.exec = Jvm.exec) (hb : c.code = cc) (hts : ∀ w ∈ a0 :: zT, w.before args s = true) (hin : ∀ w ∈ u_ws C T N, w ∈ zT) (ty0 : Nat → FieldType) (hty : ∀ k, k < N → parseFieldDescriptor (T k).2.2.1 = some (ty0 k)) (hnm : ∀ a, a < N → ∀ b, b < N → a ≠ b → (T a).2.1 ≠ (T b).2.1) (hown : s.vm.findClass own = some m.cls) (hK : va_K D vwCl tys s) (hP : va_P D vwCl ws H) (hD : va_D A ws) (hS : va_S A H0 H locs) (q0 k : Nat) {fs : List Value} (he : ws[q0]? = some (a, .inr (ci, fs))) (hc : vwCl[ci]? = some (C, T, N)) (hk : k < N) (hlink : Cond.fieldLink own index ref (T k).2.1 (T k).2.2.1 ∈ zT) (hsame : (T k).1 = ref) (hfin : (T k).2.2.2 = false) (hd : parseFieldDescriptor (T k).2.2.1 = some .int) (hl : k < fs.length) {x : Int32} (h : zl x K = some r) (hdg : decode cc pc = .ok (.putfield index, 3))
    (kk : ∀ (y : Int32) (H1 : Heap) (locs1 : List Loc), K y = some r → va_P D vwCl (ws.set q0 (a, .inr (ci, fs.set k (.int y)))) H1 → va_D A (ws.set q0 (a, .inr (ci, fs.set k (.int y)))) → va_S A H0 H1 locs1 → W p l e R s m args below meth c H1 locs1 cells slots Q (F0 m (pc + 3) ls rest)) : W p l e R s m args below meth c H locs cells slots Q (F0 m pc ls (.int x :: .ref a :: rest)) :=
  va_put hexec hb hts (fun w h => List.mem_cons_of_mem _ (hin w h)) ty0 hty hnm hown hK hP hD hS q0 he hc k hk (hts _ (List.mem_cons_of_mem _ hlink)) (fun _ h9 => by rw [← hsame]; exact h9) hfin hd rfl rfl hl hdg (fun H1 locs1 h1 h2 h3 => kk x H1 locs1 h h1 h2 h3)
theorem z_putz {ρ : Type} {r : ρ} {K : Int32 → Option ρ} {a0 : Cond} {own ref C : String} {T : u_T} {N ci index : Nat} {a : Nat} (hexec : p.tables.exec = Jvm.exec) (hb : c.code = cc) (hts : ∀ w ∈ a0 :: zT, w.before args s = true) (hin : ∀ w ∈ u_ws C T N, w ∈ zT) (ty0 : Nat → FieldType) (hty : ∀ k, k < N → parseFieldDescriptor (T k).2.2.1 = some (ty0 k)) (hnm : ∀ a, a < N → ∀ b, b < N → a ≠ b → (T a).2.1 ≠ (T b).2.1) (hown : s.vm.findClass own = some m.cls) (hK : va_K D vwCl tys s) (hP : va_P D vwCl ws H) (hD : va_D A ws) (hS : va_S A H0 H locs) (q0 k : Nat) {fs : List Value} (he : ws[q0]? = some (a, .inr (ci, fs))) (hc : vwCl[ci]? = some (C, T, N)) (hk : k < N) (hlink : Cond.fieldLink own index ref (T k).2.1 (T k).2.2.1 ∈ zT) (hsame : (T k).1 = ref) (hfin : (T k).2.2.2 = false) (hd : parseFieldDescriptor (T k).2.2.1 = some .boolean) (hl : k < fs.length) {x : Int32} (h : zg (zbo x) (zl x K) = some r) (hdg : decode cc pc = .ok (.putfield index, 3))
    (kk : ∀ (y : Int32) (H1 : Heap) (locs1 : List Loc), K y = some r → va_P D vwCl (ws.set q0 (a, .inr (ci, fs.set k (.int y)))) H1 → va_D A (ws.set q0 (a, .inr (ci, fs.set k (.int y)))) → va_S A H0 H1 locs1 → W p l e R s m args below meth c H1 locs1 cells slots Q (F0 m (pc + 3) ls rest)) : W p l e R s m args below meth c H locs cells slots Q (F0 m pc ls (.int x :: .ref a :: rest)) :=
  va_put hexec hb hts (fun w h => List.mem_cons_of_mem _ (hin w h)) ty0 hty hnm hown hK hP hD hS q0 he hc k hk (hts _ (List.mem_cons_of_mem _ hlink)) (fun _ h9 => by rw [← hsame]; exact h9) hfin hd (zbo_n (zg_s h).1) (zbo_f (zg_s h).1) hl hdg (fun H1 locs1 h1 h2 h3 => kk x H1 locs1 (zg_s h).2 h1 h2 h3)
/-! floats -/
theorem z_fadd {ρ : Type} {r : ρ} {K : Option ρ} (hexec : p.tables.exec = Jvm.exec) (hb : c.code = cc) {x y : UInt32} (hdg : decode cc pc = .ok (.fadd, 1)) (h : zg (z32 (FP.fadd x y)) K = some r) (k : K = some r → W p l e R s m args below meth c H locs cells slots Q (F0 m (pc + 1) ls (.float (FP.fadd x y) :: rest))) : W p l e R s m args below meth c H locs cells slots Q (F0 m pc ls (.float y :: .float x :: rest)) := lv_fadd hexec hb hdg (z32_s (zg_s h).1) (k (zg_s h).2)
theorem z_fsub {ρ : Type} {r : ρ} {K : Option ρ} (hexec : p.tables.exec = Jvm.exec) (hb : c.code = cc) {x y : UInt32} (hdg : decode cc pc = .ok (.fsub, 1)) (h : zg (z32 (FP.fsub x y)) K = some r) (k : K = some r → W p l e R s m args below meth c H locs cells slots Q (F0 m (pc + 1) ls (.float (FP.fsub x y) :: rest))) : W p l e R s m args below meth c H locs cells slots Q (F0 m pc ls (.float y :: .float x :: rest)) := lv_fsub hexec hb hdg (z32_s (zg_s h).1) (k (zg_s h).2)
theorem z_fmul {ρ : Type} {r : ρ} {K : Option ρ} (hexec : p.tables.exec = Jvm.exec) (hb : c.code = cc) {x y : UInt32} (hdg : decode cc pc = .ok (.fmul, 1)) (h : zg (z32 (FP.fmul x y)) K = some r) (k : K = some r → W p l e R s m args below meth c H locs cells slots Q (F0 m (pc + 1) ls (.float (FP.fmul x y) :: rest))) : W p l e R s m args below meth c H locs cells slots Q (F0 m pc ls (.float y :: .float x :: rest)) := lv_fmul hexec hb hdg (z32_s (zg_s h).1) (k (zg_s h).2)
theorem z_fdiv {ρ : Type} {r : ρ} {K : Option ρ} (hexec : p.tables.exec = Jvm.exec) (hb : c.code = cc) {x y : UInt32} (hdg : decode cc pc = .ok (.fdiv, 1)) (h : zg (z32 (FP.fdiv x y)) K = some r) (k : K = some r → W p l e R s m args below meth c H locs cells slots Q (F0 m (pc + 1) ls (.float (FP.fdiv x y) :: rest))) : W p l e R s m args below meth c H locs cells slots Q (F0 m pc ls (.float y :: .float x :: rest)) := lv_fdiv hexec hb hdg (z32_s (zg_s h).1) (k (zg_s h).2)
theorem z_dsub {ρ : Type} {r : ρ} {K : Option ρ} (hexec : p.tables.exec = Jvm.exec) (hb : c.code = cc) {x y : UInt64} (hdg : decode cc pc = .ok (.dsub, 1)) (h : zg (z64 (FP.dsub x y)) K = some r) (k : K = some r → W p l e R s m args below meth c H locs cells slots Q (F0 m (pc + 1) ls (.double (FP.dsub x y) :: rest))) : W p l e R s m args below meth c H locs cells slots Q (F0 m pc ls (.double y :: .double x :: rest)) := lv_dsub hexec hb hdg (z64_s (zg_s h).1) (k (zg_s h).2)
theorem z_dmul {ρ : Type} {r : ρ} {K : Option ρ} (hexec : p.tables.exec = Jvm.exec) (hb : c.code = cc) {x y : UInt64} (hdg : decode cc pc = .ok (.dmul, 1)) (h : zg (z64 (FP.dmul x y)) K = some r) (k : K = some r → W p l e R s m args below meth c H locs cells slots Q (F0 m (pc + 1) ls (.double (FP.dmul x y) :: rest))) : W p l e R s m args below meth c H locs cells slots Q (F0 m pc ls (.double y :: .double x :: rest)) := lv_dmul hexec hb hdg (z64_s (zg_s h).1) (k (zg_s h).2)
theorem z_ddiv {ρ : Type} {r : ρ} {K : Option ρ} (hexec : p.tables.exec = Jvm.exec) (hb : c.code = cc) {x y : UInt64} (hdg : decode cc pc = .ok (.ddiv, 1)) (h : zg (z64 (FP.ddiv x y)) K = some r) (k : K = some r → W p l e R s m args below meth c H locs cells slots Q (F0 m (pc + 1) ls (.double (FP.ddiv x y) :: rest))) : W p l e R s m args below meth c H locs cells slots Q (F0 m pc ls (.double y :: .double x :: rest)) := lv_ddiv hexec hb hdg (z64_s (zg_s h).1) (k (zg_s h).2)
end ZB
end
section
/-! THE WORDS, BY THEIR PLACES IN THE TABLES; written by wip/whole/gen_tab.py -/
theorem tw0 : Cond.selects RX2 yX2_nextRow yX2_nextRow ∈ zT := zT_i (List.mem_of_getElem? (i := 0) (by decide +kernel)) rfl
theorem tw1 : Cond.selects RX6 yX6_addBlock yX6_addBlock ∈ zT := zT_i (List.mem_of_getElem? (i := 1) (by decide +kernel)) rfl
theorem tw2 : Cond.selects RX6 yX6_addPiece yX6_addPiece ∈ zT := zT_i (List.mem_of_getElem? (i := 2) (by decide +kernel)) rfl
theorem tw3 : Cond.selects RX1 yX1_isWithinOver yX1_isWithinOver ∈ zT := zT_i (List.mem_of_getElem? (i := 3) (by decide +kernel)) rfl
theorem tw4 : Cond.selects RX1 yX1_weightAt yX1_weightAt ∈ zT := zT_i (List.mem_of_getElem? (i := 4) (by decide +kernel)) rfl
theorem tw5 : Cond.selects RX6 yX6_deliver yX6_deliver ∈ zT := zT_i (List.mem_of_getElem? (i := 5) (by decide +kernel)) rfl
theorem tw6 : Cond.selects RX6 yX6_crackBlocks yX6_crackBlocks ∈ zT := zT_i (List.mem_of_getElem? (i := 6) (by decide +kernel)) rfl
theorem tw7 : Cond.selects RX6 yX6_dryBlocks yX6_dryBlocks ∈ zT := zT_i (List.mem_of_getElem? (i := 7) (by decide +kernel)) rfl
theorem tw8 : Cond.selects RX1 yX1_greaterShare yX1_greaterShare ∈ zT := zT_i (List.mem_of_getElem? (i := 8) (by decide +kernel)) rfl
theorem tw9 : Cond.selects RX3 yX3_take yX3_take ∈ zT := zT_i (List.mem_of_getElem? (i := 9) (by decide +kernel)) rfl
theorem tw10 : Cond.selects RX3 yX3_sign yX3_sign ∈ zT := zT_i (List.mem_of_getElem? (i := 10) (by decide +kernel)) rfl
theorem tw11 : Cond.selects RX3 yX3_readPart yX3_readPart ∈ zT := zT_i (List.mem_of_getElem? (i := 11) (by decide +kernel)) rfl
theorem tw12 : Cond.selects RX3 yX3_readNumber yX3_readNumber ∈ zT := zT_i (List.mem_of_getElem? (i := 12) (by decide +kernel)) rfl
theorem tw13 : Cond.selects RX7 yX7_carryOrder yX7_carryOrder ∈ zT := zT_i (List.mem_of_getElem? (i := 13) (by decide +kernel)) rfl
theorem tw14 : Cond.selects RX8 yX8_lays yX8_lays ∈ zT := zT_i (List.mem_of_getElem? (i := 14) (by decide +kernel)) rfl
theorem tw15 : Cond.selects RX8 yX8_looks yX8_looks ∈ zT := zT_i (List.mem_of_getElem? (i := 15) (by decide +kernel)) rfl
theorem tw16 : Cond.selects RX8 yX8_records yX8_records ∈ zT := zT_i (List.mem_of_getElem? (i := 16) (by decide +kernel)) rfl
theorem tw17 : Cond.selects RX8 yX8_tries yX8_tries ∈ zT := zT_i (List.mem_of_getElem? (i := 17) (by decide +kernel)) rfl
theorem tw18 : Cond.selects RX8 yX8_does yX8_does ∈ zT := zT_i (List.mem_of_getElem? (i := 18) (by decide +kernel)) rfl
theorem tw19 : Cond.selects RX8 yX8_quarries yX8_quarries ∈ zT := zT_i (List.mem_of_getElem? (i := 19) (by decide +kernel)) rfl
theorem tw20 : Cond.selects RX8 yX8_newBlock yX8_newBlock ∈ zT := zT_i (List.mem_of_getElem? (i := 20) (by decide +kernel)) rfl
theorem tw21 : Cond.selects RX8 yX8_weight yX8_weight ∈ zT := zT_i (List.mem_of_getElem? (i := 21) (by decide +kernel)) rfl
theorem tw22 : Cond.selects RX8 yX8_cuts yX8_cuts ∈ zT := zT_i (List.mem_of_getElem? (i := 22) (by decide +kernel)) rfl
theorem tw23 : Cond.selects RX8 yX8_isBlock yX8_isBlock ∈ zT := zT_i (List.mem_of_getElem? (i := 23) (by decide +kernel)) rfl
theorem tw24 : Cond.selects RX8 yX8_canBeCut yX8_canBeCut ∈ zT := zT_i (List.mem_of_getElem? (i := 24) (by decide +kernel)) rfl
theorem tw25 : Cond.selects RX8 yX8_isHere yX8_isHere ∈ zT := zT_i (List.mem_of_getElem? (i := 25) (by decide +kernel)) rfl
theorem tw26 : Cond.selects RX8 yX8_isAt yX8_isAt ∈ zT := zT_i (List.mem_of_getElem? (i := 26) (by decide +kernel)) rfl
theorem tw27 : Cond.selects RX8 yX8_part yX8_part ∈ zT := zT_i (List.mem_of_getElem? (i := 27) (by decide +kernel)) rfl
theorem tw28 : Cond.selects RX8 yX8_underRoof yX8_underRoof ∈ zT := zT_i (List.mem_of_getElem? (i := 28) (by decide +kernel)) rfl
theorem tw29 : Cond.selects RX8 yX8_orders yX8_orders ∈ zT := zT_i (List.mem_of_getElem? (i := 29) (by decide +kernel)) rfl
theorem tw30 : Cond.selects RX8 yX8_sorts yX8_sorts ∈ zT := zT_i (List.mem_of_getElem? (i := 30) (by decide +kernel)) rfl
theorem tw31 : Cond.selects RX8 yX8_gives yX8_gives ∈ zT := zT_i (List.mem_of_getElem? (i := 31) (by decide +kernel)) rfl
theorem tw32 : Cond.selects RX8 yX8_isOrder yX8_isOrder ∈ zT := zT_i (List.mem_of_getElem? (i := 32) (by decide +kernel)) rfl
theorem tw33 : Cond.selects RX8 yX8_canGive yX8_canGive ∈ zT := zT_i (List.mem_of_getElem? (i := 33) (by decide +kernel)) rfl
theorem tw34 : Cond.selects RX8 yX8_excessOf yX8_excessOf ∈ zT := zT_i (List.mem_of_getElem? (i := 34) (by decide +kernel)) rfl
theorem tw35 : Cond.selects RX8 yX8_excess yX8_excess ∈ zT := zT_i (List.mem_of_getElem? (i := 35) (by decide +kernel)) rfl
theorem tw36 : Cond.selects RX8 yX8_loads yX8_loads ∈ zT := zT_i (List.mem_of_getElem? (i := 36) (by decide +kernel)) rfl
theorem tw37 : Cond.selects RX8 yX8_blockAt yX8_blockAt ∈ zT := zT_i (List.mem_of_getElem? (i := 37) (by decide +kernel)) rfl
theorem tw38 : Cond.selects RX8 yX8_loadOf yX8_loadOf ∈ zT := zT_i (List.mem_of_getElem? (i := 38) (by decide +kernel)) rfl
theorem tw39 : Cond.selects RX8 yX8_nights yX8_nights ∈ zT := zT_i (List.mem_of_getElem? (i := 39) (by decide +kernel)) rfl
theorem tw40 : Cond.selects RX8 yX8_wouldCrack yX8_wouldCrack ∈ zT := zT_i (List.mem_of_getElem? (i := 40) (by decide +kernel)) rfl
theorem tw41 : Cond.selects RX8 yX8_leaves yX8_leaves ∈ zT := zT_i (List.mem_of_getElem? (i := 41) (by decide +kernel)) rfl
theorem tw42 : Cond.selects RX8 yX8_whyNot yX8_whyNot ∈ zT := zT_i (List.mem_of_getElem? (i := 42) (by decide +kernel)) rfl
theorem tw43 : Cond.selects RX8 yX8_blocksOn yX8_blocksOn ∈ zT := zT_i (List.mem_of_getElem? (i := 43) (by decide +kernel)) rfl
theorem tw44 : Cond.selects RX8 yX8_hasCracked yX8_hasCracked ∈ zT := zT_i (List.mem_of_getElem? (i := 44) (by decide +kernel)) rfl
theorem tw45 : Cond.selects RX8 yX8_axleNow yX8_axleNow ∈ zT := zT_i (List.mem_of_getElem? (i := 45) (by decide +kernel)) rfl
theorem tw46 : Cond.selects RX8 yX8_axle yX8_axle ∈ zT := zT_i (List.mem_of_getElem? (i := 46) (by decide +kernel)) rfl
theorem tw47 : Cond.selects RX8 yX8_delivers yX8_delivers ∈ zT := zT_i (List.mem_of_getElem? (i := 47) (by decide +kernel)) rfl
theorem tw48 : Cond.selects RX8 yX8_couldBeGiven yX8_couldBeGiven ∈ zT := zT_i (List.mem_of_getElem? (i := 48) (by decide +kernel)) rfl
theorem tw49 : Cond.selects RX8 yX8_setOf yX8_setOf ∈ zT := zT_i (List.mem_of_getElem? (i := 49) (by decide +kernel)) rfl
theorem tw50 : Cond.selects RX8 yX8_notCut yX8_notCut ∈ zT := zT_i (List.mem_of_getElem? (i := 50) (by decide +kernel)) rfl
theorem tw51 : Cond.selects RX8 yX8_isFitting yX8_isFitting ∈ zT := zT_i (List.mem_of_getElem? (i := 51) (by decide +kernel)) rfl
theorem tw52 : Cond.selects RX8 yX8_share yX8_share ∈ zT := zT_i (List.mem_of_getElem? (i := 52) (by decide +kernel)) rfl
theorem tw53 : Cond.selects RX8 yX8_goes yX8_goes ∈ zT := zT_i (List.mem_of_getElem? (i := 53) (by decide +kernel)) rfl
theorem tw54 : Cond.selects RX8 yX8_readOrder yX8_readOrder ∈ zT := zT_i (List.mem_of_getElem? (i := 54) (by decide +kernel)) rfl
theorem tw55 : Cond.selects RX8 yX8_isNext yX8_isNext ∈ zT := zT_i (List.mem_of_getElem? (i := 55) (by decide +kernel)) rfl
theorem tw56 : Cond.selects RX8 yX8_takes yX8_takes ∈ zT := zT_i (List.mem_of_getElem? (i := 56) (by decide +kernel)) rfl
theorem tw57 : Cond.selects RX8 yX8_takesNumber yX8_takesNumber ∈ zT := zT_i (List.mem_of_getElem? (i := 57) (by decide +kernel)) rfl
theorem tw58 : Cond.selects RX8 yX8_takesBehind yX8_takesBehind ∈ zT := zT_i (List.mem_of_getElem? (i := 58) (by decide +kernel)) rfl
theorem tw59 : Cond.initialized RL ∈ zT := zT_i (List.mem_of_getElem? (i := 59) (by decide +kernel)) rfl
theorem tw60 : Cond.initialized RX7 ∈ zT := zT_i (List.mem_of_getElem? (i := 60) (by decide +kernel)) rfl
theorem tw61 : Cond.initialized RX5 ∈ zT := zT_i (List.mem_of_getElem? (i := 61) (by decide +kernel)) rfl
theorem tw62 : Cond.initialized RX1 ∈ zT := zT_i (List.mem_of_getElem? (i := 62) (by decide +kernel)) rfl
theorem tw63 : Cond.initialized RX6 ∈ zT := zT_i (List.mem_of_getElem? (i := 63) (by decide +kernel)) rfl
theorem tw64 : Cond.initialized RX2 ∈ zT := zT_i (List.mem_of_getElem? (i := 64) (by decide +kernel)) rfl
theorem tw65 : Cond.initialized RX4 ∈ zT := zT_i (List.mem_of_getElem? (i := 65) (by decide +kernel)) rfl
theorem tw66 : Cond.initialized RX3 ∈ zT := zT_i (List.mem_of_getElem? (i := 66) (by decide +kernel)) rfl
theorem tw67 : Cond.initialized RX8 ∈ zT := zT_i (List.mem_of_getElem? (i := 67) (by decide +kernel)) rfl
theorem tw68 : Cond.initialized RJ10 ∈ zT := zT_i (List.mem_of_getElem? (i := 68) (by decide +kernel)) rfl
theorem tw69 : Cond.initialized RJ9 ∈ zT := zT_i (List.mem_of_getElem? (i := 69) (by decide +kernel)) rfl
theorem tw70 : Cond.initialized RJ6 ∈ zT := zT_i (List.mem_of_getElem? (i := 70) (by decide +kernel)) rfl
theorem tw71 : Cond.initialized RX0 ∈ zT := zT_i (List.mem_of_getElem? (i := 71) (by decide +kernel)) rfl
theorem tw72 : Cond.initialized RJ0 ∈ zT := zT_i (List.mem_of_getElem? (i := 72) (by decide +kernel)) rfl
theorem tw73 : Cond.initialized RJ1 ∈ zT := zT_i (List.mem_of_getElem? (i := 73) (by decide +kernel)) rfl
theorem tw74 : Cond.initialized RJ3 ∈ zT := zT_i (List.mem_of_getElem? (i := 74) (by decide +kernel)) rfl
theorem tw75 : Cond.initialized RJ2 ∈ zT := zT_i (List.mem_of_getElem? (i := 75) (by decide +kernel)) rfl
theorem tw76 : Cond.classLink RL 7 RX7 ∈ zT := zT_i (List.mem_of_getElem? (i := 76) (by decide +kernel)) rfl
theorem tw77 : Cond.instantiable RX7 6 ∈ zT := zT_i (List.mem_of_getElem? (i := 77) (by decide +kernel)) rfl
theorem tw78 : Cond.methodLink RL 9 yX7_init ∈ zT := zT_i (List.mem_of_getElem? (i := 78) (by decide +kernel)) rfl
theorem tw79 : Cond.instanceMethod yX7_init ∈ zT := zT_i (List.mem_of_getElem? (i := 79) (by decide +kernel)) rfl
theorem tw80 : Cond.code yX7_init cX7_init 1 none ∈ zT := zT_i (List.mem_of_getElem? (i := 80) (by decide +kernel)) rfl
theorem tw81 : Cond.methodLink RX7 3 objectInit ∈ zT := zT_i (List.mem_of_getElem? (i := 81) (by decide +kernel)) rfl
theorem tw82 : Cond.instanceMethod objectInit ∈ zT := zT_i (List.mem_of_getElem? (i := 82) (by decide +kernel)) rfl
theorem tw83 : Cond.code objectInit object_method_1_code 1 none ∈ zT := zT_i (List.mem_of_getElem? (i := 83) (by decide +kernel)) rfl
theorem tw84 : Cond.classLink RX7 9 RX5 ∈ zT := zT_i (List.mem_of_getElem? (i := 84) (by decide +kernel)) rfl
theorem tw85 : Cond.instantiable RX5 1 ∈ zT := zT_i (List.mem_of_getElem? (i := 85) (by decide +kernel)) rfl
theorem tw86 : Cond.methodLink RX7 11 yX5_init ∈ zT := zT_i (List.mem_of_getElem? (i := 86) (by decide +kernel)) rfl
theorem tw87 : Cond.instanceMethod yX5_init ∈ zT := zT_i (List.mem_of_getElem? (i := 87) (by decide +kernel)) rfl
theorem tw88 : Cond.code yX5_init cX5_init 2 none ∈ zT := zT_i (List.mem_of_getElem? (i := 88) (by decide +kernel)) rfl
theorem tw89 : Cond.methodLink RX5 3 objectInit ∈ zT := zT_i (List.mem_of_getElem? (i := 89) (by decide +kernel)) rfl
theorem tw90 : Cond.methodLink RX5 15 yX5_setCell ∈ zT := zT_i (List.mem_of_getElem? (i := 90) (by decide +kernel)) rfl
theorem tw91 : Cond.instanceMethod yX5_setCell ∈ zT := zT_i (List.mem_of_getElem? (i := 91) (by decide +kernel)) rfl
theorem tw92 : Cond.selects RX5 yX5_setCell yX5_setCell ∈ zT := zT_i (List.mem_of_getElem? (i := 92) (by decide +kernel)) rfl
theorem tw93 : Cond.code yX5_setCell cX5_setCell 3 none ∈ zT := zT_i (List.mem_of_getElem? (i := 93) (by decide +kernel)) rfl
theorem tw94 : Cond.methodLink RX5 19 yX5_setLorryCell ∈ zT := zT_i (List.mem_of_getElem? (i := 94) (by decide +kernel)) rfl
theorem tw95 : Cond.instanceMethod yX5_setLorryCell ∈ zT := zT_i (List.mem_of_getElem? (i := 95) (by decide +kernel)) rfl
theorem tw96 : Cond.selects RX5 yX5_setLorryCell yX5_setLorryCell ∈ zT := zT_i (List.mem_of_getElem? (i := 96) (by decide +kernel)) rfl
theorem tw97 : Cond.code yX5_setLorryCell cX5_setLorryCell 4 none ∈ zT := zT_i (List.mem_of_getElem? (i := 97) (by decide +kernel)) rfl
theorem tw98 : Cond.fieldLink RX5 9 "QuarryOrders$State" "cells" "[I" ∈ zT := zT_i (List.mem_of_getElem? (i := 98) (by decide +kernel)) rfl
theorem tw102 : Cond.arrayClass .int ∈ zT := zT_i (List.mem_of_getElem? (i := 102) (by decide +kernel)) rfl
theorem tw103 : Cond.classLink RX7 16 RX1 ∈ zT := zT_i (List.mem_of_getElem? (i := 103) (by decide +kernel)) rfl
theorem tw104 : Cond.instantiable RX1 1 ∈ zT := zT_i (List.mem_of_getElem? (i := 104) (by decide +kernel)) rfl
theorem tw105 : Cond.methodLink RX7 18 yX1_init ∈ zT := zT_i (List.mem_of_getElem? (i := 105) (by decide +kernel)) rfl
theorem tw106 : Cond.instanceMethod yX1_init ∈ zT := zT_i (List.mem_of_getElem? (i := 106) (by decide +kernel)) rfl
theorem tw107 : Cond.code yX1_init cX1_init 2 none ∈ zT := zT_i (List.mem_of_getElem? (i := 107) (by decide +kernel)) rfl
theorem tw108 : Cond.methodLink RX1 3 objectInit ∈ zT := zT_i (List.mem_of_getElem? (i := 108) (by decide +kernel)) rfl
theorem tw109 : Cond.fieldLink RX1 9 "QuarryOrders$Facts" "state" "LQuarryOrders$State;" ∈ zT := zT_i (List.mem_of_getElem? (i := 109) (by decide +kernel)) rfl
theorem tw113 : Cond.classLink RX7 25 RX6 ∈ zT := zT_i (List.mem_of_getElem? (i := 113) (by decide +kernel)) rfl
theorem tw114 : Cond.instantiable RX6 2 ∈ zT := zT_i (List.mem_of_getElem? (i := 114) (by decide +kernel)) rfl
theorem tw115 : Cond.methodLink RX7 27 yX6_init ∈ zT := zT_i (List.mem_of_getElem? (i := 115) (by decide +kernel)) rfl
theorem tw116 : Cond.instanceMethod yX6_init ∈ zT := zT_i (List.mem_of_getElem? (i := 116) (by decide +kernel)) rfl
theorem tw117 : Cond.code yX6_init cX6_init 3 none ∈ zT := zT_i (List.mem_of_getElem? (i := 117) (by decide +kernel)) rfl
theorem tw118 : Cond.methodLink RX6 3 objectInit ∈ zT := zT_i (List.mem_of_getElem? (i := 118) (by decide +kernel)) rfl
theorem tw119 : Cond.fieldLink RX6 9 "QuarryOrders$Works" "state" "LQuarryOrders$State;" ∈ zT := zT_i (List.mem_of_getElem? (i := 119) (by decide +kernel)) rfl
theorem tw120 : Cond.fieldLink RX6 15 "QuarryOrders$Works" "facts" "LQuarryOrders$Facts;" ∈ zT := zT_i (List.mem_of_getElem? (i := 120) (by decide +kernel)) rfl
theorem tw126 : Cond.classLink RX7 34 RX2 ∈ zT := zT_i (List.mem_of_getElem? (i := 126) (by decide +kernel)) rfl
theorem tw127 : Cond.instantiable RX2 3 ∈ zT := zT_i (List.mem_of_getElem? (i := 127) (by decide +kernel)) rfl
theorem tw128 : Cond.methodLinkNest RX7 36 yX2_init RX7 ∈ lw_tbl := List.mem_of_getElem? (i := 128) (by decide +kernel)
theorem tw129 : Cond.instanceMethod yX2_init ∈ zT := zT_i (List.mem_of_getElem? (i := 129) (by decide +kernel)) rfl
theorem tw130 : Cond.code yX2_init cX2_init 1 none ∈ zT := zT_i (List.mem_of_getElem? (i := 130) (by decide +kernel)) rfl
theorem tw131 : Cond.methodLink RX2 3 objectInit ∈ zT := zT_i (List.mem_of_getElem? (i := 131) (by decide +kernel)) rfl
theorem tw132 : Cond.classLink RX2 9 "[[I" ∈ zT := zT_i (List.mem_of_getElem? (i := 132) (by decide +kernel)) rfl
theorem tw133 : Cond.arrayOver (.array .int) ∈ lw_tbl := List.mem_of_getElem? (i := 133) (by decide +kernel)
theorem tw134 : Cond.fieldLink RX2 11 "QuarryOrders$History" "rows" "[[I" ∈ zT := zT_i (List.mem_of_getElem? (i := 134) (by decide +kernel)) rfl
theorem tw135 : Cond.fieldLink RX2 16 "QuarryOrders$History" "next" "I" ∈ zT := zT_i (List.mem_of_getElem? (i := 135) (by decide +kernel)) rfl
theorem tw136 : Cond.fieldLink RX2 20 "QuarryOrders$History" "size" "I" ∈ zT := zT_i (List.mem_of_getElem? (i := 136) (by decide +kernel)) rfl
theorem tw144 : Cond.classLink RX7 41 RX4 ∈ zT := zT_i (List.mem_of_getElem? (i := 144) (by decide +kernel)) rfl
theorem tw145 : Cond.instantiable RX4 2 ∈ zT := zT_i (List.mem_of_getElem? (i := 145) (by decide +kernel)) rfl
theorem tw146 : Cond.methodLinkNest RX7 43 yX4_init RX7 ∈ lw_tbl := List.mem_of_getElem? (i := 146) (by decide +kernel)
theorem tw147 : Cond.instanceMethod yX4_init ∈ zT := zT_i (List.mem_of_getElem? (i := 147) (by decide +kernel)) rfl
theorem tw148 : Cond.code yX4_init cX4_init 1 none ∈ zT := zT_i (List.mem_of_getElem? (i := 148) (by decide +kernel)) rfl
theorem tw149 : Cond.methodLink RX4 3 objectInit ∈ zT := zT_i (List.mem_of_getElem? (i := 149) (by decide +kernel)) rfl
theorem tw150 : Cond.classLink RX4 9 "[[I" ∈ zT := zT_i (List.mem_of_getElem? (i := 150) (by decide +kernel)) rfl
theorem tw151 : Cond.fieldLink RX4 11 "QuarryOrders$Slots" "rows" "[[I" ∈ zT := zT_i (List.mem_of_getElem? (i := 151) (by decide +kernel)) rfl
theorem tw152 : Cond.fieldLink RX4 16 "QuarryOrders$Slots" "filled" "[Z" ∈ zT := zT_i (List.mem_of_getElem? (i := 152) (by decide +kernel)) rfl
theorem tw158 : Cond.arrayClass .boolean ∈ zT := zT_i (List.mem_of_getElem? (i := 158) (by decide +kernel)) rfl
theorem tw159 : Cond.classLink RX7 48 RX3 ∈ zT := zT_i (List.mem_of_getElem? (i := 159) (by decide +kernel)) rfl
theorem tw160 : Cond.instantiable RX3 7 ∈ zT := zT_i (List.mem_of_getElem? (i := 160) (by decide +kernel)) rfl
theorem tw161 : Cond.methodLinkNest RX7 50 yX3_init RX7 ∈ lw_tbl := List.mem_of_getElem? (i := 161) (by decide +kernel)
theorem tw162 : Cond.instanceMethod yX3_init ∈ zT := zT_i (List.mem_of_getElem? (i := 162) (by decide +kernel)) rfl
theorem tw163 : Cond.code yX3_init cX3_init 1 none ∈ zT := zT_i (List.mem_of_getElem? (i := 163) (by decide +kernel)) rfl
theorem tw164 : Cond.methodLink RX3 3 objectInit ∈ zT := zT_i (List.mem_of_getElem? (i := 164) (by decide +kernel)) rfl
theorem tw165 : Cond.fieldLink RX3 9 "QuarryOrders$Pad" "signs" "[C" ∈ zT := zT_i (List.mem_of_getElem? (i := 165) (by decide +kernel)) rfl
theorem tw166 : Cond.fieldLink RX3 15 "QuarryOrders$Pad" "length" "I" ∈ zT := zT_i (List.mem_of_getElem? (i := 166) (by decide +kernel)) rfl
theorem tw167 : Cond.fieldLink RX3 19 "QuarryOrders$Pad" "at" "I" ∈ zT := zT_i (List.mem_of_getElem? (i := 167) (by decide +kernel)) rfl
theorem tw168 : Cond.fieldLink RX3 22 "QuarryOrders$Pad" "kind" "I" ∈ zT := zT_i (List.mem_of_getElem? (i := 168) (by decide +kernel)) rfl
theorem tw169 : Cond.fieldLink RX3 25 "QuarryOrders$Pad" "numbers" "[I" ∈ zT := zT_i (List.mem_of_getElem? (i := 169) (by decide +kernel)) rfl
theorem tw170 : Cond.fieldLink RX3 29 "QuarryOrders$Pad" "found" "I" ∈ zT := zT_i (List.mem_of_getElem? (i := 170) (by decide +kernel)) rfl
theorem tw171 : Cond.fieldLink RX3 32 "QuarryOrders$Pad" "negative" "Z" ∈ zT := zT_i (List.mem_of_getElem? (i := 171) (by decide +kernel)) rfl
theorem tw187 : Cond.arrayClass .char ∈ zT := zT_i (List.mem_of_getElem? (i := 187) (by decide +kernel)) rfl
theorem tw188 : Cond.fieldLink RX7 12 "QuarryOrders" "state" "LQuarryOrders$State;" ∈ zT := zT_i (List.mem_of_getElem? (i := 188) (by decide +kernel)) rfl
theorem tw189 : Cond.fieldLink RX7 21 "QuarryOrders" "facts" "LQuarryOrders$Facts;" ∈ zT := zT_i (List.mem_of_getElem? (i := 189) (by decide +kernel)) rfl
theorem tw190 : Cond.fieldLink RX7 30 "QuarryOrders" "works" "LQuarryOrders$Works;" ∈ zT := zT_i (List.mem_of_getElem? (i := 190) (by decide +kernel)) rfl
theorem tw191 : Cond.fieldLink RX7 37 "QuarryOrders" "history" "LQuarryOrders$History;" ∈ zT := zT_i (List.mem_of_getElem? (i := 191) (by decide +kernel)) rfl
theorem tw192 : Cond.fieldLink RX7 44 "QuarryOrders" "slots" "LQuarryOrders$Slots;" ∈ zT := zT_i (List.mem_of_getElem? (i := 192) (by decide +kernel)) rfl
theorem tw193 : Cond.fieldLink RX7 51 "QuarryOrders" "pad" "LQuarryOrders$Pad;" ∈ zT := zT_i (List.mem_of_getElem? (i := 193) (by decide +kernel)) rfl
theorem tw207 : Cond.methodLink RL 13 yX7_set ∈ zT := zT_i (List.mem_of_getElem? (i := 207) (by decide +kernel)) rfl
theorem tw208 : Cond.instanceMethod yX7_set ∈ zT := zT_i (List.mem_of_getElem? (i := 208) (by decide +kernel)) rfl
theorem tw209 : Cond.selects RX7 yX7_set yX7_set ∈ zT := zT_i (List.mem_of_getElem? (i := 209) (by decide +kernel)) rfl
theorem tw210 : Cond.code yX7_set cX7_set 3 (some .int) ∈ zT := zT_i (List.mem_of_getElem? (i := 210) (by decide +kernel)) rfl
theorem tw211 : Cond.methodLink RX7 55 yX2_note ∈ zT := zT_i (List.mem_of_getElem? (i := 211) (by decide +kernel)) rfl
theorem tw212 : Cond.instanceMethod yX2_note ∈ zT := zT_i (List.mem_of_getElem? (i := 212) (by decide +kernel)) rfl
theorem tw213 : Cond.selects RX2 yX2_note yX2_note ∈ zT := zT_i (List.mem_of_getElem? (i := 213) (by decide +kernel)) rfl
theorem tw214 : Cond.code yX2_note cX2_note 2 none ∈ zT := zT_i (List.mem_of_getElem? (i := 214) (by decide +kernel)) rfl
theorem tw215 : Cond.methodLink RX2 23 yX2_nextRow ∈ zT := zT_i (List.mem_of_getElem? (i := 215) (by decide +kernel)) rfl
theorem tw217 : Cond.instanceMethod yX2_nextRow ∈ zT := zT_i (List.mem_of_getElem? (i := 217) (by decide +kernel)) rfl
theorem tw218 : Cond.code yX2_nextRow cX2_nextRow 1 (some (.array .int)) ∈ zT := zT_i (List.mem_of_getElem? (i := 218) (by decide +kernel)) rfl
theorem tw219 : Cond.methodLink RX2 27 yX5_copyTo ∈ zT := zT_i (List.mem_of_getElem? (i := 219) (by decide +kernel)) rfl
theorem tw220 : Cond.instanceMethod yX5_copyTo ∈ zT := zT_i (List.mem_of_getElem? (i := 220) (by decide +kernel)) rfl
theorem tw221 : Cond.selects RX5 yX5_copyTo yX5_copyTo ∈ zT := zT_i (List.mem_of_getElem? (i := 221) (by decide +kernel)) rfl
theorem tw222 : Cond.code yX5_copyTo cX5_copyTo 2 none ∈ zT := zT_i (List.mem_of_getElem? (i := 222) (by decide +kernel)) rfl
theorem tw223 : Cond.methodLinkNest RX5 31 yX7_copyRow RX7 ∈ lw_tbl := List.mem_of_getElem? (i := 223) (by decide +kernel)
theorem tw224 : Cond.static yX7_copyRow ∈ zT := zT_i (List.mem_of_getElem? (i := 224) (by decide +kernel)) rfl
theorem tw225 : Cond.code yX7_copyRow cX7_copyRow 2 none ∈ zT := zT_i (List.mem_of_getElem? (i := 225) (by decide +kernel)) rfl
theorem tw226 : Cond.methodLink RX7 257 ⟨"java/lang/System", "arraycopy", "(Ljava/lang/Object;ILjava/lang/Object;II)V"⟩ ∈ zT := zT_i (List.mem_of_getElem? (i := 226) (by decide +kernel)) rfl
theorem tw227 : Cond.static ⟨"java/lang/System", "arraycopy", "(Ljava/lang/Object;ILjava/lang/Object;II)V"⟩ ∈ zT := zT_i (List.mem_of_getElem? (i := 227) (by decide +kernel)) rfl
theorem tw228 : Cond.native ⟨"java/lang/System", "arraycopy", "(Ljava/lang/Object;ILjava/lang/Object;II)V"⟩ ∈ zT := zT_i (List.mem_of_getElem? (i := 228) (by decide +kernel)) rfl
theorem tw229 : Cond.methodLink RX7 58 yX6_changeSetting ∈ zT := zT_i (List.mem_of_getElem? (i := 229) (by decide +kernel)) rfl
theorem tw230 : Cond.instanceMethod yX6_changeSetting ∈ zT := zT_i (List.mem_of_getElem? (i := 230) (by decide +kernel)) rfl
theorem tw231 : Cond.selects RX6 yX6_changeSetting yX6_changeSetting ∈ zT := zT_i (List.mem_of_getElem? (i := 231) (by decide +kernel)) rfl
theorem tw232 : Cond.code yX6_changeSetting cX6_changeSetting 4 (some .int) ∈ zT := zT_i (List.mem_of_getElem? (i := 232) (by decide +kernel)) rfl
theorem tw233 : Cond.fieldLinkNest RX6 19 "QuarryOrders" "LEAST_SETTING" "[I" "QuarryOrders" ∈ lw_tbl := List.mem_of_getElem? (i := 233) (by decide +kernel)
theorem tw234 : Cond.laysStatic "QuarryOrders" "LEAST_SETTING" "[I" ∈ lw_tbl := List.mem_of_getElem? (i := 234) (by decide +kernel)
theorem tw235 : Cond.fieldLinkNest RX6 23 "QuarryOrders" "MOST_SETTING" "[I" "QuarryOrders" ∈ lw_tbl := List.mem_of_getElem? (i := 235) (by decide +kernel)
theorem tw236 : Cond.laysStatic "QuarryOrders" "MOST_SETTING" "[I" ∈ lw_tbl := List.mem_of_getElem? (i := 236) (by decide +kernel)
theorem tw237 : Cond.methodLink RX6 26 yX5_cell ∈ zT := zT_i (List.mem_of_getElem? (i := 237) (by decide +kernel)) rfl
theorem tw238 : Cond.instanceMethod yX5_cell ∈ zT := zT_i (List.mem_of_getElem? (i := 238) (by decide +kernel)) rfl
theorem tw239 : Cond.selects RX5 yX5_cell yX5_cell ∈ zT := zT_i (List.mem_of_getElem? (i := 239) (by decide +kernel)) rfl
theorem tw240 : Cond.code yX5_cell cX5_cell 2 (some .int) ∈ zT := zT_i (List.mem_of_getElem? (i := 240) (by decide +kernel)) rfl
theorem tw241 : Cond.methodLink RX6 32 yX5_setCell ∈ zT := zT_i (List.mem_of_getElem? (i := 241) (by decide +kernel)) rfl
theorem tw242 : Cond.methodLink RX7 62 yX2_settle ∈ zT := zT_i (List.mem_of_getElem? (i := 242) (by decide +kernel)) rfl
theorem tw243 : Cond.instanceMethod yX2_settle ∈ zT := zT_i (List.mem_of_getElem? (i := 243) (by decide +kernel)) rfl
theorem tw244 : Cond.selects RX2 yX2_settle yX2_settle ∈ zT := zT_i (List.mem_of_getElem? (i := 244) (by decide +kernel)) rfl
theorem tw245 : Cond.code yX2_settle cX2_settle 2 (some .int) ∈ zT := zT_i (List.mem_of_getElem? (i := 245) (by decide +kernel)) rfl
theorem tw246 : Cond.methodLink RX2 33 yJ9_min_7cf53 ∈ zT := zT_i (List.mem_of_getElem? (i := 246) (by decide +kernel)) rfl
theorem tw247 : Cond.static yJ9_min_7cf53 ∈ zT := zT_i (List.mem_of_getElem? (i := 247) (by decide +kernel)) rfl
theorem tw248 : Cond.code yJ9_min_7cf53 cJ9_min_7cf53 2 (some .int) ∈ zT := zT_i (List.mem_of_getElem? (i := 248) (by decide +kernel)) rfl
theorem tw249 : Cond.methodLink RL 18 yX7_quarry ∈ zT := zT_i (List.mem_of_getElem? (i := 249) (by decide +kernel)) rfl
theorem tw250 : Cond.instanceMethod yX7_quarry ∈ zT := zT_i (List.mem_of_getElem? (i := 250) (by decide +kernel)) rfl
theorem tw251 : Cond.selects RX7 yX7_quarry yX7_quarry ∈ zT := zT_i (List.mem_of_getElem? (i := 251) (by decide +kernel)) rfl
theorem tw252 : Cond.code yX7_quarry cX7_quarry 5 (some .int) ∈ zT := zT_i (List.mem_of_getElem? (i := 252) (by decide +kernel)) rfl
theorem tw253 : Cond.methodLink RX7 66 yX6_quarryBlock ∈ zT := zT_i (List.mem_of_getElem? (i := 253) (by decide +kernel)) rfl
theorem tw254 : Cond.instanceMethod yX6_quarryBlock ∈ zT := zT_i (List.mem_of_getElem? (i := 254) (by decide +kernel)) rfl
theorem tw255 : Cond.selects RX6 yX6_quarryBlock yX6_quarryBlock ∈ zT := zT_i (List.mem_of_getElem? (i := 255) (by decide +kernel)) rfl
theorem tw256 : Cond.code yX6_quarryBlock cX6_quarryBlock 5 (some .int) ∈ zT := zT_i (List.mem_of_getElem? (i := 256) (by decide +kernel)) rfl
theorem tw257 : Cond.methodLinkNest RX6 36 yX7_isSize RX7 ∈ lw_tbl := List.mem_of_getElem? (i := 257) (by decide +kernel)
theorem tw258 : Cond.static yX7_isSize ∈ zT := zT_i (List.mem_of_getElem? (i := 258) (by decide +kernel)) rfl
theorem tw259 : Cond.code yX7_isSize cX7_isSize 1 (some .boolean) ∈ zT := zT_i (List.mem_of_getElem? (i := 259) (by decide +kernel)) rfl
theorem tw260 : Cond.methodLink RX6 40 yX6_addBlock ∈ zT := zT_i (List.mem_of_getElem? (i := 260) (by decide +kernel)) rfl
theorem tw262 : Cond.instanceMethod yX6_addBlock ∈ zT := zT_i (List.mem_of_getElem? (i := 262) (by decide +kernel)) rfl
theorem tw263 : Cond.code yX6_addBlock cX6_addBlock 6 (some .int) ∈ zT := zT_i (List.mem_of_getElem? (i := 263) (by decide +kernel)) rfl
theorem tw264 : Cond.methodLink RX6 44 yX5_setBlockCell ∈ zT := zT_i (List.mem_of_getElem? (i := 264) (by decide +kernel)) rfl
theorem tw265 : Cond.instanceMethod yX5_setBlockCell ∈ zT := zT_i (List.mem_of_getElem? (i := 265) (by decide +kernel)) rfl
theorem tw266 : Cond.selects RX5 yX5_setBlockCell yX5_setBlockCell ∈ zT := zT_i (List.mem_of_getElem? (i := 266) (by decide +kernel)) rfl
theorem tw267 : Cond.code yX5_setBlockCell cX5_setBlockCell 4 none ∈ zT := zT_i (List.mem_of_getElem? (i := 267) (by decide +kernel)) rfl
theorem tw268 : Cond.methodLink RL 23 yX7_cut ∈ zT := zT_i (List.mem_of_getElem? (i := 268) (by decide +kernel)) rfl
theorem tw269 : Cond.instanceMethod yX7_cut ∈ zT := zT_i (List.mem_of_getElem? (i := 269) (by decide +kernel)) rfl
theorem tw270 : Cond.selects RX7 yX7_cut yX7_cut ∈ zT := zT_i (List.mem_of_getElem? (i := 270) (by decide +kernel)) rfl
theorem tw271 : Cond.code yX7_cut cX7_cut 4 (some .int) ∈ zT := zT_i (List.mem_of_getElem? (i := 271) (by decide +kernel)) rfl
theorem tw272 : Cond.methodLink RX7 70 yX6_cutBlock ∈ zT := zT_i (List.mem_of_getElem? (i := 272) (by decide +kernel)) rfl
theorem tw273 : Cond.instanceMethod yX6_cutBlock ∈ zT := zT_i (List.mem_of_getElem? (i := 273) (by decide +kernel)) rfl
theorem tw274 : Cond.selects RX6 yX6_cutBlock yX6_cutBlock ∈ zT := zT_i (List.mem_of_getElem? (i := 274) (by decide +kernel)) rfl
theorem tw275 : Cond.code yX6_cutBlock cX6_cutBlock 7 (some .int) ∈ zT := zT_i (List.mem_of_getElem? (i := 275) (by decide +kernel)) rfl
theorem tw276 : Cond.methodLink RX6 48 yX5_hasBlock ∈ zT := zT_i (List.mem_of_getElem? (i := 276) (by decide +kernel)) rfl
theorem tw277 : Cond.instanceMethod yX5_hasBlock ∈ zT := zT_i (List.mem_of_getElem? (i := 277) (by decide +kernel)) rfl
theorem tw278 : Cond.selects RX5 yX5_hasBlock yX5_hasBlock ∈ zT := zT_i (List.mem_of_getElem? (i := 278) (by decide +kernel)) rfl
theorem tw279 : Cond.code yX5_hasBlock cX5_hasBlock 2 (some .boolean) ∈ zT := zT_i (List.mem_of_getElem? (i := 279) (by decide +kernel)) rfl
theorem tw280 : Cond.methodLink RX5 23 yX5_cell ∈ zT := zT_i (List.mem_of_getElem? (i := 280) (by decide +kernel)) rfl
theorem tw281 : Cond.methodLink RX6 51 yX5_blockCell ∈ zT := zT_i (List.mem_of_getElem? (i := 281) (by decide +kernel)) rfl
theorem tw282 : Cond.instanceMethod yX5_blockCell ∈ zT := zT_i (List.mem_of_getElem? (i := 282) (by decide +kernel)) rfl
theorem tw283 : Cond.selects RX5 yX5_blockCell yX5_blockCell ∈ zT := zT_i (List.mem_of_getElem? (i := 283) (by decide +kernel)) rfl
theorem tw284 : Cond.code yX5_blockCell cX5_blockCell 4 (some .int) ∈ zT := zT_i (List.mem_of_getElem? (i := 284) (by decide +kernel)) rfl
theorem tw285 : Cond.methodLink RX6 55 yX1_mayBeSawn ∈ zT := zT_i (List.mem_of_getElem? (i := 285) (by decide +kernel)) rfl
theorem tw286 : Cond.instanceMethod yX1_mayBeSawn ∈ zT := zT_i (List.mem_of_getElem? (i := 286) (by decide +kernel)) rfl
theorem tw287 : Cond.selects RX1 yX1_mayBeSawn yX1_mayBeSawn ∈ zT := zT_i (List.mem_of_getElem? (i := 287) (by decide +kernel)) rfl
theorem tw288 : Cond.code yX1_mayBeSawn cX1_mayBeSawn 2 (some .boolean) ∈ zT := zT_i (List.mem_of_getElem? (i := 288) (by decide +kernel)) rfl
theorem tw289 : Cond.methodLink RX1 15 yX5_cell ∈ zT := zT_i (List.mem_of_getElem? (i := 289) (by decide +kernel)) rfl
theorem tw290 : Cond.methodLink RX1 49 yX1_isAtHand ∈ zT := zT_i (List.mem_of_getElem? (i := 290) (by decide +kernel)) rfl
theorem tw291 : Cond.instanceMethod yX1_isAtHand ∈ zT := zT_i (List.mem_of_getElem? (i := 291) (by decide +kernel)) rfl
theorem tw292 : Cond.selects RX1 yX1_isAtHand yX1_isAtHand ∈ zT := zT_i (List.mem_of_getElem? (i := 292) (by decide +kernel)) rfl
theorem tw293 : Cond.code yX1_isAtHand cX1_isAtHand 3 (some .boolean) ∈ zT := zT_i (List.mem_of_getElem? (i := 293) (by decide +kernel)) rfl
theorem tw294 : Cond.methodLink RX1 21 yX5_blockCell ∈ zT := zT_i (List.mem_of_getElem? (i := 294) (by decide +kernel)) rfl
theorem tw295 : Cond.methodLink RX6 60 yX6_addPiece ∈ zT := zT_i (List.mem_of_getElem? (i := 295) (by decide +kernel)) rfl
theorem tw297 : Cond.instanceMethod yX6_addPiece ∈ zT := zT_i (List.mem_of_getElem? (i := 297) (by decide +kernel)) rfl
theorem tw298 : Cond.code yX6_addPiece cX6_addPiece 9 (some .int) ∈ zT := zT_i (List.mem_of_getElem? (i := 298) (by decide +kernel)) rfl
theorem tw299 : Cond.methodLink RX6 64 yX1_roofHasRoom ∈ zT := zT_i (List.mem_of_getElem? (i := 299) (by decide +kernel)) rfl
theorem tw300 : Cond.instanceMethod yX1_roofHasRoom ∈ zT := zT_i (List.mem_of_getElem? (i := 300) (by decide +kernel)) rfl
theorem tw301 : Cond.selects RX1 yX1_roofHasRoom yX1_roofHasRoom ∈ zT := zT_i (List.mem_of_getElem? (i := 301) (by decide +kernel)) rfl
theorem tw302 : Cond.code yX1_roofHasRoom cX1_roofHasRoom 1 (some .boolean) ∈ zT := zT_i (List.mem_of_getElem? (i := 302) (by decide +kernel)) rfl
theorem tw303 : Cond.methodLink RX1 25 yX5_blocksWith ∈ zT := zT_i (List.mem_of_getElem? (i := 303) (by decide +kernel)) rfl
theorem tw304 : Cond.instanceMethod yX5_blocksWith ∈ zT := zT_i (List.mem_of_getElem? (i := 304) (by decide +kernel)) rfl
theorem tw305 : Cond.selects RX5 yX5_blocksWith yX5_blocksWith ∈ zT := zT_i (List.mem_of_getElem? (i := 305) (by decide +kernel)) rfl
theorem tw306 : Cond.code yX5_blocksWith cX5_blocksWith 6 (some .int) ∈ zT := zT_i (List.mem_of_getElem? (i := 306) (by decide +kernel)) rfl
theorem tw307 : Cond.methodLink RX5 27 yX5_blockCell ∈ zT := zT_i (List.mem_of_getElem? (i := 307) (by decide +kernel)) rfl
theorem tw308 : Cond.methodLink RX1 44 yJ6_bitCount_0f7a4 ∈ zT := zT_i (List.mem_of_getElem? (i := 308) (by decide +kernel)) rfl
theorem tw309 : Cond.static yJ6_bitCount_0f7a4 ∈ zT := zT_i (List.mem_of_getElem? (i := 309) (by decide +kernel)) rfl
theorem tw310 : Cond.code yJ6_bitCount_0f7a4 cJ6_bitCount_0f7a4 1 (some .int) ∈ zT := zT_i (List.mem_of_getElem? (i := 310) (by decide +kernel)) rfl
theorem tw311 : Cond.constant RJ6 265 (1431655765) ∈ zT := zT_i (List.mem_of_getElem? (i := 311) (by decide +kernel)) rfl
theorem tw312 : Cond.constant RJ6 266 (858993459) ∈ zT := zT_i (List.mem_of_getElem? (i := 312) (by decide +kernel)) rfl
theorem tw313 : Cond.constant RJ6 267 (252645135) ∈ zT := zT_i (List.mem_of_getElem? (i := 313) (by decide +kernel)) rfl
theorem tw314 : Cond.methodLink RL 28 yX7_shelter ∈ zT := zT_i (List.mem_of_getElem? (i := 314) (by decide +kernel)) rfl
theorem tw315 : Cond.instanceMethod yX7_shelter ∈ zT := zT_i (List.mem_of_getElem? (i := 315) (by decide +kernel)) rfl
theorem tw316 : Cond.selects RX7 yX7_shelter yX7_shelter ∈ zT := zT_i (List.mem_of_getElem? (i := 316) (by decide +kernel)) rfl
theorem tw317 : Cond.code yX7_shelter cX7_shelter 2 (some .int) ∈ zT := zT_i (List.mem_of_getElem? (i := 317) (by decide +kernel)) rfl
theorem tw318 : Cond.methodLink RX7 74 yX6_moveBlock ∈ zT := zT_i (List.mem_of_getElem? (i := 318) (by decide +kernel)) rfl
theorem tw319 : Cond.instanceMethod yX6_moveBlock ∈ zT := zT_i (List.mem_of_getElem? (i := 319) (by decide +kernel)) rfl
theorem tw320 : Cond.selects RX6 yX6_moveBlock yX6_moveBlock ∈ zT := zT_i (List.mem_of_getElem? (i := 320) (by decide +kernel)) rfl
theorem tw321 : Cond.code yX6_moveBlock cX6_moveBlock 3 (some .int) ∈ zT := zT_i (List.mem_of_getElem? (i := 321) (by decide +kernel)) rfl
theorem tw322 : Cond.methodLink RX6 68 yX1_isAtHand ∈ zT := zT_i (List.mem_of_getElem? (i := 322) (by decide +kernel)) rfl
theorem tw323 : Cond.methodLink RL 33 yX7_order ∈ zT := zT_i (List.mem_of_getElem? (i := 323) (by decide +kernel)) rfl
theorem tw324 : Cond.instanceMethod yX7_order ∈ zT := zT_i (List.mem_of_getElem? (i := 324) (by decide +kernel)) rfl
theorem tw325 : Cond.selects RX7 yX7_order yX7_order ∈ zT := zT_i (List.mem_of_getElem? (i := 325) (by decide +kernel)) rfl
theorem tw326 : Cond.code yX7_order cX7_order 4 (some .int) ∈ zT := zT_i (List.mem_of_getElem? (i := 326) (by decide +kernel)) rfl
theorem tw327 : Cond.methodLink RX7 77 yX6_takeOrder ∈ zT := zT_i (List.mem_of_getElem? (i := 327) (by decide +kernel)) rfl
theorem tw328 : Cond.instanceMethod yX6_takeOrder ∈ zT := zT_i (List.mem_of_getElem? (i := 328) (by decide +kernel)) rfl
theorem tw329 : Cond.selects RX6 yX6_takeOrder yX6_takeOrder ∈ zT := zT_i (List.mem_of_getElem? (i := 329) (by decide +kernel)) rfl
theorem tw330 : Cond.code yX6_takeOrder cX6_takeOrder 5 (some .int) ∈ zT := zT_i (List.mem_of_getElem? (i := 330) (by decide +kernel)) rfl
theorem tw331 : Cond.methodLinkNest RX6 71 yX7_greatestOf RX7 ∈ lw_tbl := List.mem_of_getElem? (i := 331) (by decide +kernel)
theorem tw332 : Cond.static yX7_greatestOf ∈ zT := zT_i (List.mem_of_getElem? (i := 332) (by decide +kernel)) rfl
theorem tw333 : Cond.code yX7_greatestOf cX7_greatestOf 3 (some .int) ∈ zT := zT_i (List.mem_of_getElem? (i := 333) (by decide +kernel)) rfl
theorem tw334 : Cond.methodLink RX7 243 yJ9_max_7cf53 ∈ zT := zT_i (List.mem_of_getElem? (i := 334) (by decide +kernel)) rfl
theorem tw335 : Cond.static yJ9_max_7cf53 ∈ zT := zT_i (List.mem_of_getElem? (i := 335) (by decide +kernel)) rfl
theorem tw336 : Cond.code yJ9_max_7cf53 cJ9_max_7cf53 2 (some .int) ∈ zT := zT_i (List.mem_of_getElem? (i := 336) (by decide +kernel)) rfl
theorem tw337 : Cond.methodLink RX6 75 yX5_setOrderCell ∈ zT := zT_i (List.mem_of_getElem? (i := 337) (by decide +kernel)) rfl
theorem tw338 : Cond.instanceMethod yX5_setOrderCell ∈ zT := zT_i (List.mem_of_getElem? (i := 338) (by decide +kernel)) rfl
theorem tw339 : Cond.selects RX5 yX5_setOrderCell yX5_setOrderCell ∈ zT := zT_i (List.mem_of_getElem? (i := 339) (by decide +kernel)) rfl
theorem tw340 : Cond.code yX5_setOrderCell cX5_setOrderCell 4 none ∈ zT := zT_i (List.mem_of_getElem? (i := 340) (by decide +kernel)) rfl
theorem tw341 : Cond.methodLinkNest RX6 78 yX7_middleOf RX7 ∈ lw_tbl := List.mem_of_getElem? (i := 341) (by decide +kernel)
theorem tw342 : Cond.static yX7_middleOf ∈ zT := zT_i (List.mem_of_getElem? (i := 342) (by decide +kernel)) rfl
theorem tw343 : Cond.code yX7_middleOf cX7_middleOf 3 (some .int) ∈ zT := zT_i (List.mem_of_getElem? (i := 343) (by decide +kernel)) rfl
theorem tw344 : Cond.methodLink RX7 251 yX7_greatestOf ∈ zT := zT_i (List.mem_of_getElem? (i := 344) (by decide +kernel)) rfl
theorem tw345 : Cond.methodLink RX7 254 yX7_leastOf ∈ zT := zT_i (List.mem_of_getElem? (i := 345) (by decide +kernel)) rfl
theorem tw346 : Cond.static yX7_leastOf ∈ zT := zT_i (List.mem_of_getElem? (i := 346) (by decide +kernel)) rfl
theorem tw347 : Cond.code yX7_leastOf cX7_leastOf 3 (some .int) ∈ zT := zT_i (List.mem_of_getElem? (i := 347) (by decide +kernel)) rfl
theorem tw348 : Cond.methodLink RX7 248 yJ9_min_7cf53 ∈ zT := zT_i (List.mem_of_getElem? (i := 348) (by decide +kernel)) rfl
theorem tw349 : Cond.methodLinkNest RX6 81 yX7_leastOf RX7 ∈ lw_tbl := List.mem_of_getElem? (i := 349) (by decide +kernel)
theorem tw350 : Cond.methodLink RL 37 yX7_give ∈ zT := zT_i (List.mem_of_getElem? (i := 350) (by decide +kernel)) rfl
theorem tw351 : Cond.instanceMethod yX7_give ∈ zT := zT_i (List.mem_of_getElem? (i := 351) (by decide +kernel)) rfl
theorem tw352 : Cond.selects RX7 yX7_give yX7_give ∈ zT := zT_i (List.mem_of_getElem? (i := 352) (by decide +kernel)) rfl
theorem tw353 : Cond.code yX7_give cX7_give 3 (some .int) ∈ zT := zT_i (List.mem_of_getElem? (i := 353) (by decide +kernel)) rfl
theorem tw354 : Cond.methodLink RX7 80 yX6_giveBlock ∈ zT := zT_i (List.mem_of_getElem? (i := 354) (by decide +kernel)) rfl
theorem tw355 : Cond.instanceMethod yX6_giveBlock ∈ zT := zT_i (List.mem_of_getElem? (i := 355) (by decide +kernel)) rfl
theorem tw356 : Cond.selects RX6 yX6_giveBlock yX6_giveBlock ∈ zT := zT_i (List.mem_of_getElem? (i := 356) (by decide +kernel)) rfl
theorem tw357 : Cond.code yX6_giveBlock cX6_giveBlock 4 (some .int) ∈ zT := zT_i (List.mem_of_getElem? (i := 357) (by decide +kernel)) rfl
theorem tw358 : Cond.methodLink RX6 84 yX5_hasOrder ∈ zT := zT_i (List.mem_of_getElem? (i := 358) (by decide +kernel)) rfl
theorem tw359 : Cond.instanceMethod yX5_hasOrder ∈ zT := zT_i (List.mem_of_getElem? (i := 359) (by decide +kernel)) rfl
theorem tw360 : Cond.selects RX5 yX5_hasOrder yX5_hasOrder ∈ zT := zT_i (List.mem_of_getElem? (i := 360) (by decide +kernel)) rfl
theorem tw361 : Cond.code yX5_hasOrder cX5_hasOrder 2 (some .boolean) ∈ zT := zT_i (List.mem_of_getElem? (i := 361) (by decide +kernel)) rfl
theorem tw362 : Cond.methodLink RX6 87 yX1_surplusToGive ∈ zT := zT_i (List.mem_of_getElem? (i := 362) (by decide +kernel)) rfl
theorem tw363 : Cond.instanceMethod yX1_surplusToGive ∈ zT := zT_i (List.mem_of_getElem? (i := 363) (by decide +kernel)) rfl
theorem tw364 : Cond.selects RX1 yX1_surplusToGive yX1_surplusToGive ∈ zT := zT_i (List.mem_of_getElem? (i := 364) (by decide +kernel)) rfl
theorem tw365 : Cond.code yX1_surplusToGive cX1_surplusToGive 4 (some .int) ∈ zT := zT_i (List.mem_of_getElem? (i := 365) (by decide +kernel)) rfl
theorem tw366 : Cond.methodLink RX1 41 yX5_orderCell ∈ zT := zT_i (List.mem_of_getElem? (i := 366) (by decide +kernel)) rfl
theorem tw367 : Cond.instanceMethod yX5_orderCell ∈ zT := zT_i (List.mem_of_getElem? (i := 367) (by decide +kernel)) rfl
theorem tw368 : Cond.selects RX5 yX5_orderCell yX5_orderCell ∈ zT := zT_i (List.mem_of_getElem? (i := 368) (by decide +kernel)) rfl
theorem tw369 : Cond.code yX5_orderCell cX5_orderCell 3 (some .int) ∈ zT := zT_i (List.mem_of_getElem? (i := 369) (by decide +kernel)) rfl
theorem tw370 : Cond.methodLink RX1 66 yX1_surplus ∈ zT := zT_i (List.mem_of_getElem? (i := 370) (by decide +kernel)) rfl
theorem tw371 : Cond.instanceMethod yX1_surplus ∈ zT := zT_i (List.mem_of_getElem? (i := 371) (by decide +kernel)) rfl
theorem tw372 : Cond.selects RX1 yX1_surplus yX1_surplus ∈ zT := zT_i (List.mem_of_getElem? (i := 372) (by decide +kernel)) rfl
theorem tw373 : Cond.code yX1_surplus cX1_surplus 9 (some .int) ∈ zT := zT_i (List.mem_of_getElem? (i := 373) (by decide +kernel)) rfl
theorem tw374 : Cond.methodLinkNest RX1 53 yX7_greatestOf RX7 ∈ lw_tbl := List.mem_of_getElem? (i := 374) (by decide +kernel)
theorem tw375 : Cond.methodLinkNest RX1 57 yX7_middleOf RX7 ∈ lw_tbl := List.mem_of_getElem? (i := 375) (by decide +kernel)
theorem tw376 : Cond.methodLinkNest RX1 60 yX7_leastOf RX7 ∈ lw_tbl := List.mem_of_getElem? (i := 376) (by decide +kernel)
theorem tw377 : Cond.methodLink RX1 63 yX1_isWithinOver ∈ zT := zT_i (List.mem_of_getElem? (i := 377) (by decide +kernel)) rfl
theorem tw379 : Cond.instanceMethod yX1_isWithinOver ∈ zT := zT_i (List.mem_of_getElem? (i := 379) (by decide +kernel)) rfl
theorem tw380 : Cond.code yX1_isWithinOver cX1_isWithinOver 2 (some .boolean) ∈ zT := zT_i (List.mem_of_getElem? (i := 380) (by decide +kernel)) rfl
theorem tw381 : Cond.methodLink RL 41 yX7_takeBack ∈ zT := zT_i (List.mem_of_getElem? (i := 381) (by decide +kernel)) rfl
theorem tw382 : Cond.instanceMethod yX7_takeBack ∈ zT := zT_i (List.mem_of_getElem? (i := 382) (by decide +kernel)) rfl
theorem tw383 : Cond.selects RX7 yX7_takeBack yX7_takeBack ∈ zT := zT_i (List.mem_of_getElem? (i := 383) (by decide +kernel)) rfl
theorem tw384 : Cond.code yX7_takeBack cX7_takeBack 2 (some .int) ∈ zT := zT_i (List.mem_of_getElem? (i := 384) (by decide +kernel)) rfl
theorem tw385 : Cond.methodLink RX7 83 yX6_takeBlockAway ∈ zT := zT_i (List.mem_of_getElem? (i := 385) (by decide +kernel)) rfl
theorem tw386 : Cond.instanceMethod yX6_takeBlockAway ∈ zT := zT_i (List.mem_of_getElem? (i := 386) (by decide +kernel)) rfl
theorem tw387 : Cond.selects RX6 yX6_takeBlockAway yX6_takeBlockAway ∈ zT := zT_i (List.mem_of_getElem? (i := 387) (by decide +kernel)) rfl
theorem tw388 : Cond.code yX6_takeBlockAway cX6_takeBlockAway 3 (some .int) ∈ zT := zT_i (List.mem_of_getElem? (i := 388) (by decide +kernel)) rfl
theorem tw389 : Cond.methodLink RX6 90 yX5_orderCell ∈ zT := zT_i (List.mem_of_getElem? (i := 389) (by decide +kernel)) rfl
theorem tw390 : Cond.methodLink RL 45 yX7_limits ∈ zT := zT_i (List.mem_of_getElem? (i := 390) (by decide +kernel)) rfl
theorem tw391 : Cond.instanceMethod yX7_limits ∈ zT := zT_i (List.mem_of_getElem? (i := 391) (by decide +kernel)) rfl
theorem tw392 : Cond.selects RX7 yX7_limits yX7_limits ∈ zT := zT_i (List.mem_of_getElem? (i := 392) (by decide +kernel)) rfl
theorem tw393 : Cond.code yX7_limits cX7_limits 5 (some .int) ∈ zT := zT_i (List.mem_of_getElem? (i := 393) (by decide +kernel)) rfl
theorem tw394 : Cond.methodLink RX7 86 yX6_changeLimits ∈ zT := zT_i (List.mem_of_getElem? (i := 394) (by decide +kernel)) rfl
theorem tw395 : Cond.instanceMethod yX6_changeLimits ∈ zT := zT_i (List.mem_of_getElem? (i := 395) (by decide +kernel)) rfl
theorem tw396 : Cond.selects RX6 yX6_changeLimits yX6_changeLimits ∈ zT := zT_i (List.mem_of_getElem? (i := 396) (by decide +kernel)) rfl
theorem tw397 : Cond.code yX6_changeLimits cX6_changeLimits 5 (some .int) ∈ zT := zT_i (List.mem_of_getElem? (i := 397) (by decide +kernel)) rfl
theorem tw398 : Cond.methodLinkNest RX6 93 yX7_isLorry RX7 ∈ lw_tbl := List.mem_of_getElem? (i := 398) (by decide +kernel)
theorem tw399 : Cond.static yX7_isLorry ∈ zT := zT_i (List.mem_of_getElem? (i := 399) (by decide +kernel)) rfl
theorem tw400 : Cond.code yX7_isLorry cX7_isLorry 1 (some .boolean) ∈ zT := zT_i (List.mem_of_getElem? (i := 400) (by decide +kernel)) rfl
theorem tw401 : Cond.methodLink RX6 96 yX6_isLimit ∈ zT := zT_i (List.mem_of_getElem? (i := 401) (by decide +kernel)) rfl
theorem tw402 : Cond.static yX6_isLimit ∈ zT := zT_i (List.mem_of_getElem? (i := 402) (by decide +kernel)) rfl
theorem tw403 : Cond.code yX6_isLimit cX6_isLimit 1 (some .boolean) ∈ zT := zT_i (List.mem_of_getElem? (i := 403) (by decide +kernel)) rfl
theorem tw404 : Cond.methodLink RX6 99 yX5_setLorryCell ∈ zT := zT_i (List.mem_of_getElem? (i := 404) (by decide +kernel)) rfl
theorem tw405 : Cond.methodLink RL 49 yX7_load ∈ zT := zT_i (List.mem_of_getElem? (i := 405) (by decide +kernel)) rfl
theorem tw406 : Cond.instanceMethod yX7_load ∈ zT := zT_i (List.mem_of_getElem? (i := 406) (by decide +kernel)) rfl
theorem tw407 : Cond.selects RX7 yX7_load yX7_load ∈ zT := zT_i (List.mem_of_getElem? (i := 407) (by decide +kernel)) rfl
theorem tw408 : Cond.code yX7_load cX7_load 4 (some .int) ∈ zT := zT_i (List.mem_of_getElem? (i := 408) (by decide +kernel)) rfl
theorem tw409 : Cond.methodLink RX7 89 yX6_loadBlock ∈ zT := zT_i (List.mem_of_getElem? (i := 409) (by decide +kernel)) rfl
theorem tw410 : Cond.instanceMethod yX6_loadBlock ∈ zT := zT_i (List.mem_of_getElem? (i := 410) (by decide +kernel)) rfl
theorem tw411 : Cond.selects RX6 yX6_loadBlock yX6_loadBlock ∈ zT := zT_i (List.mem_of_getElem? (i := 411) (by decide +kernel)) rfl
theorem tw412 : Cond.code yX6_loadBlock cX6_loadBlock 4 (some .int) ∈ zT := zT_i (List.mem_of_getElem? (i := 412) (by decide +kernel)) rfl
theorem tw413 : Cond.methodLink RX6 102 yX1_isFree ∈ zT := zT_i (List.mem_of_getElem? (i := 413) (by decide +kernel)) rfl
theorem tw414 : Cond.instanceMethod yX1_isFree ∈ zT := zT_i (List.mem_of_getElem? (i := 414) (by decide +kernel)) rfl
theorem tw415 : Cond.selects RX1 yX1_isFree yX1_isFree ∈ zT := zT_i (List.mem_of_getElem? (i := 415) (by decide +kernel)) rfl
theorem tw416 : Cond.code yX1_isFree cX1_isFree 3 (some .boolean) ∈ zT := zT_i (List.mem_of_getElem? (i := 416) (by decide +kernel)) rfl
theorem tw417 : Cond.methodLink RX6 106 yX1_loadOf ∈ zT := zT_i (List.mem_of_getElem? (i := 417) (by decide +kernel)) rfl
theorem tw418 : Cond.instanceMethod yX1_loadOf ∈ zT := zT_i (List.mem_of_getElem? (i := 418) (by decide +kernel)) rfl
theorem tw419 : Cond.selects RX1 yX1_loadOf yX1_loadOf ∈ zT := zT_i (List.mem_of_getElem? (i := 419) (by decide +kernel)) rfl
theorem tw420 : Cond.code yX1_loadOf cX1_loadOf 2 (some .int) ∈ zT := zT_i (List.mem_of_getElem? (i := 420) (by decide +kernel)) rfl
theorem tw421 : Cond.methodLink RX1 73 yX1_blocksOn ∈ zT := zT_i (List.mem_of_getElem? (i := 421) (by decide +kernel)) rfl
theorem tw422 : Cond.instanceMethod yX1_blocksOn ∈ zT := zT_i (List.mem_of_getElem? (i := 422) (by decide +kernel)) rfl
theorem tw423 : Cond.selects RX1 yX1_blocksOn yX1_blocksOn ∈ zT := zT_i (List.mem_of_getElem? (i := 423) (by decide +kernel)) rfl
theorem tw424 : Cond.code yX1_blocksOn cX1_blocksOn 4 (some .int) ∈ zT := zT_i (List.mem_of_getElem? (i := 424) (by decide +kernel)) rfl
theorem tw425 : Cond.methodLink RX1 32 yX1_weightOf ∈ zT := zT_i (List.mem_of_getElem? (i := 425) (by decide +kernel)) rfl
theorem tw426 : Cond.instanceMethod yX1_weightOf ∈ zT := zT_i (List.mem_of_getElem? (i := 426) (by decide +kernel)) rfl
theorem tw427 : Cond.selects RX1 yX1_weightOf yX1_weightOf ∈ zT := zT_i (List.mem_of_getElem? (i := 427) (by decide +kernel)) rfl
theorem tw428 : Cond.code yX1_weightOf cX1_weightOf 5 (some .int) ∈ zT := zT_i (List.mem_of_getElem? (i := 428) (by decide +kernel)) rfl
theorem tw429 : Cond.methodLink RL 53 yX7_unload ∈ zT := zT_i (List.mem_of_getElem? (i := 429) (by decide +kernel)) rfl
theorem tw430 : Cond.instanceMethod yX7_unload ∈ zT := zT_i (List.mem_of_getElem? (i := 430) (by decide +kernel)) rfl
theorem tw431 : Cond.selects RX7 yX7_unload yX7_unload ∈ zT := zT_i (List.mem_of_getElem? (i := 431) (by decide +kernel)) rfl
theorem tw432 : Cond.code yX7_unload cX7_unload 2 (some .int) ∈ zT := zT_i (List.mem_of_getElem? (i := 432) (by decide +kernel)) rfl
theorem tw433 : Cond.methodLink RX7 92 yX6_unloadBlock ∈ zT := zT_i (List.mem_of_getElem? (i := 433) (by decide +kernel)) rfl
theorem tw434 : Cond.instanceMethod yX6_unloadBlock ∈ zT := zT_i (List.mem_of_getElem? (i := 434) (by decide +kernel)) rfl
theorem tw435 : Cond.selects RX6 yX6_unloadBlock yX6_unloadBlock ∈ zT := zT_i (List.mem_of_getElem? (i := 435) (by decide +kernel)) rfl
theorem tw436 : Cond.code yX6_unloadBlock cX6_unloadBlock 3 (some .int) ∈ zT := zT_i (List.mem_of_getElem? (i := 436) (by decide +kernel)) rfl
theorem tw437 : Cond.methodLink RL 57 yX7_leave ∈ zT := zT_i (List.mem_of_getElem? (i := 437) (by decide +kernel)) rfl
theorem tw438 : Cond.instanceMethod yX7_leave ∈ zT := zT_i (List.mem_of_getElem? (i := 438) (by decide +kernel)) rfl
theorem tw439 : Cond.selects RX7 yX7_leave yX7_leave ∈ zT := zT_i (List.mem_of_getElem? (i := 439) (by decide +kernel)) rfl
theorem tw440 : Cond.code yX7_leave cX7_leave 2 (some .int) ∈ zT := zT_i (List.mem_of_getElem? (i := 440) (by decide +kernel)) rfl
theorem tw441 : Cond.methodLink RX7 95 yX6_sendLorry ∈ zT := zT_i (List.mem_of_getElem? (i := 441) (by decide +kernel)) rfl
theorem tw442 : Cond.instanceMethod yX6_sendLorry ∈ zT := zT_i (List.mem_of_getElem? (i := 442) (by decide +kernel)) rfl
theorem tw443 : Cond.selects RX6 yX6_sendLorry yX6_sendLorry ∈ zT := zT_i (List.mem_of_getElem? (i := 443) (by decide +kernel)) rfl
theorem tw444 : Cond.code yX6_sendLorry cX6_sendLorry 5 (some .int) ∈ zT := zT_i (List.mem_of_getElem? (i := 444) (by decide +kernel)) rfl
theorem tw445 : Cond.methodLink RX6 109 yX1_reasonToStay ∈ zT := zT_i (List.mem_of_getElem? (i := 445) (by decide +kernel)) rfl
theorem tw446 : Cond.instanceMethod yX1_reasonToStay ∈ zT := zT_i (List.mem_of_getElem? (i := 446) (by decide +kernel)) rfl
theorem tw447 : Cond.selects RX1 yX1_reasonToStay yX1_reasonToStay ∈ zT := zT_i (List.mem_of_getElem? (i := 447) (by decide +kernel)) rfl
theorem tw448 : Cond.code yX1_reasonToStay cX1_reasonToStay 3 (some .int) ∈ zT := zT_i (List.mem_of_getElem? (i := 448) (by decide +kernel)) rfl
theorem tw449 : Cond.methodLink RX1 81 yX5_lorryCell ∈ zT := zT_i (List.mem_of_getElem? (i := 449) (by decide +kernel)) rfl
theorem tw450 : Cond.instanceMethod yX5_lorryCell ∈ zT := zT_i (List.mem_of_getElem? (i := 450) (by decide +kernel)) rfl
theorem tw451 : Cond.selects RX5 yX5_lorryCell yX5_lorryCell ∈ zT := zT_i (List.mem_of_getElem? (i := 451) (by decide +kernel)) rfl
theorem tw452 : Cond.code yX5_lorryCell cX5_lorryCell 3 (some .int) ∈ zT := zT_i (List.mem_of_getElem? (i := 452) (by decide +kernel)) rfl
theorem tw453 : Cond.methodLink RX1 84 yX1_front ∈ zT := zT_i (List.mem_of_getElem? (i := 453) (by decide +kernel)) rfl
theorem tw454 : Cond.instanceMethod yX1_front ∈ zT := zT_i (List.mem_of_getElem? (i := 454) (by decide +kernel)) rfl
theorem tw455 : Cond.selects RX1 yX1_front yX1_front ∈ zT := zT_i (List.mem_of_getElem? (i := 455) (by decide +kernel)) rfl
theorem tw456 : Cond.code yX1_front cX1_front 6 (some .float) ∈ zT := zT_i (List.mem_of_getElem? (i := 456) (by decide +kernel)) rfl
theorem tw457 : Cond.methodLink RX1 76 yX1_weightAt ∈ zT := zT_i (List.mem_of_getElem? (i := 457) (by decide +kernel)) rfl
theorem tw459 : Cond.instanceMethod yX1_weightAt ∈ zT := zT_i (List.mem_of_getElem? (i := 459) (by decide +kernel)) rfl
theorem tw460 : Cond.code yX1_weightAt cX1_weightAt 8 (some .float) ∈ zT := zT_i (List.mem_of_getElem? (i := 460) (by decide +kernel)) rfl
theorem tw461 : Cond.constantFloat RX1 80 (1082130432) ∈ zT := zT_i (List.mem_of_getElem? (i := 461) (by decide +kernel)) rfl
theorem tw462 : Cond.methodLink RX1 88 yX1_rear ∈ zT := zT_i (List.mem_of_getElem? (i := 462) (by decide +kernel)) rfl
theorem tw463 : Cond.instanceMethod yX1_rear ∈ zT := zT_i (List.mem_of_getElem? (i := 463) (by decide +kernel)) rfl
theorem tw464 : Cond.selects RX1 yX1_rear yX1_rear ∈ zT := zT_i (List.mem_of_getElem? (i := 464) (by decide +kernel)) rfl
theorem tw465 : Cond.code yX1_rear cX1_rear 6 (some .float) ∈ zT := zT_i (List.mem_of_getElem? (i := 465) (by decide +kernel)) rfl
theorem tw466 : Cond.methodLink RX6 112 yX1_blocksOn ∈ zT := zT_i (List.mem_of_getElem? (i := 466) (by decide +kernel)) rfl
theorem tw467 : Cond.methodLink RX6 115 yX6_deliver ∈ zT := zT_i (List.mem_of_getElem? (i := 467) (by decide +kernel)) rfl
theorem tw469 : Cond.instanceMethod yX6_deliver ∈ zT := zT_i (List.mem_of_getElem? (i := 469) (by decide +kernel)) rfl
theorem tw470 : Cond.code yX6_deliver cX6_deliver 4 (some .int) ∈ zT := zT_i (List.mem_of_getElem? (i := 470) (by decide +kernel)) rfl
theorem tw471 : Cond.methodLink RX6 118 yX5_lorryCell ∈ zT := zT_i (List.mem_of_getElem? (i := 471) (by decide +kernel)) rfl
theorem tw472 : Cond.methodLink RL 61 yX7_night ∈ zT := zT_i (List.mem_of_getElem? (i := 472) (by decide +kernel)) rfl
theorem tw473 : Cond.instanceMethod yX7_night ∈ zT := zT_i (List.mem_of_getElem? (i := 473) (by decide +kernel)) rfl
theorem tw474 : Cond.selects RX7 yX7_night yX7_night ∈ zT := zT_i (List.mem_of_getElem? (i := 474) (by decide +kernel)) rfl
theorem tw475 : Cond.code yX7_night cX7_night 2 (some .int) ∈ zT := zT_i (List.mem_of_getElem? (i := 475) (by decide +kernel)) rfl
theorem tw476 : Cond.methodLink RX7 98 yX6_passNight ∈ zT := zT_i (List.mem_of_getElem? (i := 476) (by decide +kernel)) rfl
theorem tw477 : Cond.instanceMethod yX6_passNight ∈ zT := zT_i (List.mem_of_getElem? (i := 477) (by decide +kernel)) rfl
theorem tw478 : Cond.selects RX6 yX6_passNight yX6_passNight ∈ zT := zT_i (List.mem_of_getElem? (i := 478) (by decide +kernel)) rfl
theorem tw479 : Cond.code yX6_passNight cX6_passNight 5 (some .int) ∈ zT := zT_i (List.mem_of_getElem? (i := 479) (by decide +kernel)) rfl
theorem tw480 : Cond.methodLink RX6 121 yX6_crackBlocks ∈ zT := zT_i (List.mem_of_getElem? (i := 480) (by decide +kernel)) rfl
theorem tw482 : Cond.instanceMethod yX6_crackBlocks ∈ zT := zT_i (List.mem_of_getElem? (i := 482) (by decide +kernel)) rfl
theorem tw483 : Cond.code yX6_crackBlocks cX6_crackBlocks 3 (some .int) ∈ zT := zT_i (List.mem_of_getElem? (i := 483) (by decide +kernel)) rfl
theorem tw484 : Cond.methodLink RX6 128 yX1_blocksForFrost ∈ zT := zT_i (List.mem_of_getElem? (i := 484) (by decide +kernel)) rfl
theorem tw485 : Cond.instanceMethod yX1_blocksForFrost ∈ zT := zT_i (List.mem_of_getElem? (i := 485) (by decide +kernel)) rfl
theorem tw486 : Cond.selects RX1 yX1_blocksForFrost yX1_blocksForFrost ∈ zT := zT_i (List.mem_of_getElem? (i := 486) (by decide +kernel)) rfl
theorem tw487 : Cond.code yX1_blocksForFrost cX1_blocksForFrost 1 (some .int) ∈ zT := zT_i (List.mem_of_getElem? (i := 487) (by decide +kernel)) rfl
theorem tw488 : Cond.methodLink RX6 131 yX5_blocksWith ∈ zT := zT_i (List.mem_of_getElem? (i := 488) (by decide +kernel)) rfl
theorem tw489 : Cond.methodLink RX6 134 yJ6_bitCount_0f7a4 ∈ zT := zT_i (List.mem_of_getElem? (i := 489) (by decide +kernel)) rfl
theorem tw490 : Cond.methodLink RX6 125 yX6_dryBlocks ∈ zT := zT_i (List.mem_of_getElem? (i := 490) (by decide +kernel)) rfl
theorem tw492 : Cond.instanceMethod yX6_dryBlocks ∈ zT := zT_i (List.mem_of_getElem? (i := 492) (by decide +kernel)) rfl
theorem tw493 : Cond.code yX6_dryBlocks cX6_dryBlocks 5 none ∈ zT := zT_i (List.mem_of_getElem? (i := 493) (by decide +kernel)) rfl
theorem tw494 : Cond.methodLink RL 65 yX7_of ∈ zT := zT_i (List.mem_of_getElem? (i := 494) (by decide +kernel)) rfl
theorem tw495 : Cond.instanceMethod yX7_of ∈ zT := zT_i (List.mem_of_getElem? (i := 495) (by decide +kernel)) rfl
theorem tw496 : Cond.selects RX7 yX7_of yX7_of ∈ zT := zT_i (List.mem_of_getElem? (i := 496) (by decide +kernel)) rfl
theorem tw497 : Cond.code yX7_of cX7_of 3 (some .int) ∈ zT := zT_i (List.mem_of_getElem? (i := 497) (by decide +kernel)) rfl
theorem tw498 : Cond.methodLink RX7 101 yX5_hasBlock ∈ zT := zT_i (List.mem_of_getElem? (i := 498) (by decide +kernel)) rfl
theorem tw499 : Cond.methodLink RX7 105 yX5_blockCell ∈ zT := zT_i (List.mem_of_getElem? (i := 499) (by decide +kernel)) rfl
theorem tw500 : Cond.methodLink RL 69 yX7_ofOrder ∈ zT := zT_i (List.mem_of_getElem? (i := 500) (by decide +kernel)) rfl
theorem tw501 : Cond.instanceMethod yX7_ofOrder ∈ zT := zT_i (List.mem_of_getElem? (i := 501) (by decide +kernel)) rfl
theorem tw502 : Cond.selects RX7 yX7_ofOrder yX7_ofOrder ∈ zT := zT_i (List.mem_of_getElem? (i := 502) (by decide +kernel)) rfl
theorem tw503 : Cond.code yX7_ofOrder cX7_ofOrder 3 (some .int) ∈ zT := zT_i (List.mem_of_getElem? (i := 503) (by decide +kernel)) rfl
theorem tw504 : Cond.methodLink RX7 108 yX5_hasOrder ∈ zT := zT_i (List.mem_of_getElem? (i := 504) (by decide +kernel)) rfl
theorem tw505 : Cond.methodLink RX7 111 yX1_blocksToGive ∈ zT := zT_i (List.mem_of_getElem? (i := 505) (by decide +kernel)) rfl
theorem tw506 : Cond.instanceMethod yX1_blocksToGive ∈ zT := zT_i (List.mem_of_getElem? (i := 506) (by decide +kernel)) rfl
theorem tw507 : Cond.selects RX1 yX1_blocksToGive yX1_blocksToGive ∈ zT := zT_i (List.mem_of_getElem? (i := 507) (by decide +kernel)) rfl
theorem tw508 : Cond.code yX1_blocksToGive cX1_blocksToGive 5 (some .int) ∈ zT := zT_i (List.mem_of_getElem? (i := 508) (by decide +kernel)) rfl
theorem tw509 : Cond.methodLink RX1 70 yX1_surplusToGive ∈ zT := zT_i (List.mem_of_getElem? (i := 509) (by decide +kernel)) rfl
theorem tw510 : Cond.methodLink RX7 114 yX5_orderCell ∈ zT := zT_i (List.mem_of_getElem? (i := 510) (by decide +kernel)) rfl
theorem tw511 : Cond.methodLink RL 73 yX7_ofLorry ∈ zT := zT_i (List.mem_of_getElem? (i := 511) (by decide +kernel)) rfl
theorem tw512 : Cond.instanceMethod yX7_ofLorry ∈ zT := zT_i (List.mem_of_getElem? (i := 512) (by decide +kernel)) rfl
theorem tw513 : Cond.selects RX7 yX7_ofLorry yX7_ofLorry ∈ zT := zT_i (List.mem_of_getElem? (i := 513) (by decide +kernel)) rfl
theorem tw514 : Cond.code yX7_ofLorry cX7_ofLorry 3 (some .int) ∈ zT := zT_i (List.mem_of_getElem? (i := 514) (by decide +kernel)) rfl
theorem tw515 : Cond.methodLink RX7 117 yX7_isLorry ∈ zT := zT_i (List.mem_of_getElem? (i := 515) (by decide +kernel)) rfl
theorem tw516 : Cond.methodLink RX7 120 yX1_loadOf ∈ zT := zT_i (List.mem_of_getElem? (i := 516) (by decide +kernel)) rfl
theorem tw517 : Cond.methodLink RX7 123 yX1_front ∈ zT := zT_i (List.mem_of_getElem? (i := 517) (by decide +kernel)) rfl
theorem tw518 : Cond.methodLink RX7 127 yX0_ofFloat ∈ zT := zT_i (List.mem_of_getElem? (i := 518) (by decide +kernel)) rfl
theorem tw519 : Cond.static yX0_ofFloat ∈ zT := zT_i (List.mem_of_getElem? (i := 519) (by decide +kernel)) rfl
theorem tw520 : Cond.code yX0_ofFloat cX0_ofFloat 4 (some .int) ∈ zT := zT_i (List.mem_of_getElem? (i := 520) (by decide +kernel)) rfl
theorem tw521 : Cond.constantFloat RX0 9 (1258291200) ∈ zT := zT_i (List.mem_of_getElem? (i := 521) (by decide +kernel)) rfl
theorem tw522 : Cond.methodLink RX7 133 yX1_rear ∈ zT := zT_i (List.mem_of_getElem? (i := 522) (by decide +kernel)) rfl
theorem tw523 : Cond.methodLink RX7 136 yX1_blocksOn ∈ zT := zT_i (List.mem_of_getElem? (i := 523) (by decide +kernel)) rfl
theorem tw524 : Cond.methodLink RX7 139 yX5_lorryCell ∈ zT := zT_i (List.mem_of_getElem? (i := 524) (by decide +kernel)) rfl
theorem tw525 : Cond.methodLink RL 77 yX7_count ∈ zT := zT_i (List.mem_of_getElem? (i := 525) (by decide +kernel)) rfl
theorem tw526 : Cond.instanceMethod yX7_count ∈ zT := zT_i (List.mem_of_getElem? (i := 526) (by decide +kernel)) rfl
theorem tw527 : Cond.selects RX7 yX7_count yX7_count ∈ zT := zT_i (List.mem_of_getElem? (i := 527) (by decide +kernel)) rfl
theorem tw528 : Cond.code yX7_count cX7_count 2 (some .int) ∈ zT := zT_i (List.mem_of_getElem? (i := 528) (by decide +kernel)) rfl
theorem tw529 : Cond.methodLink RX7 142 yX5_cell ∈ zT := zT_i (List.mem_of_getElem? (i := 529) (by decide +kernel)) rfl
theorem tw530 : Cond.methodLink RX7 145 yX5_blocksWith ∈ zT := zT_i (List.mem_of_getElem? (i := 530) (by decide +kernel)) rfl
theorem tw531 : Cond.methodLink RX7 148 yX1_uncutBlocks ∈ zT := zT_i (List.mem_of_getElem? (i := 531) (by decide +kernel)) rfl
theorem tw532 : Cond.instanceMethod yX1_uncutBlocks ∈ zT := zT_i (List.mem_of_getElem? (i := 532) (by decide +kernel)) rfl
theorem tw533 : Cond.selects RX1 yX1_uncutBlocks yX1_uncutBlocks ∈ zT := zT_i (List.mem_of_getElem? (i := 533) (by decide +kernel)) rfl
theorem tw534 : Cond.code yX1_uncutBlocks cX1_uncutBlocks 2 (some .int) ∈ zT := zT_i (List.mem_of_getElem? (i := 534) (by decide +kernel)) rfl
theorem tw535 : Cond.methodLink RX7 152 yX1_quarriedWeight ∈ zT := zT_i (List.mem_of_getElem? (i := 535) (by decide +kernel)) rfl
theorem tw536 : Cond.instanceMethod yX1_quarriedWeight ∈ zT := zT_i (List.mem_of_getElem? (i := 536) (by decide +kernel)) rfl
theorem tw537 : Cond.selects RX1 yX1_quarriedWeight yX1_quarriedWeight ∈ zT := zT_i (List.mem_of_getElem? (i := 537) (by decide +kernel)) rfl
theorem tw538 : Cond.code yX1_quarriedWeight cX1_quarriedWeight 1 (some .int) ∈ zT := zT_i (List.mem_of_getElem? (i := 538) (by decide +kernel)) rfl
theorem tw539 : Cond.methodLink RX7 155 yX1_uncutWeight ∈ zT := zT_i (List.mem_of_getElem? (i := 539) (by decide +kernel)) rfl
theorem tw540 : Cond.instanceMethod yX1_uncutWeight ∈ zT := zT_i (List.mem_of_getElem? (i := 540) (by decide +kernel)) rfl
theorem tw541 : Cond.selects RX1 yX1_uncutWeight yX1_uncutWeight ∈ zT := zT_i (List.mem_of_getElem? (i := 541) (by decide +kernel)) rfl
theorem tw542 : Cond.code yX1_uncutWeight cX1_uncutWeight 1 (some .int) ∈ zT := zT_i (List.mem_of_getElem? (i := 542) (by decide +kernel)) rfl
theorem tw543 : Cond.methodLink RX1 28 yX1_uncutBlocks ∈ zT := zT_i (List.mem_of_getElem? (i := 543) (by decide +kernel)) rfl
theorem tw544 : Cond.methodLink RX7 158 yX1_lostWeight ∈ zT := zT_i (List.mem_of_getElem? (i := 544) (by decide +kernel)) rfl
theorem tw545 : Cond.instanceMethod yX1_lostWeight ∈ zT := zT_i (List.mem_of_getElem? (i := 545) (by decide +kernel)) rfl
theorem tw546 : Cond.selects RX1 yX1_lostWeight yX1_lostWeight ∈ zT := zT_i (List.mem_of_getElem? (i := 546) (by decide +kernel)) rfl
theorem tw547 : Cond.code yX1_lostWeight cX1_lostWeight 1 (some .int) ∈ zT := zT_i (List.mem_of_getElem? (i := 547) (by decide +kernel)) rfl
theorem tw548 : Cond.methodLink RX1 35 yX1_quarriedWeight ∈ zT := zT_i (List.mem_of_getElem? (i := 548) (by decide +kernel)) rfl
theorem tw549 : Cond.methodLink RX1 38 yX1_uncutWeight ∈ zT := zT_i (List.mem_of_getElem? (i := 549) (by decide +kernel)) rfl
theorem tw550 : Cond.methodLink RX7 161 yX1_weightOf ∈ zT := zT_i (List.mem_of_getElem? (i := 550) (by decide +kernel)) rfl
theorem tw551 : Cond.methodLink RX7 164 yX1_allInvoices ∈ zT := zT_i (List.mem_of_getElem? (i := 551) (by decide +kernel)) rfl
theorem tw552 : Cond.instanceMethod yX1_allInvoices ∈ zT := zT_i (List.mem_of_getElem? (i := 552) (by decide +kernel)) rfl
theorem tw553 : Cond.selects RX1 yX1_allInvoices yX1_allInvoices ∈ zT := zT_i (List.mem_of_getElem? (i := 553) (by decide +kernel)) rfl
theorem tw554 : Cond.code yX1_allInvoices cX1_allInvoices 4 (some .int) ∈ zT := zT_i (List.mem_of_getElem? (i := 554) (by decide +kernel)) rfl
theorem tw555 : Cond.methodLink RX7 167 yX3_length ∈ zT := zT_i (List.mem_of_getElem? (i := 555) (by decide +kernel)) rfl
theorem tw556 : Cond.instanceMethod yX3_length ∈ zT := zT_i (List.mem_of_getElem? (i := 556) (by decide +kernel)) rfl
theorem tw557 : Cond.selects RX3 yX3_length yX3_length ∈ zT := zT_i (List.mem_of_getElem? (i := 557) (by decide +kernel)) rfl
theorem tw558 : Cond.code yX3_length cX3_length 1 (some .int) ∈ zT := zT_i (List.mem_of_getElem? (i := 558) (by decide +kernel)) rfl
theorem tw559 : Cond.methodLink RX7 170 yX2_size ∈ zT := zT_i (List.mem_of_getElem? (i := 559) (by decide +kernel)) rfl
theorem tw560 : Cond.instanceMethod yX2_size ∈ zT := zT_i (List.mem_of_getElem? (i := 560) (by decide +kernel)) rfl
theorem tw561 : Cond.selects RX2 yX2_size yX2_size ∈ zT := zT_i (List.mem_of_getElem? (i := 561) (by decide +kernel)) rfl
theorem tw562 : Cond.code yX2_size cX2_size 1 (some .int) ∈ zT := zT_i (List.mem_of_getElem? (i := 562) (by decide +kernel)) rfl
theorem tw563 : Cond.methodLink RL 81 yX7_meanWeight ∈ zT := zT_i (List.mem_of_getElem? (i := 563) (by decide +kernel)) rfl
theorem tw564 : Cond.instanceMethod yX7_meanWeight ∈ zT := zT_i (List.mem_of_getElem? (i := 564) (by decide +kernel)) rfl
theorem tw565 : Cond.selects RX7 yX7_meanWeight yX7_meanWeight ∈ zT := zT_i (List.mem_of_getElem? (i := 565) (by decide +kernel)) rfl
theorem tw566 : Cond.code yX7_meanWeight cX7_meanWeight 2 (some .long) ∈ zT := zT_i (List.mem_of_getElem? (i := 566) (by decide +kernel)) rfl
theorem tw567 : Cond.methodLink RX7 173 yJ6_bitCount_0f7a4 ∈ zT := zT_i (List.mem_of_getElem? (i := 567) (by decide +kernel)) rfl
theorem tw568 : Cond.methodLink RX7 178 yX0_ofDouble ∈ zT := zT_i (List.mem_of_getElem? (i := 568) (by decide +kernel)) rfl
theorem tw569 : Cond.static yX0_ofDouble ∈ zT := zT_i (List.mem_of_getElem? (i := 569) (by decide +kernel)) rfl
theorem tw570 : Cond.code yX0_ofDouble cX0_ofDouble 7 (some .long) ∈ zT := zT_i (List.mem_of_getElem? (i := 570) (by decide +kernel)) rfl
theorem tw571 : Cond.constantLong RX0 10 (1023) ∈ zT := zT_i (List.mem_of_getElem? (i := 571) (by decide +kernel)) rfl
theorem tw572 : Cond.constantDouble RX0 12 (4611686018427387904) ∈ zT := zT_i (List.mem_of_getElem? (i := 572) (by decide +kernel)) rfl
theorem tw573 : Cond.constantDouble RX0 14 (4841369599423283200) ∈ zT := zT_i (List.mem_of_getElem? (i := 573) (by decide +kernel)) rfl
theorem tw574 : Cond.methodLink RL 86 yX7_why ∈ zT := zT_i (List.mem_of_getElem? (i := 574) (by decide +kernel)) rfl
theorem tw575 : Cond.instanceMethod yX7_why ∈ zT := zT_i (List.mem_of_getElem? (i := 575) (by decide +kernel)) rfl
theorem tw576 : Cond.selects RX7 yX7_why yX7_why ∈ zT := zT_i (List.mem_of_getElem? (i := 576) (by decide +kernel)) rfl
theorem tw577 : Cond.code yX7_why cX7_why 2 (some .int) ∈ zT := zT_i (List.mem_of_getElem? (i := 577) (by decide +kernel)) rfl
theorem tw578 : Cond.methodLink RX7 182 yX1_reasonToStay ∈ zT := zT_i (List.mem_of_getElem? (i := 578) (by decide +kernel)) rfl
theorem tw579 : Cond.methodLink RL 90 yX7_bestBlock ∈ zT := zT_i (List.mem_of_getElem? (i := 579) (by decide +kernel)) rfl
theorem tw580 : Cond.instanceMethod yX7_bestBlock ∈ zT := zT_i (List.mem_of_getElem? (i := 580) (by decide +kernel)) rfl
theorem tw581 : Cond.selects RX7 yX7_bestBlock yX7_bestBlock ∈ zT := zT_i (List.mem_of_getElem? (i := 581) (by decide +kernel)) rfl
theorem tw582 : Cond.code yX7_bestBlock cX7_bestBlock 2 (some .int) ∈ zT := zT_i (List.mem_of_getElem? (i := 582) (by decide +kernel)) rfl
theorem tw583 : Cond.methodLink RX7 185 yX1_nearestBlock ∈ zT := zT_i (List.mem_of_getElem? (i := 583) (by decide +kernel)) rfl
theorem tw584 : Cond.instanceMethod yX1_nearestBlock ∈ zT := zT_i (List.mem_of_getElem? (i := 584) (by decide +kernel)) rfl
theorem tw585 : Cond.selects RX1 yX1_nearestBlock yX1_nearestBlock ∈ zT := zT_i (List.mem_of_getElem? (i := 585) (by decide +kernel)) rfl
theorem tw586 : Cond.code yX1_nearestBlock cX1_nearestBlock 7 (some .int) ∈ zT := zT_i (List.mem_of_getElem? (i := 586) (by decide +kernel)) rfl
theorem tw587 : Cond.methodLink RL 94 yX7_fittingCut ∈ zT := zT_i (List.mem_of_getElem? (i := 587) (by decide +kernel)) rfl
theorem tw588 : Cond.instanceMethod yX7_fittingCut ∈ zT := zT_i (List.mem_of_getElem? (i := 588) (by decide +kernel)) rfl
theorem tw589 : Cond.selects RX7 yX7_fittingCut yX7_fittingCut ∈ zT := zT_i (List.mem_of_getElem? (i := 589) (by decide +kernel)) rfl
theorem tw590 : Cond.code yX7_fittingCut cX7_fittingCut 6 (some .int) ∈ zT := zT_i (List.mem_of_getElem? (i := 590) (by decide +kernel)) rfl
theorem tw591 : Cond.methodLink RX7 188 yX1_mayBeSawn ∈ zT := zT_i (List.mem_of_getElem? (i := 591) (by decide +kernel)) rfl
theorem tw592 : Cond.methodLink RX7 191 yX1_fittingLength ∈ zT := zT_i (List.mem_of_getElem? (i := 592) (by decide +kernel)) rfl
theorem tw593 : Cond.instanceMethod yX1_fittingLength ∈ zT := zT_i (List.mem_of_getElem? (i := 593) (by decide +kernel)) rfl
theorem tw594 : Cond.selects RX1 yX1_fittingLength yX1_fittingLength ∈ zT := zT_i (List.mem_of_getElem? (i := 594) (by decide +kernel)) rfl
theorem tw595 : Cond.code yX1_fittingLength cX1_fittingLength 10 (some .int) ∈ zT := zT_i (List.mem_of_getElem? (i := 595) (by decide +kernel)) rfl
theorem tw596 : Cond.methodLink RL 98 yX7_ifFrost ∈ zT := zT_i (List.mem_of_getElem? (i := 596) (by decide +kernel)) rfl
theorem tw597 : Cond.instanceMethod yX7_ifFrost ∈ zT := zT_i (List.mem_of_getElem? (i := 597) (by decide +kernel)) rfl
theorem tw598 : Cond.selects RX7 yX7_ifFrost yX7_ifFrost ∈ zT := zT_i (List.mem_of_getElem? (i := 598) (by decide +kernel)) rfl
theorem tw599 : Cond.code yX7_ifFrost cX7_ifFrost 1 (some .int) ∈ zT := zT_i (List.mem_of_getElem? (i := 599) (by decide +kernel)) rfl
theorem tw600 : Cond.methodLink RX7 194 yX1_blocksForFrost ∈ zT := zT_i (List.mem_of_getElem? (i := 600) (by decide +kernel)) rfl
theorem tw601 : Cond.methodLink RL 103 yX7_bestPlace ∈ zT := zT_i (List.mem_of_getElem? (i := 601) (by decide +kernel)) rfl
theorem tw602 : Cond.instanceMethod yX7_bestPlace ∈ zT := zT_i (List.mem_of_getElem? (i := 602) (by decide +kernel)) rfl
theorem tw603 : Cond.selects RX7 yX7_bestPlace yX7_bestPlace ∈ zT := zT_i (List.mem_of_getElem? (i := 603) (by decide +kernel)) rfl
theorem tw604 : Cond.code yX7_bestPlace cX7_bestPlace 3 (some .int) ∈ zT := zT_i (List.mem_of_getElem? (i := 604) (by decide +kernel)) rfl
theorem tw605 : Cond.methodLink RX7 197 yX1_isAtHand ∈ zT := zT_i (List.mem_of_getElem? (i := 605) (by decide +kernel)) rfl
theorem tw606 : Cond.methodLink RX7 200 yX1_easiestPlace ∈ zT := zT_i (List.mem_of_getElem? (i := 606) (by decide +kernel)) rfl
theorem tw607 : Cond.instanceMethod yX1_easiestPlace ∈ zT := zT_i (List.mem_of_getElem? (i := 607) (by decide +kernel)) rfl
theorem tw608 : Cond.selects RX1 yX1_easiestPlace yX1_easiestPlace ∈ zT := zT_i (List.mem_of_getElem? (i := 608) (by decide +kernel)) rfl
theorem tw609 : Cond.code yX1_easiestPlace cX1_easiestPlace 8 (some .int) ∈ zT := zT_i (List.mem_of_getElem? (i := 609) (by decide +kernel)) rfl
theorem tw610 : Cond.methodLink RX1 95 yX1_isFree ∈ zT := zT_i (List.mem_of_getElem? (i := 610) (by decide +kernel)) rfl
theorem tw611 : Cond.methodLink RX1 99 yX1_greaterShare ∈ zT := zT_i (List.mem_of_getElem? (i := 611) (by decide +kernel)) rfl
theorem tw613 : Cond.instanceMethod yX1_greaterShare ∈ zT := zT_i (List.mem_of_getElem? (i := 613) (by decide +kernel)) rfl
theorem tw614 : Cond.code yX1_greaterShare cX1_greaterShare 6 (some .float) ∈ zT := zT_i (List.mem_of_getElem? (i := 614) (by decide +kernel)) rfl
theorem tw615 : Cond.methodLink RX1 91 yX1_shareOf ∈ zT := zT_i (List.mem_of_getElem? (i := 615) (by decide +kernel)) rfl
theorem tw616 : Cond.static yX1_shareOf ∈ zT := zT_i (List.mem_of_getElem? (i := 616) (by decide +kernel)) rfl
theorem tw617 : Cond.code yX1_shareOf cX1_shareOf 2 (some .float) ∈ zT := zT_i (List.mem_of_getElem? (i := 617) (by decide +kernel)) rfl
theorem tw618 : Cond.methodLink RL 109 yX7_put ∈ zT := zT_i (List.mem_of_getElem? (i := 618) (by decide +kernel)) rfl
theorem tw619 : Cond.instanceMethod yX7_put ∈ zT := zT_i (List.mem_of_getElem? (i := 619) (by decide +kernel)) rfl
theorem tw620 : Cond.selects RX7 yX7_put yX7_put ∈ zT := zT_i (List.mem_of_getElem? (i := 620) (by decide +kernel)) rfl
theorem tw621 : Cond.code yX7_put cX7_put 3 (some .int) ∈ zT := zT_i (List.mem_of_getElem? (i := 621) (by decide +kernel)) rfl
theorem tw622 : Cond.methodLink RX7 203 yX3_append ∈ zT := zT_i (List.mem_of_getElem? (i := 622) (by decide +kernel)) rfl
theorem tw623 : Cond.instanceMethod yX3_append ∈ zT := zT_i (List.mem_of_getElem? (i := 623) (by decide +kernel)) rfl
theorem tw624 : Cond.selects RX3 yX3_append yX3_append ∈ zT := zT_i (List.mem_of_getElem? (i := 624) (by decide +kernel)) rfl
theorem tw625 : Cond.code yX3_append cX3_append 5 (some .int) ∈ zT := zT_i (List.mem_of_getElem? (i := 625) (by decide +kernel)) rfl
theorem tw626 : Cond.methodLink RX3 38 yX3_code ∈ zT := zT_i (List.mem_of_getElem? (i := 626) (by decide +kernel)) rfl
theorem tw627 : Cond.static yX3_code ∈ zT := zT_i (List.mem_of_getElem? (i := 627) (by decide +kernel)) rfl
theorem tw628 : Cond.code yX3_code cX3_code 3 (some .int) ∈ zT := zT_i (List.mem_of_getElem? (i := 628) (by decide +kernel)) rfl
theorem tw629 : Cond.constantLong RX3 36 (255) ∈ zT := zT_i (List.mem_of_getElem? (i := 629) (by decide +kernel)) rfl
theorem tw630 : Cond.methodLink RL 114 yX7_wipe ∈ zT := zT_i (List.mem_of_getElem? (i := 630) (by decide +kernel)) rfl
theorem tw631 : Cond.instanceMethod yX7_wipe ∈ zT := zT_i (List.mem_of_getElem? (i := 631) (by decide +kernel)) rfl
theorem tw632 : Cond.selects RX7 yX7_wipe yX7_wipe ∈ zT := zT_i (List.mem_of_getElem? (i := 632) (by decide +kernel)) rfl
theorem tw633 : Cond.code yX7_wipe cX7_wipe 1 (some .int) ∈ zT := zT_i (List.mem_of_getElem? (i := 633) (by decide +kernel)) rfl
theorem tw634 : Cond.methodLink RX7 207 yX3_clear ∈ zT := zT_i (List.mem_of_getElem? (i := 634) (by decide +kernel)) rfl
theorem tw635 : Cond.instanceMethod yX3_clear ∈ zT := zT_i (List.mem_of_getElem? (i := 635) (by decide +kernel)) rfl
theorem tw636 : Cond.selects RX3 yX3_clear yX3_clear ∈ zT := zT_i (List.mem_of_getElem? (i := 636) (by decide +kernel)) rfl
theorem tw637 : Cond.code yX3_clear cX3_clear 2 (some .int) ∈ zT := zT_i (List.mem_of_getElem? (i := 637) (by decide +kernel)) rfl
theorem tw638 : Cond.methodLink RL 118 yX7_fault ∈ zT := zT_i (List.mem_of_getElem? (i := 638) (by decide +kernel)) rfl
theorem tw639 : Cond.instanceMethod yX7_fault ∈ zT := zT_i (List.mem_of_getElem? (i := 639) (by decide +kernel)) rfl
theorem tw640 : Cond.selects RX7 yX7_fault yX7_fault ∈ zT := zT_i (List.mem_of_getElem? (i := 640) (by decide +kernel)) rfl
theorem tw641 : Cond.code yX7_fault cX7_fault 1 (some .int) ∈ zT := zT_i (List.mem_of_getElem? (i := 641) (by decide +kernel)) rfl
theorem tw642 : Cond.methodLink RX7 210 yX3_findFault ∈ zT := zT_i (List.mem_of_getElem? (i := 642) (by decide +kernel)) rfl
theorem tw643 : Cond.instanceMethod yX3_findFault ∈ zT := zT_i (List.mem_of_getElem? (i := 643) (by decide +kernel)) rfl
theorem tw644 : Cond.selects RX3 yX3_findFault yX3_findFault ∈ zT := zT_i (List.mem_of_getElem? (i := 644) (by decide +kernel)) rfl
theorem tw645 : Cond.code yX3_findFault cX3_findFault 2 (some .int) ∈ zT := zT_i (List.mem_of_getElem? (i := 645) (by decide +kernel)) rfl
theorem tw646 : Cond.methodLink RX3 42 yX3_rewind ∈ zT := zT_i (List.mem_of_getElem? (i := 646) (by decide +kernel)) rfl
theorem tw647 : Cond.instanceMethod yX3_rewind ∈ zT := zT_i (List.mem_of_getElem? (i := 647) (by decide +kernel)) rfl
theorem tw648 : Cond.selects RX3 yX3_rewind yX3_rewind ∈ zT := zT_i (List.mem_of_getElem? (i := 648) (by decide +kernel)) rfl
theorem tw649 : Cond.code yX3_rewind cX3_rewind 1 none ∈ zT := zT_i (List.mem_of_getElem? (i := 649) (by decide +kernel)) rfl
theorem tw650 : Cond.methodLink RX3 45 yX3_readOrder ∈ zT := zT_i (List.mem_of_getElem? (i := 650) (by decide +kernel)) rfl
theorem tw651 : Cond.instanceMethod yX3_readOrder ∈ zT := zT_i (List.mem_of_getElem? (i := 651) (by decide +kernel)) rfl
theorem tw652 : Cond.selects RX3 yX3_readOrder yX3_readOrder ∈ zT := zT_i (List.mem_of_getElem? (i := 652) (by decide +kernel)) rfl
theorem tw653 : Cond.code yX3_readOrder cX3_readOrder 3 (some .boolean) ∈ zT := zT_i (List.mem_of_getElem? (i := 653) (by decide +kernel)) rfl
theorem tw654 : Cond.methodLink RX3 49 yX3_take ∈ zT := zT_i (List.mem_of_getElem? (i := 654) (by decide +kernel)) rfl
theorem tw656 : Cond.instanceMethod yX3_take ∈ zT := zT_i (List.mem_of_getElem? (i := 656) (by decide +kernel)) rfl
theorem tw657 : Cond.code yX3_take cX3_take 2 (some .boolean) ∈ zT := zT_i (List.mem_of_getElem? (i := 657) (by decide +kernel)) rfl
theorem tw658 : Cond.methodLink RX3 53 yX3_sign ∈ zT := zT_i (List.mem_of_getElem? (i := 658) (by decide +kernel)) rfl
theorem tw660 : Cond.instanceMethod yX3_sign ∈ zT := zT_i (List.mem_of_getElem? (i := 660) (by decide +kernel)) rfl
theorem tw661 : Cond.code yX3_sign cX3_sign 1 (some .int) ∈ zT := zT_i (List.mem_of_getElem? (i := 661) (by decide +kernel)) rfl
theorem tw662 : Cond.methodLink RX3 57 yX3_partsOf ∈ zT := zT_i (List.mem_of_getElem? (i := 662) (by decide +kernel)) rfl
theorem tw663 : Cond.static yX3_partsOf ∈ zT := zT_i (List.mem_of_getElem? (i := 663) (by decide +kernel)) rfl
theorem tw664 : Cond.code yX3_partsOf cX3_partsOf 1 (some (.object "java/lang/String")) ∈ zT := zT_i (List.mem_of_getElem? (i := 664) (by decide +kernel)) rfl
theorem tw665 : Cond.stringRef RX3 75 "NxNxN*N" ∈ lw_tbl := List.mem_of_getElem? (i := 665) (by decide +kernel)
theorem tw666 : Cond.stringRef RX3 77 "N.D@N" ∈ lw_tbl := List.mem_of_getElem? (i := 666) (by decide +kernel)
theorem tw667 : Cond.stringRef RX3 79 "NxNxN" ∈ lw_tbl := List.mem_of_getElem? (i := 667) (by decide +kernel)
theorem tw668 : Cond.stringRef RX3 81 "N=N" ∈ lw_tbl := List.mem_of_getElem? (i := 668) (by decide +kernel)
theorem tw669 : Cond.stringRef RX3 83 "N.DD" ∈ lw_tbl := List.mem_of_getElem? (i := 669) (by decide +kernel)
theorem tw670 : Cond.stringRef RX3 85 "-N" ∈ lw_tbl := List.mem_of_getElem? (i := 670) (by decide +kernel)
theorem tw671 : Cond.stringRef RX3 87 "D" ∈ lw_tbl := List.mem_of_getElem? (i := 671) (by decide +kernel)
theorem tw672 : Cond.stringRef RX3 89 "" ∈ lw_tbl := List.mem_of_getElem? (i := 672) (by decide +kernel)
theorem tw673 : Cond.methodLink RX3 61 yJ0_isEmpty_aae02 ∈ zT := zT_i (List.mem_of_getElem? (i := 673) (by decide +kernel)) rfl
theorem tw674 : Cond.instanceMethod yJ0_isEmpty_aae02 ∈ zT := zT_i (List.mem_of_getElem? (i := 674) (by decide +kernel)) rfl
theorem tw675 : Cond.selects RJ0 yJ0_isEmpty_aae02 yJ0_isEmpty_aae02 ∈ zT := zT_i (List.mem_of_getElem? (i := 675) (by decide +kernel)) rfl
theorem tw676 : Cond.code yJ0_isEmpty_aae02 cJ0_isEmpty_aae02 1 (some .boolean) ∈ zT := zT_i (List.mem_of_getElem? (i := 676) (by decide +kernel)) rfl
theorem tw677 : Cond.methodLink RX3 66 yJ0_length_8abf5 ∈ zT := zT_i (List.mem_of_getElem? (i := 677) (by decide +kernel)) rfl
theorem tw678 : Cond.instanceMethod yJ0_length_8abf5 ∈ zT := zT_i (List.mem_of_getElem? (i := 678) (by decide +kernel)) rfl
theorem tw679 : Cond.selects RJ0 yJ0_length_8abf5 yJ0_length_8abf5 ∈ zT := zT_i (List.mem_of_getElem? (i := 679) (by decide +kernel)) rfl
theorem tw680 : Cond.code yJ0_length_8abf5 cJ0_length_8abf5 1 (some .int) ∈ zT := zT_i (List.mem_of_getElem? (i := 680) (by decide +kernel)) rfl
theorem tw681 : Cond.methodLink RJ0 335 yJ0_coder_7d493 ∈ zT := zT_i (List.mem_of_getElem? (i := 681) (by decide +kernel)) rfl
theorem tw682 : Cond.instanceMethod yJ0_coder_7d493 ∈ zT := zT_i (List.mem_of_getElem? (i := 682) (by decide +kernel)) rfl
theorem tw683 : Cond.selects RJ0 yJ0_coder_7d493 yJ0_coder_7d493 ∈ zT := zT_i (List.mem_of_getElem? (i := 683) (by decide +kernel)) rfl
theorem tw684 : Cond.code yJ0_coder_7d493 cJ0_coder_7d493 1 (some .byte) ∈ zT := zT_i (List.mem_of_getElem? (i := 684) (by decide +kernel)) rfl
theorem tw685 : Cond.fieldLink RJ0 38 "java/lang/String" "COMPACT_STRINGS" "Z" ∈ zT := zT_i (List.mem_of_getElem? (i := 685) (by decide +kernel)) rfl
theorem tw686 : Cond.laysStatic "java/lang/String" "COMPACT_STRINGS" "Z" ∈ lw_tbl := List.mem_of_getElem? (i := 686) (by decide +kernel)
theorem tw687 : Cond.methodLink RX3 68 yJ0_charAt_5068e ∈ zT := zT_i (List.mem_of_getElem? (i := 687) (by decide +kernel)) rfl
theorem tw688 : Cond.instanceMethod yJ0_charAt_5068e ∈ zT := zT_i (List.mem_of_getElem? (i := 688) (by decide +kernel)) rfl
theorem tw689 : Cond.selects RJ0 yJ0_charAt_5068e yJ0_charAt_5068e ∈ zT := zT_i (List.mem_of_getElem? (i := 689) (by decide +kernel)) rfl
theorem tw690 : Cond.code yJ0_charAt_5068e cJ0_charAt_5068e 2 (some .char) ∈ zT := zT_i (List.mem_of_getElem? (i := 690) (by decide +kernel)) rfl
theorem tw691 : Cond.methodLink RJ0 492 yJ0_isLatin1_aae02 ∈ zT := zT_i (List.mem_of_getElem? (i := 691) (by decide +kernel)) rfl
theorem tw692 : Cond.instanceMethod yJ0_isLatin1_aae02 ∈ zT := zT_i (List.mem_of_getElem? (i := 692) (by decide +kernel)) rfl
theorem tw693 : Cond.selects RJ0 yJ0_isLatin1_aae02 yJ0_isLatin1_aae02 ∈ zT := zT_i (List.mem_of_getElem? (i := 693) (by decide +kernel)) rfl
theorem tw694 : Cond.code yJ0_isLatin1_aae02 cJ0_isLatin1_aae02 1 (some .boolean) ∈ zT := zT_i (List.mem_of_getElem? (i := 694) (by decide +kernel)) rfl
theorem tw695 : Cond.methodLink RJ0 495 yJ1_charAt_3b067 ∈ zT := zT_i (List.mem_of_getElem? (i := 695) (by decide +kernel)) rfl
theorem tw696 : Cond.static yJ1_charAt_3b067 ∈ zT := zT_i (List.mem_of_getElem? (i := 696) (by decide +kernel)) rfl
theorem tw697 : Cond.code yJ1_charAt_3b067 cJ1_charAt_3b067 2 (some .char) ∈ zT := zT_i (List.mem_of_getElem? (i := 697) (by decide +kernel)) rfl
theorem tw698 : Cond.methodLink RJ1 9 yJ0_checkIndex_df160 ∈ zT := zT_i (List.mem_of_getElem? (i := 698) (by decide +kernel)) rfl
theorem tw699 : Cond.static yJ0_checkIndex_df160 ∈ zT := zT_i (List.mem_of_getElem? (i := 699) (by decide +kernel)) rfl
theorem tw700 : Cond.code yJ0_checkIndex_df160 cJ0_checkIndex_df160 2 none ∈ zT := zT_i (List.mem_of_getElem? (i := 700) (by decide +kernel)) rfl
theorem tw701 : Cond.fieldLink RJ0 1053 "jdk/internal/util/Preconditions" "SIOOBE_FORMATTER" "Ljava/util/function/BiFunction;" ∈ zT := zT_i (List.mem_of_getElem? (i := 701) (by decide +kernel)) rfl
theorem tw702 : Cond.laysStatic "jdk/internal/util/Preconditions" "SIOOBE_FORMATTER" "Ljava/util/function/BiFunction;" ∈ lw_tbl := List.mem_of_getElem? (i := 702) (by decide +kernel)
theorem tw703 : Cond.methodLink RJ0 1059 yJ3_checkIndex_8e157 ∈ zT := zT_i (List.mem_of_getElem? (i := 703) (by decide +kernel)) rfl
theorem tw704 : Cond.static yJ3_checkIndex_8e157 ∈ zT := zT_i (List.mem_of_getElem? (i := 704) (by decide +kernel)) rfl
theorem tw705 : Cond.code yJ3_checkIndex_8e157 cJ3_checkIndex_8e157 3 (some .int) ∈ zT := zT_i (List.mem_of_getElem? (i := 705) (by decide +kernel)) rfl
theorem tw706 : Cond.methodLink RJ0 498 yJ2_charAt_3b067 ∈ zT := zT_i (List.mem_of_getElem? (i := 706) (by decide +kernel)) rfl
theorem tw707 : Cond.static yJ2_charAt_3b067 ∈ zT := zT_i (List.mem_of_getElem? (i := 707) (by decide +kernel)) rfl
theorem tw708 : Cond.code yJ2_charAt_3b067 cJ2_charAt_3b067 2 (some .char) ∈ zT := zT_i (List.mem_of_getElem? (i := 708) (by decide +kernel)) rfl
theorem tw709 : Cond.methodLink RJ2 67 yJ2_checkIndex_2214a ∈ zT := zT_i (List.mem_of_getElem? (i := 709) (by decide +kernel)) rfl
theorem tw710 : Cond.static yJ2_checkIndex_2214a ∈ zT := zT_i (List.mem_of_getElem? (i := 710) (by decide +kernel)) rfl
theorem tw711 : Cond.code yJ2_checkIndex_2214a cJ2_checkIndex_2214a 2 none ∈ zT := zT_i (List.mem_of_getElem? (i := 711) (by decide +kernel)) rfl
theorem tw712 : Cond.methodLink RJ2 48 yJ2_length_9d52b ∈ zT := zT_i (List.mem_of_getElem? (i := 712) (by decide +kernel)) rfl
theorem tw713 : Cond.static yJ2_length_9d52b ∈ zT := zT_i (List.mem_of_getElem? (i := 713) (by decide +kernel)) rfl
theorem tw714 : Cond.code yJ2_length_9d52b cJ2_length_9d52b 1 (some .int) ∈ zT := zT_i (List.mem_of_getElem? (i := 714) (by decide +kernel)) rfl
theorem tw715 : Cond.methodLink RJ2 414 yJ0_checkIndex_df160 ∈ zT := zT_i (List.mem_of_getElem? (i := 715) (by decide +kernel)) rfl
theorem tw716 : Cond.methodLink RJ2 71 yJ2_getChar_3b067 ∈ zT := zT_i (List.mem_of_getElem? (i := 716) (by decide +kernel)) rfl
theorem tw717 : Cond.static yJ2_getChar_3b067 ∈ zT := zT_i (List.mem_of_getElem? (i := 717) (by decide +kernel)) rfl
theorem tw718 : Cond.code yJ2_getChar_3b067 cJ2_getChar_3b067 2 (some .char) ∈ zT := zT_i (List.mem_of_getElem? (i := 718) (by decide +kernel)) rfl
theorem tw719 : Cond.fieldLink RJ2 44 "java/lang/StringUTF16" "$assertionsDisabled" "Z" ∈ zT := zT_i (List.mem_of_getElem? (i := 719) (by decide +kernel)) rfl
theorem tw720 : Cond.laysStatic "java/lang/StringUTF16" "$assertionsDisabled" "Z" ∈ lw_tbl := List.mem_of_getElem? (i := 720) (by decide +kernel)
theorem tw721 : Cond.fieldLink RJ2 59 "java/lang/StringUTF16" "HI_BYTE_SHIFT" "I" ∈ zT := zT_i (List.mem_of_getElem? (i := 721) (by decide +kernel)) rfl
theorem tw722 : Cond.laysStatic "java/lang/StringUTF16" "HI_BYTE_SHIFT" "I" ∈ lw_tbl := List.mem_of_getElem? (i := 722) (by decide +kernel)
theorem tw723 : Cond.fieldLink RJ2 63 "java/lang/StringUTF16" "LO_BYTE_SHIFT" "I" ∈ zT := zT_i (List.mem_of_getElem? (i := 723) (by decide +kernel)) rfl
theorem tw724 : Cond.laysStatic "java/lang/StringUTF16" "LO_BYTE_SHIFT" "I" ∈ lw_tbl := List.mem_of_getElem? (i := 724) (by decide +kernel)
theorem tw725 : Cond.methodLink RX3 72 yX3_readPart ∈ zT := zT_i (List.mem_of_getElem? (i := 725) (by decide +kernel)) rfl
theorem tw727 : Cond.instanceMethod yX3_readPart ∈ zT := zT_i (List.mem_of_getElem? (i := 727) (by decide +kernel)) rfl
theorem tw728 : Cond.code yX3_readPart cX3_readPart 2 (some .boolean) ∈ zT := zT_i (List.mem_of_getElem? (i := 728) (by decide +kernel)) rfl
theorem tw729 : Cond.methodLink RX3 91 yX3_readNumber ∈ zT := zT_i (List.mem_of_getElem? (i := 729) (by decide +kernel)) rfl
theorem tw731 : Cond.instanceMethod yX3_readNumber ∈ zT := zT_i (List.mem_of_getElem? (i := 731) (by decide +kernel)) rfl
theorem tw732 : Cond.code yX3_readNumber cX3_readNumber 4 (some .boolean) ∈ zT := zT_i (List.mem_of_getElem? (i := 732) (by decide +kernel)) rfl
theorem tw733 : Cond.arrayClass .byte ∈ zT := zT_i (List.mem_of_getElem? (i := 733) (by decide +kernel)) rfl
theorem tw734 : Cond.methodLink RL 122 yX7_carryOut ∈ zT := zT_i (List.mem_of_getElem? (i := 734) (by decide +kernel)) rfl
theorem tw735 : Cond.instanceMethod yX7_carryOut ∈ zT := zT_i (List.mem_of_getElem? (i := 735) (by decide +kernel)) rfl
theorem tw736 : Cond.selects RX7 yX7_carryOut yX7_carryOut ∈ zT := zT_i (List.mem_of_getElem? (i := 736) (by decide +kernel)) rfl
theorem tw737 : Cond.code yX7_carryOut cX7_carryOut 2 (some .int) ∈ zT := zT_i (List.mem_of_getElem? (i := 737) (by decide +kernel)) rfl
theorem tw738 : Cond.methodLink RX7 213 yX3_rewind ∈ zT := zT_i (List.mem_of_getElem? (i := 738) (by decide +kernel)) rfl
theorem tw739 : Cond.methodLink RX7 216 yX3_readOrder ∈ zT := zT_i (List.mem_of_getElem? (i := 739) (by decide +kernel)) rfl
theorem tw740 : Cond.methodLink RX7 220 yX7_carryOrder ∈ zT := zT_i (List.mem_of_getElem? (i := 740) (by decide +kernel)) rfl
theorem tw742 : Cond.instanceMethod yX7_carryOrder ∈ zT := zT_i (List.mem_of_getElem? (i := 742) (by decide +kernel)) rfl
theorem tw743 : Cond.code yX7_carryOrder cX7_carryOrder 1 (some .int) ∈ zT := zT_i (List.mem_of_getElem? (i := 743) (by decide +kernel)) rfl
theorem tw744 : Cond.methodLink RX7 223 yX3_kind ∈ zT := zT_i (List.mem_of_getElem? (i := 744) (by decide +kernel)) rfl
theorem tw745 : Cond.instanceMethod yX3_kind ∈ zT := zT_i (List.mem_of_getElem? (i := 745) (by decide +kernel)) rfl
theorem tw746 : Cond.selects RX3 yX3_kind yX3_kind ∈ zT := zT_i (List.mem_of_getElem? (i := 746) (by decide +kernel)) rfl
theorem tw747 : Cond.code yX3_kind cX3_kind 1 (some .int) ∈ zT := zT_i (List.mem_of_getElem? (i := 747) (by decide +kernel)) rfl
theorem tw748 : Cond.methodLink RX7 226 yX3_number ∈ zT := zT_i (List.mem_of_getElem? (i := 748) (by decide +kernel)) rfl
theorem tw749 : Cond.instanceMethod yX3_number ∈ zT := zT_i (List.mem_of_getElem? (i := 749) (by decide +kernel)) rfl
theorem tw750 : Cond.selects RX3 yX3_number yX3_number ∈ zT := zT_i (List.mem_of_getElem? (i := 750) (by decide +kernel)) rfl
theorem tw751 : Cond.code yX3_number cX3_number 2 (some .int) ∈ zT := zT_i (List.mem_of_getElem? (i := 751) (by decide +kernel)) rfl
theorem tw752 : Cond.methodLink RL 126 yX7_undo ∈ zT := zT_i (List.mem_of_getElem? (i := 752) (by decide +kernel)) rfl
theorem tw753 : Cond.instanceMethod yX7_undo ∈ zT := zT_i (List.mem_of_getElem? (i := 753) (by decide +kernel)) rfl
theorem tw754 : Cond.selects RX7 yX7_undo yX7_undo ∈ zT := zT_i (List.mem_of_getElem? (i := 754) (by decide +kernel)) rfl
theorem tw755 : Cond.code yX7_undo cX7_undo 1 (some .int) ∈ zT := zT_i (List.mem_of_getElem? (i := 755) (by decide +kernel)) rfl
theorem tw756 : Cond.methodLink RX7 229 yX2_goBack ∈ zT := zT_i (List.mem_of_getElem? (i := 756) (by decide +kernel)) rfl
theorem tw757 : Cond.instanceMethod yX2_goBack ∈ zT := zT_i (List.mem_of_getElem? (i := 757) (by decide +kernel)) rfl
theorem tw758 : Cond.selects RX2 yX2_goBack yX2_goBack ∈ zT := zT_i (List.mem_of_getElem? (i := 758) (by decide +kernel)) rfl
theorem tw759 : Cond.code yX2_goBack cX2_goBack 2 (some .int) ∈ zT := zT_i (List.mem_of_getElem? (i := 759) (by decide +kernel)) rfl
theorem tw760 : Cond.methodLink RX2 39 yX5_copyFrom ∈ zT := zT_i (List.mem_of_getElem? (i := 760) (by decide +kernel)) rfl
theorem tw761 : Cond.instanceMethod yX5_copyFrom ∈ zT := zT_i (List.mem_of_getElem? (i := 761) (by decide +kernel)) rfl
theorem tw762 : Cond.selects RX5 yX5_copyFrom yX5_copyFrom ∈ zT := zT_i (List.mem_of_getElem? (i := 762) (by decide +kernel)) rfl
theorem tw763 : Cond.code yX5_copyFrom cX5_copyFrom 2 none ∈ zT := zT_i (List.mem_of_getElem? (i := 763) (by decide +kernel)) rfl
theorem tw764 : Cond.methodLink RL 130 yX7_save ∈ zT := zT_i (List.mem_of_getElem? (i := 764) (by decide +kernel)) rfl
theorem tw765 : Cond.instanceMethod yX7_save ∈ zT := zT_i (List.mem_of_getElem? (i := 765) (by decide +kernel)) rfl
theorem tw766 : Cond.selects RX7 yX7_save yX7_save ∈ zT := zT_i (List.mem_of_getElem? (i := 766) (by decide +kernel)) rfl
theorem tw767 : Cond.code yX7_save cX7_save 2 (some .int) ∈ zT := zT_i (List.mem_of_getElem? (i := 767) (by decide +kernel)) rfl
theorem tw768 : Cond.methodLink RX7 233 yX7_isSlot ∈ zT := zT_i (List.mem_of_getElem? (i := 768) (by decide +kernel)) rfl
theorem tw769 : Cond.static yX7_isSlot ∈ zT := zT_i (List.mem_of_getElem? (i := 769) (by decide +kernel)) rfl
theorem tw770 : Cond.code yX7_isSlot cX7_isSlot 1 (some .boolean) ∈ zT := zT_i (List.mem_of_getElem? (i := 770) (by decide +kernel)) rfl
theorem tw771 : Cond.methodLink RX7 236 yX4_keep ∈ zT := zT_i (List.mem_of_getElem? (i := 771) (by decide +kernel)) rfl
theorem tw772 : Cond.instanceMethod yX4_keep ∈ zT := zT_i (List.mem_of_getElem? (i := 772) (by decide +kernel)) rfl
theorem tw773 : Cond.selects RX4 yX4_keep yX4_keep ∈ zT := zT_i (List.mem_of_getElem? (i := 773) (by decide +kernel)) rfl
theorem tw774 : Cond.code yX4_keep cX4_keep 3 (some .int) ∈ zT := zT_i (List.mem_of_getElem? (i := 774) (by decide +kernel)) rfl
theorem tw775 : Cond.methodLink RX4 20 yX5_copyTo ∈ zT := zT_i (List.mem_of_getElem? (i := 775) (by decide +kernel)) rfl
theorem tw776 : Cond.methodLink RX4 26 yX5_cell ∈ zT := zT_i (List.mem_of_getElem? (i := 776) (by decide +kernel)) rfl
theorem tw777 : Cond.methodLink RL 134 yX7_restore ∈ zT := zT_i (List.mem_of_getElem? (i := 777) (by decide +kernel)) rfl
theorem tw778 : Cond.instanceMethod yX7_restore ∈ zT := zT_i (List.mem_of_getElem? (i := 778) (by decide +kernel)) rfl
theorem tw779 : Cond.selects RX7 yX7_restore yX7_restore ∈ zT := zT_i (List.mem_of_getElem? (i := 779) (by decide +kernel)) rfl
theorem tw780 : Cond.code yX7_restore cX7_restore 2 (some .int) ∈ zT := zT_i (List.mem_of_getElem? (i := 780) (by decide +kernel)) rfl
theorem tw781 : Cond.methodLink RX7 240 yX4_bring ∈ zT := zT_i (List.mem_of_getElem? (i := 781) (by decide +kernel)) rfl
theorem tw782 : Cond.instanceMethod yX4_bring ∈ zT := zT_i (List.mem_of_getElem? (i := 782) (by decide +kernel)) rfl
theorem tw783 : Cond.selects RX4 yX4_bring yX4_bring ∈ zT := zT_i (List.mem_of_getElem? (i := 783) (by decide +kernel)) rfl
theorem tw784 : Cond.code yX4_bring cX4_bring 3 (some .int) ∈ zT := zT_i (List.mem_of_getElem? (i := 784) (by decide +kernel)) rfl
theorem tw785 : Cond.methodLink RX4 30 yX5_copyFrom ∈ zT := zT_i (List.mem_of_getElem? (i := 785) (by decide +kernel)) rfl
theorem tw786 : Cond.classLink RL 10 RX8 ∈ zT := zT_i (List.mem_of_getElem? (i := 786) (by decide +kernel)) rfl
theorem tw787 : Cond.instantiable RX8 12 ∈ zT := zT_i (List.mem_of_getElem? (i := 787) (by decide +kernel)) rfl
theorem tw788 : Cond.methodLink RL 12 yX8_init ∈ zT := zT_i (List.mem_of_getElem? (i := 788) (by decide +kernel)) rfl
theorem tw789 : Cond.instanceMethod yX8_init ∈ zT := zT_i (List.mem_of_getElem? (i := 789) (by decide +kernel)) rfl
theorem tw790 : Cond.code yX8_init cX8_init 2 none ∈ zT := zT_i (List.mem_of_getElem? (i := 790) (by decide +kernel)) rfl
theorem tw791 : Cond.methodLink RX8 1 objectInit ∈ zT := zT_i (List.mem_of_getElem? (i := 791) (by decide +kernel)) rfl
theorem tw792 : Cond.methodLink RX8 35 yX8_ofLorryAt ∈ zT := zT_i (List.mem_of_getElem? (i := 792) (by decide +kernel)) rfl
theorem tw793 : Cond.static yX8_ofLorryAt ∈ zT := zT_i (List.mem_of_getElem? (i := 793) (by decide +kernel)) rfl
theorem tw794 : Cond.code yX8_ofLorryAt cX8_ofLorryAt 2 (some .int) ∈ zT := zT_i (List.mem_of_getElem? (i := 794) (by decide +kernel)) rfl
theorem tw795 : Cond.fieldLink RX8 7 "QuarryOrdersModel" "s" "[I" ∈ zT := zT_i (List.mem_of_getElem? (i := 795) (by decide +kernel)) rfl
theorem tw796 : Cond.fieldLink RX8 13 "QuarryOrdersModel" "ahead" "[I" ∈ zT := zT_i (List.mem_of_getElem? (i := 796) (by decide +kernel)) rfl
theorem tw797 : Cond.fieldLink RX8 16 "QuarryOrdersModel" "history" "[I" ∈ zT := zT_i (List.mem_of_getElem? (i := 797) (by decide +kernel)) rfl
theorem tw798 : Cond.fieldLink RX8 43 "QuarryOrdersModel" "kept" "I" ∈ zT := zT_i (List.mem_of_getElem? (i := 798) (by decide +kernel)) rfl
theorem tw799 : Cond.fieldLink RX8 19 "QuarryOrdersModel" "slots" "[I" ∈ zT := zT_i (List.mem_of_getElem? (i := 799) (by decide +kernel)) rfl
theorem tw800 : Cond.fieldLink RX8 22 "QuarryOrdersModel" "isSaved" "[Z" ∈ zT := zT_i (List.mem_of_getElem? (i := 800) (by decide +kernel)) rfl
theorem tw801 : Cond.fieldLink RX8 26 "QuarryOrdersModel" "pad" "[I" ∈ zT := zT_i (List.mem_of_getElem? (i := 801) (by decide +kernel)) rfl
theorem tw802 : Cond.fieldLink RX8 189 "QuarryOrdersModel" "length" "I" ∈ zT := zT_i (List.mem_of_getElem? (i := 802) (by decide +kernel)) rfl
theorem tw803 : Cond.fieldLink RX8 29 "QuarryOrdersModel" "sorted" "[I" ∈ zT := zT_i (List.mem_of_getElem? (i := 803) (by decide +kernel)) rfl
theorem tw804 : Cond.fieldLink RX8 220 "QuarryOrdersModel" "position" "I" ∈ zT := zT_i (List.mem_of_getElem? (i := 804) (by decide +kernel)) rfl
theorem tw805 : Cond.fieldLink RX8 216 "QuarryOrdersModel" "isWrong" "Z" ∈ zT := zT_i (List.mem_of_getElem? (i := 805) (by decide +kernel)) rfl
theorem tw806 : Cond.fieldLink RX8 32 "QuarryOrdersModel" "told" "[I" ∈ zT := zT_i (List.mem_of_getElem? (i := 806) (by decide +kernel)) rfl
theorem tw832 : Cond.methodLink RL 17 yX8_set ∈ zT := zT_i (List.mem_of_getElem? (i := 832) (by decide +kernel)) rfl
theorem tw833 : Cond.instanceMethod yX8_set ∈ zT := zT_i (List.mem_of_getElem? (i := 833) (by decide +kernel)) rfl
theorem tw834 : Cond.selects RX8 yX8_set yX8_set ∈ zT := zT_i (List.mem_of_getElem? (i := 834) (by decide +kernel)) rfl
theorem tw835 : Cond.code yX8_set cX8_set 4 (some .int) ∈ zT := zT_i (List.mem_of_getElem? (i := 835) (by decide +kernel)) rfl
theorem tw836 : Cond.methodLink RX8 39 yX8_in ∈ zT := zT_i (List.mem_of_getElem? (i := 836) (by decide +kernel)) rfl
theorem tw837 : Cond.static yX8_in ∈ zT := zT_i (List.mem_of_getElem? (i := 837) (by decide +kernel)) rfl
theorem tw838 : Cond.code yX8_in cX8_in 3 (some .boolean) ∈ zT := zT_i (List.mem_of_getElem? (i := 838) (by decide +kernel)) rfl
theorem tw839 : Cond.methodLink RX8 166 yX8_lays ∈ zT := zT_i (List.mem_of_getElem? (i := 839) (by decide +kernel)) rfl
theorem tw841 : Cond.instanceMethod yX8_lays ∈ zT := zT_i (List.mem_of_getElem? (i := 841) (by decide +kernel)) rfl
theorem tw842 : Cond.code yX8_lays cX8_lays 4 (some .int) ∈ zT := zT_i (List.mem_of_getElem? (i := 842) (by decide +kernel)) rfl
theorem tw843 : Cond.methodLink RX8 156 yX8_looks ∈ zT := zT_i (List.mem_of_getElem? (i := 843) (by decide +kernel)) rfl
theorem tw845 : Cond.instanceMethod yX8_looks ∈ zT := zT_i (List.mem_of_getElem? (i := 845) (by decide +kernel)) rfl
theorem tw846 : Cond.code yX8_looks cX8_looks 2 none ∈ zT := zT_i (List.mem_of_getElem? (i := 846) (by decide +kernel)) rfl
theorem tw847 : Cond.methodLink RX8 163 yX8_records ∈ zT := zT_i (List.mem_of_getElem? (i := 847) (by decide +kernel)) rfl
theorem tw849 : Cond.instanceMethod yX8_records ∈ zT := zT_i (List.mem_of_getElem? (i := 849) (by decide +kernel)) rfl
theorem tw850 : Cond.code yX8_records cX8_records 2 none ∈ zT := zT_i (List.mem_of_getElem? (i := 850) (by decide +kernel)) rfl
theorem tw851 : Cond.methodLink RL 22 yX8_quarry ∈ zT := zT_i (List.mem_of_getElem? (i := 851) (by decide +kernel)) rfl
theorem tw852 : Cond.instanceMethod yX8_quarry ∈ zT := zT_i (List.mem_of_getElem? (i := 852) (by decide +kernel)) rfl
theorem tw853 : Cond.selects RX8 yX8_quarry yX8_quarry ∈ zT := zT_i (List.mem_of_getElem? (i := 853) (by decide +kernel)) rfl
theorem tw854 : Cond.code yX8_quarry cX8_quarry 5 (some .int) ∈ zT := zT_i (List.mem_of_getElem? (i := 854) (by decide +kernel)) rfl
theorem tw855 : Cond.methodLink RX8 169 yX8_tries ∈ zT := zT_i (List.mem_of_getElem? (i := 855) (by decide +kernel)) rfl
theorem tw857 : Cond.instanceMethod yX8_tries ∈ zT := zT_i (List.mem_of_getElem? (i := 857) (by decide +kernel)) rfl
theorem tw858 : Cond.code yX8_tries cX8_tries 7 (some .int) ∈ zT := zT_i (List.mem_of_getElem? (i := 858) (by decide +kernel)) rfl
theorem tw859 : Cond.methodLink RX8 159 yX8_does ∈ zT := zT_i (List.mem_of_getElem? (i := 859) (by decide +kernel)) rfl
theorem tw861 : Cond.instanceMethod yX8_does ∈ zT := zT_i (List.mem_of_getElem? (i := 861) (by decide +kernel)) rfl
theorem tw862 : Cond.code yX8_does cX8_does 6 (some .int) ∈ zT := zT_i (List.mem_of_getElem? (i := 862) (by decide +kernel)) rfl
theorem tw863 : Cond.methodLink RX8 134 yX8_quarries ∈ zT := zT_i (List.mem_of_getElem? (i := 863) (by decide +kernel)) rfl
theorem tw865 : Cond.instanceMethod yX8_quarries ∈ zT := zT_i (List.mem_of_getElem? (i := 865) (by decide +kernel)) rfl
theorem tw866 : Cond.code yX8_quarries cX8_quarries 6 (some .int) ∈ zT := zT_i (List.mem_of_getElem? (i := 866) (by decide +kernel)) rfl
theorem tw867 : Cond.methodLink RX8 97 yX8_isSize ∈ zT := zT_i (List.mem_of_getElem? (i := 867) (by decide +kernel)) rfl
theorem tw868 : Cond.static yX8_isSize ∈ zT := zT_i (List.mem_of_getElem? (i := 868) (by decide +kernel)) rfl
theorem tw869 : Cond.code yX8_isSize cX8_isSize 1 (some .boolean) ∈ zT := zT_i (List.mem_of_getElem? (i := 869) (by decide +kernel)) rfl
theorem tw870 : Cond.methodLink RX8 54 yX8_newBlock ∈ zT := zT_i (List.mem_of_getElem? (i := 870) (by decide +kernel)) rfl
theorem tw872 : Cond.instanceMethod yX8_newBlock ∈ zT := zT_i (List.mem_of_getElem? (i := 872) (by decide +kernel)) rfl
theorem tw873 : Cond.code yX8_newBlock cX8_newBlock 7 (some .int) ∈ zT := zT_i (List.mem_of_getElem? (i := 873) (by decide +kernel)) rfl
theorem tw874 : Cond.methodLink RX8 47 yX8_at ∈ zT := zT_i (List.mem_of_getElem? (i := 874) (by decide +kernel)) rfl
theorem tw875 : Cond.static yX8_at ∈ zT := zT_i (List.mem_of_getElem? (i := 875) (by decide +kernel)) rfl
theorem tw876 : Cond.code yX8_at cX8_at 2 (some .int) ∈ zT := zT_i (List.mem_of_getElem? (i := 876) (by decide +kernel)) rfl
theorem tw877 : Cond.methodLink RX8 58 yX8_weight ∈ zT := zT_i (List.mem_of_getElem? (i := 877) (by decide +kernel)) rfl
theorem tw879 : Cond.instanceMethod yX8_weight ∈ zT := zT_i (List.mem_of_getElem? (i := 879) (by decide +kernel)) rfl
theorem tw880 : Cond.code yX8_weight cX8_weight 2 (some .int) ∈ zT := zT_i (List.mem_of_getElem? (i := 880) (by decide +kernel)) rfl
theorem tw881 : Cond.methodLink RX8 137 yX8_cuts ∈ zT := zT_i (List.mem_of_getElem? (i := 881) (by decide +kernel)) rfl
theorem tw883 : Cond.instanceMethod yX8_cuts ∈ zT := zT_i (List.mem_of_getElem? (i := 883) (by decide +kernel)) rfl
theorem tw884 : Cond.code yX8_cuts cX8_cuts 8 (some .int) ∈ zT := zT_i (List.mem_of_getElem? (i := 884) (by decide +kernel)) rfl
theorem tw885 : Cond.methodLink RX8 103 yX8_isBlock ∈ zT := zT_i (List.mem_of_getElem? (i := 885) (by decide +kernel)) rfl
theorem tw887 : Cond.instanceMethod yX8_isBlock ∈ zT := zT_i (List.mem_of_getElem? (i := 887) (by decide +kernel)) rfl
theorem tw888 : Cond.code yX8_isBlock cX8_isBlock 2 (some .boolean) ∈ zT := zT_i (List.mem_of_getElem? (i := 888) (by decide +kernel)) rfl
theorem tw889 : Cond.methodLink RX8 106 yX8_canBeCut ∈ zT := zT_i (List.mem_of_getElem? (i := 889) (by decide +kernel)) rfl
theorem tw891 : Cond.instanceMethod yX8_canBeCut ∈ zT := zT_i (List.mem_of_getElem? (i := 891) (by decide +kernel)) rfl
theorem tw892 : Cond.code yX8_canBeCut cX8_canBeCut 2 (some .boolean) ∈ zT := zT_i (List.mem_of_getElem? (i := 892) (by decide +kernel)) rfl
theorem tw893 : Cond.methodLink RX8 100 yX8_isHere ∈ zT := zT_i (List.mem_of_getElem? (i := 893) (by decide +kernel)) rfl
theorem tw895 : Cond.instanceMethod yX8_isHere ∈ zT := zT_i (List.mem_of_getElem? (i := 895) (by decide +kernel)) rfl
theorem tw896 : Cond.code yX8_isHere cX8_isHere 2 (some .boolean) ∈ zT := zT_i (List.mem_of_getElem? (i := 896) (by decide +kernel)) rfl
theorem tw897 : Cond.methodLink RX8 50 yX8_isAt ∈ zT := zT_i (List.mem_of_getElem? (i := 897) (by decide +kernel)) rfl
theorem tw899 : Cond.instanceMethod yX8_isAt ∈ zT := zT_i (List.mem_of_getElem? (i := 899) (by decide +kernel)) rfl
theorem tw900 : Cond.code yX8_isAt cX8_isAt 3 (some .boolean) ∈ zT := zT_i (List.mem_of_getElem? (i := 900) (by decide +kernel)) rfl
theorem tw901 : Cond.methodLink RX8 109 yX8_part ∈ zT := zT_i (List.mem_of_getElem? (i := 901) (by decide +kernel)) rfl
theorem tw903 : Cond.instanceMethod yX8_part ∈ zT := zT_i (List.mem_of_getElem? (i := 903) (by decide +kernel)) rfl
theorem tw904 : Cond.code yX8_part cX8_part 5 none ∈ zT := zT_i (List.mem_of_getElem? (i := 904) (by decide +kernel)) rfl
theorem tw905 : Cond.methodLink RX8 112 yX8_underRoof ∈ zT := zT_i (List.mem_of_getElem? (i := 905) (by decide +kernel)) rfl
theorem tw907 : Cond.instanceMethod yX8_underRoof ∈ zT := zT_i (List.mem_of_getElem? (i := 907) (by decide +kernel)) rfl
theorem tw908 : Cond.code yX8_underRoof cX8_underRoof 3 (some .int) ∈ zT := zT_i (List.mem_of_getElem? (i := 908) (by decide +kernel)) rfl
theorem tw909 : Cond.methodLink RX8 141 yX8_orders ∈ zT := zT_i (List.mem_of_getElem? (i := 909) (by decide +kernel)) rfl
theorem tw911 : Cond.instanceMethod yX8_orders ∈ zT := zT_i (List.mem_of_getElem? (i := 911) (by decide +kernel)) rfl
theorem tw912 : Cond.code yX8_orders cX8_orders 6 (some .int) ∈ zT := zT_i (List.mem_of_getElem? (i := 912) (by decide +kernel)) rfl
theorem tw913 : Cond.methodLink RX8 62 yX8_sorts ∈ zT := zT_i (List.mem_of_getElem? (i := 913) (by decide +kernel)) rfl
theorem tw915 : Cond.instanceMethod yX8_sorts ∈ zT := zT_i (List.mem_of_getElem? (i := 915) (by decide +kernel)) rfl
theorem tw916 : Cond.code yX8_sorts cX8_sorts 6 none ∈ zT := zT_i (List.mem_of_getElem? (i := 916) (by decide +kernel)) rfl
theorem tw917 : Cond.methodLink RX8 66 yX8_ofOrderAt ∈ zT := zT_i (List.mem_of_getElem? (i := 917) (by decide +kernel)) rfl
theorem tw918 : Cond.static yX8_ofOrderAt ∈ zT := zT_i (List.mem_of_getElem? (i := 918) (by decide +kernel)) rfl
theorem tw919 : Cond.code yX8_ofOrderAt cX8_ofOrderAt 2 (some .int) ∈ zT := zT_i (List.mem_of_getElem? (i := 919) (by decide +kernel)) rfl
theorem tw920 : Cond.methodLink RX8 144 yX8_gives ∈ zT := zT_i (List.mem_of_getElem? (i := 920) (by decide +kernel)) rfl
theorem tw922 : Cond.instanceMethod yX8_gives ∈ zT := zT_i (List.mem_of_getElem? (i := 922) (by decide +kernel)) rfl
theorem tw923 : Cond.code yX8_gives cX8_gives 3 (some .int) ∈ zT := zT_i (List.mem_of_getElem? (i := 923) (by decide +kernel)) rfl
theorem tw924 : Cond.methodLink RX8 116 yX8_isOrder ∈ zT := zT_i (List.mem_of_getElem? (i := 924) (by decide +kernel)) rfl
theorem tw926 : Cond.instanceMethod yX8_isOrder ∈ zT := zT_i (List.mem_of_getElem? (i := 926) (by decide +kernel)) rfl
theorem tw927 : Cond.code yX8_isOrder cX8_isOrder 2 (some .boolean) ∈ zT := zT_i (List.mem_of_getElem? (i := 927) (by decide +kernel)) rfl
theorem tw928 : Cond.methodLink RX8 119 yX8_canGive ∈ zT := zT_i (List.mem_of_getElem? (i := 928) (by decide +kernel)) rfl
theorem tw930 : Cond.instanceMethod yX8_canGive ∈ zT := zT_i (List.mem_of_getElem? (i := 930) (by decide +kernel)) rfl
theorem tw931 : Cond.code yX8_canGive cX8_canGive 4 (some .boolean) ∈ zT := zT_i (List.mem_of_getElem? (i := 931) (by decide +kernel)) rfl
theorem tw932 : Cond.methodLink RX8 72 yX8_excessOf ∈ zT := zT_i (List.mem_of_getElem? (i := 932) (by decide +kernel)) rfl
theorem tw934 : Cond.instanceMethod yX8_excessOf ∈ zT := zT_i (List.mem_of_getElem? (i := 934) (by decide +kernel)) rfl
theorem tw935 : Cond.code yX8_excessOf cX8_excessOf 3 (some .int) ∈ zT := zT_i (List.mem_of_getElem? (i := 935) (by decide +kernel)) rfl
theorem tw936 : Cond.methodLink RX8 69 yX8_excess ∈ zT := zT_i (List.mem_of_getElem? (i := 936) (by decide +kernel)) rfl
theorem tw938 : Cond.instanceMethod yX8_excess ∈ zT := zT_i (List.mem_of_getElem? (i := 938) (by decide +kernel)) rfl
theorem tw939 : Cond.code yX8_excess cX8_excess 9 (some .int) ∈ zT := zT_i (List.mem_of_getElem? (i := 939) (by decide +kernel)) rfl
theorem tw940 : Cond.methodLink RX8 147 yX8_loads ∈ zT := zT_i (List.mem_of_getElem? (i := 940) (by decide +kernel)) rfl
theorem tw942 : Cond.instanceMethod yX8_loads ∈ zT := zT_i (List.mem_of_getElem? (i := 942) (by decide +kernel)) rfl
theorem tw943 : Cond.code yX8_loads cX8_loads 4 (some .int) ∈ zT := zT_i (List.mem_of_getElem? (i := 943) (by decide +kernel)) rfl
theorem tw944 : Cond.methodLink RX8 122 yX8_isLorry ∈ zT := zT_i (List.mem_of_getElem? (i := 944) (by decide +kernel)) rfl
theorem tw945 : Cond.static yX8_isLorry ∈ zT := zT_i (List.mem_of_getElem? (i := 945) (by decide +kernel)) rfl
theorem tw946 : Cond.code yX8_isLorry cX8_isLorry 1 (some .boolean) ∈ zT := zT_i (List.mem_of_getElem? (i := 946) (by decide +kernel)) rfl
theorem tw947 : Cond.methodLink RX8 75 yX8_blockAt ∈ zT := zT_i (List.mem_of_getElem? (i := 947) (by decide +kernel)) rfl
theorem tw949 : Cond.instanceMethod yX8_blockAt ∈ zT := zT_i (List.mem_of_getElem? (i := 949) (by decide +kernel)) rfl
theorem tw950 : Cond.code yX8_blockAt cX8_blockAt 5 (some .int) ∈ zT := zT_i (List.mem_of_getElem? (i := 950) (by decide +kernel)) rfl
theorem tw951 : Cond.methodLink RX8 90 yX8_loadOf ∈ zT := zT_i (List.mem_of_getElem? (i := 951) (by decide +kernel)) rfl
theorem tw953 : Cond.instanceMethod yX8_loadOf ∈ zT := zT_i (List.mem_of_getElem? (i := 953) (by decide +kernel)) rfl
theorem tw954 : Cond.code yX8_loadOf cX8_loadOf 4 (some .int) ∈ zT := zT_i (List.mem_of_getElem? (i := 954) (by decide +kernel)) rfl
theorem tw955 : Cond.methodLink RX8 150 yX8_nights ∈ zT := zT_i (List.mem_of_getElem? (i := 955) (by decide +kernel)) rfl
theorem tw957 : Cond.instanceMethod yX8_nights ∈ zT := zT_i (List.mem_of_getElem? (i := 957) (by decide +kernel)) rfl
theorem tw958 : Cond.code yX8_nights cX8_nights 5 (some .int) ∈ zT := zT_i (List.mem_of_getElem? (i := 958) (by decide +kernel)) rfl
theorem tw959 : Cond.methodLink RX8 131 yX8_wouldCrack ∈ zT := zT_i (List.mem_of_getElem? (i := 959) (by decide +kernel)) rfl
theorem tw961 : Cond.instanceMethod yX8_wouldCrack ∈ zT := zT_i (List.mem_of_getElem? (i := 961) (by decide +kernel)) rfl
theorem tw962 : Cond.code yX8_wouldCrack cX8_wouldCrack 2 (some .boolean) ∈ zT := zT_i (List.mem_of_getElem? (i := 962) (by decide +kernel)) rfl
theorem tw963 : Cond.methodLink RX8 153 yX8_leaves ∈ zT := zT_i (List.mem_of_getElem? (i := 963) (by decide +kernel)) rfl
theorem tw965 : Cond.instanceMethod yX8_leaves ∈ zT := zT_i (List.mem_of_getElem? (i := 965) (by decide +kernel)) rfl
theorem tw966 : Cond.code yX8_leaves cX8_leaves 5 (some .int) ∈ zT := zT_i (List.mem_of_getElem? (i := 966) (by decide +kernel)) rfl
theorem tw967 : Cond.methodLink RX8 125 yX8_whyNot ∈ zT := zT_i (List.mem_of_getElem? (i := 967) (by decide +kernel)) rfl
theorem tw969 : Cond.instanceMethod yX8_whyNot ∈ zT := zT_i (List.mem_of_getElem? (i := 969) (by decide +kernel)) rfl
theorem tw970 : Cond.code yX8_whyNot cX8_whyNot 2 (some .int) ∈ zT := zT_i (List.mem_of_getElem? (i := 970) (by decide +kernel)) rfl
theorem tw971 : Cond.methodLink RX8 83 yX8_blocksOn ∈ zT := zT_i (List.mem_of_getElem? (i := 971) (by decide +kernel)) rfl
theorem tw973 : Cond.instanceMethod yX8_blocksOn ∈ zT := zT_i (List.mem_of_getElem? (i := 973) (by decide +kernel)) rfl
theorem tw974 : Cond.code yX8_blocksOn cX8_blocksOn 4 (some .int) ∈ zT := zT_i (List.mem_of_getElem? (i := 974) (by decide +kernel)) rfl
theorem tw975 : Cond.methodLink RX8 86 yX8_hasCracked ∈ zT := zT_i (List.mem_of_getElem? (i := 975) (by decide +kernel)) rfl
theorem tw977 : Cond.instanceMethod yX8_hasCracked ∈ zT := zT_i (List.mem_of_getElem? (i := 977) (by decide +kernel)) rfl
theorem tw978 : Cond.code yX8_hasCracked cX8_hasCracked 5 (some .boolean) ∈ zT := zT_i (List.mem_of_getElem? (i := 978) (by decide +kernel)) rfl
theorem tw979 : Cond.methodLink RX8 93 yX8_axleNow ∈ zT := zT_i (List.mem_of_getElem? (i := 979) (by decide +kernel)) rfl
theorem tw981 : Cond.instanceMethod yX8_axleNow ∈ zT := zT_i (List.mem_of_getElem? (i := 981) (by decide +kernel)) rfl
theorem tw982 : Cond.code yX8_axleNow cX8_axleNow 3 (some .float) ∈ zT := zT_i (List.mem_of_getElem? (i := 982) (by decide +kernel)) rfl
theorem tw983 : Cond.methodLink RX8 79 yX8_axle ∈ zT := zT_i (List.mem_of_getElem? (i := 983) (by decide +kernel)) rfl
theorem tw985 : Cond.instanceMethod yX8_axle ∈ zT := zT_i (List.mem_of_getElem? (i := 985) (by decide +kernel)) rfl
theorem tw986 : Cond.code yX8_axle cX8_axle 8 (some .float) ∈ zT := zT_i (List.mem_of_getElem? (i := 986) (by decide +kernel)) rfl
theorem tw987 : Cond.constantFloat RX8 78 (1082130432) ∈ zT := zT_i (List.mem_of_getElem? (i := 987) (by decide +kernel)) rfl
theorem tw988 : Cond.methodLink RX8 128 yX8_delivers ∈ zT := zT_i (List.mem_of_getElem? (i := 988) (by decide +kernel)) rfl
theorem tw990 : Cond.instanceMethod yX8_delivers ∈ zT := zT_i (List.mem_of_getElem? (i := 990) (by decide +kernel)) rfl
theorem tw991 : Cond.code yX8_delivers cX8_delivers 4 (some .int) ∈ zT := zT_i (List.mem_of_getElem? (i := 991) (by decide +kernel)) rfl
theorem tw992 : Cond.methodLink RL 27 yX8_cut ∈ zT := zT_i (List.mem_of_getElem? (i := 992) (by decide +kernel)) rfl
theorem tw993 : Cond.instanceMethod yX8_cut ∈ zT := zT_i (List.mem_of_getElem? (i := 993) (by decide +kernel)) rfl
theorem tw994 : Cond.selects RX8 yX8_cut yX8_cut ∈ zT := zT_i (List.mem_of_getElem? (i := 994) (by decide +kernel)) rfl
theorem tw995 : Cond.code yX8_cut cX8_cut 4 (some .int) ∈ zT := zT_i (List.mem_of_getElem? (i := 995) (by decide +kernel)) rfl
theorem tw996 : Cond.methodLink RL 32 yX8_shelter ∈ zT := zT_i (List.mem_of_getElem? (i := 996) (by decide +kernel)) rfl
theorem tw997 : Cond.instanceMethod yX8_shelter ∈ zT := zT_i (List.mem_of_getElem? (i := 997) (by decide +kernel)) rfl
theorem tw998 : Cond.selects RX8 yX8_shelter yX8_shelter ∈ zT := zT_i (List.mem_of_getElem? (i := 998) (by decide +kernel)) rfl
theorem tw999 : Cond.code yX8_shelter cX8_shelter 4 (some .int) ∈ zT := zT_i (List.mem_of_getElem? (i := 999) (by decide +kernel)) rfl
theorem tw1000 : Cond.methodLink RL 36 yX8_order ∈ zT := zT_i (List.mem_of_getElem? (i := 1000) (by decide +kernel)) rfl
theorem tw1001 : Cond.instanceMethod yX8_order ∈ zT := zT_i (List.mem_of_getElem? (i := 1001) (by decide +kernel)) rfl
theorem tw1002 : Cond.selects RX8 yX8_order yX8_order ∈ zT := zT_i (List.mem_of_getElem? (i := 1002) (by decide +kernel)) rfl
theorem tw1003 : Cond.code yX8_order cX8_order 4 (some .int) ∈ zT := zT_i (List.mem_of_getElem? (i := 1003) (by decide +kernel)) rfl
theorem tw1004 : Cond.methodLink RL 40 yX8_give ∈ zT := zT_i (List.mem_of_getElem? (i := 1004) (by decide +kernel)) rfl
theorem tw1005 : Cond.instanceMethod yX8_give ∈ zT := zT_i (List.mem_of_getElem? (i := 1005) (by decide +kernel)) rfl
theorem tw1006 : Cond.selects RX8 yX8_give yX8_give ∈ zT := zT_i (List.mem_of_getElem? (i := 1006) (by decide +kernel)) rfl
theorem tw1007 : Cond.code yX8_give cX8_give 3 (some .int) ∈ zT := zT_i (List.mem_of_getElem? (i := 1007) (by decide +kernel)) rfl
theorem tw1008 : Cond.methodLink RL 44 yX8_takeBack ∈ zT := zT_i (List.mem_of_getElem? (i := 1008) (by decide +kernel)) rfl
theorem tw1009 : Cond.instanceMethod yX8_takeBack ∈ zT := zT_i (List.mem_of_getElem? (i := 1009) (by decide +kernel)) rfl
theorem tw1010 : Cond.selects RX8 yX8_takeBack yX8_takeBack ∈ zT := zT_i (List.mem_of_getElem? (i := 1010) (by decide +kernel)) rfl
theorem tw1011 : Cond.code yX8_takeBack cX8_takeBack 4 (some .int) ∈ zT := zT_i (List.mem_of_getElem? (i := 1011) (by decide +kernel)) rfl
theorem tw1012 : Cond.methodLink RL 48 yX8_limits ∈ zT := zT_i (List.mem_of_getElem? (i := 1012) (by decide +kernel)) rfl
theorem tw1013 : Cond.instanceMethod yX8_limits ∈ zT := zT_i (List.mem_of_getElem? (i := 1013) (by decide +kernel)) rfl
theorem tw1014 : Cond.selects RX8 yX8_limits yX8_limits ∈ zT := zT_i (List.mem_of_getElem? (i := 1014) (by decide +kernel)) rfl
theorem tw1015 : Cond.code yX8_limits cX8_limits 6 (some .int) ∈ zT := zT_i (List.mem_of_getElem? (i := 1015) (by decide +kernel)) rfl
theorem tw1016 : Cond.methodLink RL 52 yX8_load ∈ zT := zT_i (List.mem_of_getElem? (i := 1016) (by decide +kernel)) rfl
theorem tw1017 : Cond.instanceMethod yX8_load ∈ zT := zT_i (List.mem_of_getElem? (i := 1017) (by decide +kernel)) rfl
theorem tw1018 : Cond.selects RX8 yX8_load yX8_load ∈ zT := zT_i (List.mem_of_getElem? (i := 1018) (by decide +kernel)) rfl
theorem tw1019 : Cond.code yX8_load cX8_load 4 (some .int) ∈ zT := zT_i (List.mem_of_getElem? (i := 1019) (by decide +kernel)) rfl
theorem tw1020 : Cond.methodLink RL 56 yX8_unload ∈ zT := zT_i (List.mem_of_getElem? (i := 1020) (by decide +kernel)) rfl
theorem tw1021 : Cond.instanceMethod yX8_unload ∈ zT := zT_i (List.mem_of_getElem? (i := 1021) (by decide +kernel)) rfl
theorem tw1022 : Cond.selects RX8 yX8_unload yX8_unload ∈ zT := zT_i (List.mem_of_getElem? (i := 1022) (by decide +kernel)) rfl
theorem tw1023 : Cond.code yX8_unload cX8_unload 3 (some .int) ∈ zT := zT_i (List.mem_of_getElem? (i := 1023) (by decide +kernel)) rfl
theorem tw1024 : Cond.methodLink RL 60 yX8_leave ∈ zT := zT_i (List.mem_of_getElem? (i := 1024) (by decide +kernel)) rfl
theorem tw1025 : Cond.instanceMethod yX8_leave ∈ zT := zT_i (List.mem_of_getElem? (i := 1025) (by decide +kernel)) rfl
theorem tw1026 : Cond.selects RX8 yX8_leave yX8_leave ∈ zT := zT_i (List.mem_of_getElem? (i := 1026) (by decide +kernel)) rfl
theorem tw1027 : Cond.code yX8_leave cX8_leave 2 (some .int) ∈ zT := zT_i (List.mem_of_getElem? (i := 1027) (by decide +kernel)) rfl
theorem tw1028 : Cond.methodLink RL 64 yX8_night ∈ zT := zT_i (List.mem_of_getElem? (i := 1028) (by decide +kernel)) rfl
theorem tw1029 : Cond.instanceMethod yX8_night ∈ zT := zT_i (List.mem_of_getElem? (i := 1029) (by decide +kernel)) rfl
theorem tw1030 : Cond.selects RX8 yX8_night yX8_night ∈ zT := zT_i (List.mem_of_getElem? (i := 1030) (by decide +kernel)) rfl
theorem tw1031 : Cond.code yX8_night cX8_night 2 (some .int) ∈ zT := zT_i (List.mem_of_getElem? (i := 1031) (by decide +kernel)) rfl
theorem tw1032 : Cond.methodLink RL 68 yX8_of ∈ zT := zT_i (List.mem_of_getElem? (i := 1032) (by decide +kernel)) rfl
theorem tw1033 : Cond.instanceMethod yX8_of ∈ zT := zT_i (List.mem_of_getElem? (i := 1033) (by decide +kernel)) rfl
theorem tw1034 : Cond.selects RX8 yX8_of yX8_of ∈ zT := zT_i (List.mem_of_getElem? (i := 1034) (by decide +kernel)) rfl
theorem tw1035 : Cond.code yX8_of cX8_of 3 (some .int) ∈ zT := zT_i (List.mem_of_getElem? (i := 1035) (by decide +kernel)) rfl
theorem tw1036 : Cond.methodLink RL 72 yX8_ofOrder ∈ zT := zT_i (List.mem_of_getElem? (i := 1036) (by decide +kernel)) rfl
theorem tw1037 : Cond.instanceMethod yX8_ofOrder ∈ zT := zT_i (List.mem_of_getElem? (i := 1037) (by decide +kernel)) rfl
theorem tw1038 : Cond.selects RX8 yX8_ofOrder yX8_ofOrder ∈ zT := zT_i (List.mem_of_getElem? (i := 1038) (by decide +kernel)) rfl
theorem tw1039 : Cond.code yX8_ofOrder cX8_ofOrder 3 (some .int) ∈ zT := zT_i (List.mem_of_getElem? (i := 1039) (by decide +kernel)) rfl
theorem tw1040 : Cond.methodLink RX8 172 yX8_couldBeGiven ∈ zT := zT_i (List.mem_of_getElem? (i := 1040) (by decide +kernel)) rfl
theorem tw1042 : Cond.instanceMethod yX8_couldBeGiven ∈ zT := zT_i (List.mem_of_getElem? (i := 1042) (by decide +kernel)) rfl
theorem tw1043 : Cond.code yX8_couldBeGiven cX8_couldBeGiven 4 (some .int) ∈ zT := zT_i (List.mem_of_getElem? (i := 1043) (by decide +kernel)) rfl
theorem tw1044 : Cond.methodLink RL 76 yX8_ofLorry ∈ zT := zT_i (List.mem_of_getElem? (i := 1044) (by decide +kernel)) rfl
theorem tw1045 : Cond.instanceMethod yX8_ofLorry ∈ zT := zT_i (List.mem_of_getElem? (i := 1045) (by decide +kernel)) rfl
theorem tw1046 : Cond.selects RX8 yX8_ofLorry yX8_ofLorry ∈ zT := zT_i (List.mem_of_getElem? (i := 1046) (by decide +kernel)) rfl
theorem tw1047 : Cond.code yX8_ofLorry cX8_ofLorry 3 (some .int) ∈ zT := zT_i (List.mem_of_getElem? (i := 1047) (by decide +kernel)) rfl
theorem tw1048 : Cond.methodLink RX8 178 yX8_floatBits ∈ zT := zT_i (List.mem_of_getElem? (i := 1048) (by decide +kernel)) rfl
theorem tw1049 : Cond.static yX8_floatBits ∈ zT := zT_i (List.mem_of_getElem? (i := 1049) (by decide +kernel)) rfl
theorem tw1050 : Cond.code yX8_floatBits cX8_floatBits 3 (some .int) ∈ zT := zT_i (List.mem_of_getElem? (i := 1050) (by decide +kernel)) rfl
theorem tw1051 : Cond.constantFloat RX8 175 (1056964608) ∈ zT := zT_i (List.mem_of_getElem? (i := 1051) (by decide +kernel)) rfl
theorem tw1052 : Cond.constant RX8 176 (8388608) ∈ zT := zT_i (List.mem_of_getElem? (i := 1052) (by decide +kernel)) rfl
theorem tw1053 : Cond.constantFloat RX8 177 (1258291200) ∈ zT := zT_i (List.mem_of_getElem? (i := 1053) (by decide +kernel)) rfl
theorem tw1054 : Cond.methodLink RL 80 yX8_count ∈ zT := zT_i (List.mem_of_getElem? (i := 1054) (by decide +kernel)) rfl
theorem tw1055 : Cond.instanceMethod yX8_count ∈ zT := zT_i (List.mem_of_getElem? (i := 1055) (by decide +kernel)) rfl
theorem tw1056 : Cond.selects RX8 yX8_count yX8_count ∈ zT := zT_i (List.mem_of_getElem? (i := 1056) (by decide +kernel)) rfl
theorem tw1057 : Cond.code yX8_count cX8_count 2 (some .int) ∈ zT := zT_i (List.mem_of_getElem? (i := 1057) (by decide +kernel)) rfl
theorem tw1058 : Cond.methodLink RX8 182 yX8_setOf ∈ zT := zT_i (List.mem_of_getElem? (i := 1058) (by decide +kernel)) rfl
theorem tw1060 : Cond.instanceMethod yX8_setOf ∈ zT := zT_i (List.mem_of_getElem? (i := 1060) (by decide +kernel)) rfl
theorem tw1061 : Cond.code yX8_setOf cX8_setOf 5 (some .int) ∈ zT := zT_i (List.mem_of_getElem? (i := 1061) (by decide +kernel)) rfl
theorem tw1062 : Cond.methodLink RX8 186 yX8_notCut ∈ zT := zT_i (List.mem_of_getElem? (i := 1062) (by decide +kernel)) rfl
theorem tw1064 : Cond.instanceMethod yX8_notCut ∈ zT := zT_i (List.mem_of_getElem? (i := 1064) (by decide +kernel)) rfl
theorem tw1065 : Cond.code yX8_notCut cX8_notCut 4 (some .int) ∈ zT := zT_i (List.mem_of_getElem? (i := 1065) (by decide +kernel)) rfl
theorem tw1066 : Cond.methodLink RL 85 yX8_meanWeight ∈ zT := zT_i (List.mem_of_getElem? (i := 1066) (by decide +kernel)) rfl
theorem tw1067 : Cond.instanceMethod yX8_meanWeight ∈ zT := zT_i (List.mem_of_getElem? (i := 1067) (by decide +kernel)) rfl
theorem tw1068 : Cond.selects RX8 yX8_meanWeight yX8_meanWeight ∈ zT := zT_i (List.mem_of_getElem? (i := 1068) (by decide +kernel)) rfl
theorem tw1069 : Cond.code yX8_meanWeight cX8_meanWeight 2 (some .long) ∈ zT := zT_i (List.mem_of_getElem? (i := 1069) (by decide +kernel)) rfl
theorem tw1070 : Cond.methodLink RX8 202 yX8_bitsOf ∈ zT := zT_i (List.mem_of_getElem? (i := 1070) (by decide +kernel)) rfl
theorem tw1071 : Cond.static yX8_bitsOf ∈ zT := zT_i (List.mem_of_getElem? (i := 1071) (by decide +kernel)) rfl
theorem tw1072 : Cond.code yX8_bitsOf cX8_bitsOf 6 (some .long) ∈ zT := zT_i (List.mem_of_getElem? (i := 1072) (by decide +kernel)) rfl
theorem tw1073 : Cond.constantLong RX8 192 (1023) ∈ zT := zT_i (List.mem_of_getElem? (i := 1073) (by decide +kernel)) rfl
theorem tw1074 : Cond.constantDouble RX8 194 (4611686018427387904) ∈ zT := zT_i (List.mem_of_getElem? (i := 1074) (by decide +kernel)) rfl
theorem tw1075 : Cond.constantDouble RX8 196 (4602678819172646912) ∈ zT := zT_i (List.mem_of_getElem? (i := 1075) (by decide +kernel)) rfl
theorem tw1076 : Cond.constantLong RX8 198 (4503599627370496) ∈ zT := zT_i (List.mem_of_getElem? (i := 1076) (by decide +kernel)) rfl
theorem tw1077 : Cond.constantDouble RX8 200 (4841369599423283200) ∈ zT := zT_i (List.mem_of_getElem? (i := 1077) (by decide +kernel)) rfl
theorem tw1078 : Cond.methodLink RL 89 yX8_why ∈ zT := zT_i (List.mem_of_getElem? (i := 1078) (by decide +kernel)) rfl
theorem tw1079 : Cond.instanceMethod yX8_why ∈ zT := zT_i (List.mem_of_getElem? (i := 1079) (by decide +kernel)) rfl
theorem tw1080 : Cond.selects RX8 yX8_why yX8_why ∈ zT := zT_i (List.mem_of_getElem? (i := 1080) (by decide +kernel)) rfl
theorem tw1081 : Cond.code yX8_why cX8_why 2 (some .int) ∈ zT := zT_i (List.mem_of_getElem? (i := 1081) (by decide +kernel)) rfl
theorem tw1082 : Cond.methodLink RL 93 yX8_bestBlock ∈ zT := zT_i (List.mem_of_getElem? (i := 1082) (by decide +kernel)) rfl
theorem tw1083 : Cond.instanceMethod yX8_bestBlock ∈ zT := zT_i (List.mem_of_getElem? (i := 1083) (by decide +kernel)) rfl
theorem tw1084 : Cond.selects RX8 yX8_bestBlock yX8_bestBlock ∈ zT := zT_i (List.mem_of_getElem? (i := 1084) (by decide +kernel)) rfl
theorem tw1085 : Cond.code yX8_bestBlock cX8_bestBlock 4 (some .int) ∈ zT := zT_i (List.mem_of_getElem? (i := 1085) (by decide +kernel)) rfl
theorem tw1086 : Cond.methodLink RL 97 yX8_fittingCut ∈ zT := zT_i (List.mem_of_getElem? (i := 1086) (by decide +kernel)) rfl
theorem tw1087 : Cond.instanceMethod yX8_fittingCut ∈ zT := zT_i (List.mem_of_getElem? (i := 1087) (by decide +kernel)) rfl
theorem tw1088 : Cond.selects RX8 yX8_fittingCut yX8_fittingCut ∈ zT := zT_i (List.mem_of_getElem? (i := 1088) (by decide +kernel)) rfl
theorem tw1089 : Cond.code yX8_fittingCut cX8_fittingCut 5 (some .int) ∈ zT := zT_i (List.mem_of_getElem? (i := 1089) (by decide +kernel)) rfl
theorem tw1090 : Cond.methodLink RX8 206 yX8_isFitting ∈ zT := zT_i (List.mem_of_getElem? (i := 1090) (by decide +kernel)) rfl
theorem tw1092 : Cond.instanceMethod yX8_isFitting ∈ zT := zT_i (List.mem_of_getElem? (i := 1092) (by decide +kernel)) rfl
theorem tw1093 : Cond.code yX8_isFitting cX8_isFitting 9 (some .boolean) ∈ zT := zT_i (List.mem_of_getElem? (i := 1093) (by decide +kernel)) rfl
theorem tw1094 : Cond.methodLink RL 102 yX8_ifFrost ∈ zT := zT_i (List.mem_of_getElem? (i := 1094) (by decide +kernel)) rfl
theorem tw1095 : Cond.instanceMethod yX8_ifFrost ∈ zT := zT_i (List.mem_of_getElem? (i := 1095) (by decide +kernel)) rfl
theorem tw1096 : Cond.selects RX8 yX8_ifFrost yX8_ifFrost ∈ zT := zT_i (List.mem_of_getElem? (i := 1096) (by decide +kernel)) rfl
theorem tw1097 : Cond.code yX8_ifFrost cX8_ifFrost 3 (some .int) ∈ zT := zT_i (List.mem_of_getElem? (i := 1097) (by decide +kernel)) rfl
theorem tw1098 : Cond.methodLink RL 106 yX8_bestPlace ∈ zT := zT_i (List.mem_of_getElem? (i := 1098) (by decide +kernel)) rfl
theorem tw1099 : Cond.instanceMethod yX8_bestPlace ∈ zT := zT_i (List.mem_of_getElem? (i := 1099) (by decide +kernel)) rfl
theorem tw1100 : Cond.selects RX8 yX8_bestPlace yX8_bestPlace ∈ zT := zT_i (List.mem_of_getElem? (i := 1100) (by decide +kernel)) rfl
theorem tw1101 : Cond.code yX8_bestPlace cX8_bestPlace 6 (some .int) ∈ zT := zT_i (List.mem_of_getElem? (i := 1101) (by decide +kernel)) rfl
theorem tw1102 : Cond.methodLink RX8 210 yX8_share ∈ zT := zT_i (List.mem_of_getElem? (i := 1102) (by decide +kernel)) rfl
theorem tw1104 : Cond.instanceMethod yX8_share ∈ zT := zT_i (List.mem_of_getElem? (i := 1104) (by decide +kernel)) rfl
theorem tw1105 : Cond.code yX8_share cX8_share 6 (some .float) ∈ zT := zT_i (List.mem_of_getElem? (i := 1105) (by decide +kernel)) rfl
theorem tw1106 : Cond.methodLink RL 113 yX8_put ∈ zT := zT_i (List.mem_of_getElem? (i := 1106) (by decide +kernel)) rfl
theorem tw1107 : Cond.instanceMethod yX8_put ∈ zT := zT_i (List.mem_of_getElem? (i := 1107) (by decide +kernel)) rfl
theorem tw1108 : Cond.selects RX8 yX8_put yX8_put ∈ zT := zT_i (List.mem_of_getElem? (i := 1108) (by decide +kernel)) rfl
theorem tw1109 : Cond.code yX8_put cX8_put 8 (some .int) ∈ zT := zT_i (List.mem_of_getElem? (i := 1109) (by decide +kernel)) rfl
theorem tw1110 : Cond.constantLong RX8 214 (255) ∈ zT := zT_i (List.mem_of_getElem? (i := 1110) (by decide +kernel)) rfl
theorem tw1111 : Cond.methodLink RL 117 yX8_wipe ∈ zT := zT_i (List.mem_of_getElem? (i := 1111) (by decide +kernel)) rfl
theorem tw1112 : Cond.instanceMethod yX8_wipe ∈ zT := zT_i (List.mem_of_getElem? (i := 1112) (by decide +kernel)) rfl
theorem tw1113 : Cond.selects RX8 yX8_wipe yX8_wipe ∈ zT := zT_i (List.mem_of_getElem? (i := 1113) (by decide +kernel)) rfl
theorem tw1114 : Cond.code yX8_wipe cX8_wipe 2 (some .int) ∈ zT := zT_i (List.mem_of_getElem? (i := 1114) (by decide +kernel)) rfl
theorem tw1115 : Cond.methodLink RL 121 yX8_fault ∈ zT := zT_i (List.mem_of_getElem? (i := 1115) (by decide +kernel)) rfl
theorem tw1116 : Cond.instanceMethod yX8_fault ∈ zT := zT_i (List.mem_of_getElem? (i := 1116) (by decide +kernel)) rfl
theorem tw1117 : Cond.selects RX8 yX8_fault yX8_fault ∈ zT := zT_i (List.mem_of_getElem? (i := 1117) (by decide +kernel)) rfl
theorem tw1118 : Cond.code yX8_fault cX8_fault 2 (some .int) ∈ zT := zT_i (List.mem_of_getElem? (i := 1118) (by decide +kernel)) rfl
theorem tw1119 : Cond.methodLink RX8 238 yX8_goes ∈ zT := zT_i (List.mem_of_getElem? (i := 1119) (by decide +kernel)) rfl
theorem tw1121 : Cond.instanceMethod yX8_goes ∈ zT := zT_i (List.mem_of_getElem? (i := 1121) (by decide +kernel)) rfl
theorem tw1122 : Cond.code yX8_goes cX8_goes 6 (some .int) ∈ zT := zT_i (List.mem_of_getElem? (i := 1122) (by decide +kernel)) rfl
theorem tw1123 : Cond.methodLink RX8 235 yX8_readOrder ∈ zT := zT_i (List.mem_of_getElem? (i := 1123) (by decide +kernel)) rfl
theorem tw1125 : Cond.instanceMethod yX8_readOrder ∈ zT := zT_i (List.mem_of_getElem? (i := 1125) (by decide +kernel)) rfl
theorem tw1126 : Cond.code yX8_readOrder cX8_readOrder 5 none ∈ zT := zT_i (List.mem_of_getElem? (i := 1126) (by decide +kernel)) rfl
theorem tw1127 : Cond.methodLink RX8 226 yX8_isNext ∈ zT := zT_i (List.mem_of_getElem? (i := 1127) (by decide +kernel)) rfl
theorem tw1129 : Cond.instanceMethod yX8_isNext ∈ zT := zT_i (List.mem_of_getElem? (i := 1129) (by decide +kernel)) rfl
theorem tw1130 : Cond.code yX8_isNext cX8_isNext 3 (some .boolean) ∈ zT := zT_i (List.mem_of_getElem? (i := 1130) (by decide +kernel)) rfl
theorem tw1131 : Cond.methodLink RX8 223 yX8_takes ∈ zT := zT_i (List.mem_of_getElem? (i := 1131) (by decide +kernel)) rfl
theorem tw1133 : Cond.instanceMethod yX8_takes ∈ zT := zT_i (List.mem_of_getElem? (i := 1133) (by decide +kernel)) rfl
theorem tw1134 : Cond.code yX8_takes cX8_takes 4 (some .int) ∈ zT := zT_i (List.mem_of_getElem? (i := 1134) (by decide +kernel)) rfl
theorem tw1135 : Cond.methodLink RX8 229 yX8_takesNumber ∈ zT := zT_i (List.mem_of_getElem? (i := 1135) (by decide +kernel)) rfl
theorem tw1137 : Cond.instanceMethod yX8_takesNumber ∈ zT := zT_i (List.mem_of_getElem? (i := 1137) (by decide +kernel)) rfl
theorem tw1138 : Cond.code yX8_takesNumber cX8_takesNumber 3 (some .int) ∈ zT := zT_i (List.mem_of_getElem? (i := 1138) (by decide +kernel)) rfl
theorem tw1139 : Cond.methodLink RX8 232 yX8_takesBehind ∈ zT := zT_i (List.mem_of_getElem? (i := 1139) (by decide +kernel)) rfl
theorem tw1141 : Cond.instanceMethod yX8_takesBehind ∈ zT := zT_i (List.mem_of_getElem? (i := 1141) (by decide +kernel)) rfl
theorem tw1142 : Cond.code yX8_takesBehind cX8_takesBehind 3 (some .int) ∈ zT := zT_i (List.mem_of_getElem? (i := 1142) (by decide +kernel)) rfl
theorem tw1143 : Cond.methodLink RL 125 yX8_carryOut ∈ zT := zT_i (List.mem_of_getElem? (i := 1143) (by decide +kernel)) rfl
theorem tw1144 : Cond.instanceMethod yX8_carryOut ∈ zT := zT_i (List.mem_of_getElem? (i := 1144) (by decide +kernel)) rfl
theorem tw1145 : Cond.selects RX8 yX8_carryOut yX8_carryOut ∈ zT := zT_i (List.mem_of_getElem? (i := 1145) (by decide +kernel)) rfl
theorem tw1146 : Cond.code yX8_carryOut cX8_carryOut 3 (some .int) ∈ zT := zT_i (List.mem_of_getElem? (i := 1146) (by decide +kernel)) rfl
theorem tw1147 : Cond.methodLink RL 129 yX8_undo ∈ zT := zT_i (List.mem_of_getElem? (i := 1147) (by decide +kernel)) rfl
theorem tw1148 : Cond.instanceMethod yX8_undo ∈ zT := zT_i (List.mem_of_getElem? (i := 1148) (by decide +kernel)) rfl
theorem tw1149 : Cond.selects RX8 yX8_undo yX8_undo ∈ zT := zT_i (List.mem_of_getElem? (i := 1149) (by decide +kernel)) rfl
theorem tw1150 : Cond.code yX8_undo cX8_undo 2 (some .int) ∈ zT := zT_i (List.mem_of_getElem? (i := 1150) (by decide +kernel)) rfl
theorem tw1151 : Cond.methodLink RL 133 yX8_save ∈ zT := zT_i (List.mem_of_getElem? (i := 1151) (by decide +kernel)) rfl
theorem tw1152 : Cond.instanceMethod yX8_save ∈ zT := zT_i (List.mem_of_getElem? (i := 1152) (by decide +kernel)) rfl
theorem tw1153 : Cond.selects RX8 yX8_save yX8_save ∈ zT := zT_i (List.mem_of_getElem? (i := 1153) (by decide +kernel)) rfl
theorem tw1154 : Cond.code yX8_save cX8_save 3 (some .int) ∈ zT := zT_i (List.mem_of_getElem? (i := 1154) (by decide +kernel)) rfl
theorem tw1155 : Cond.methodLink RL 137 yX8_restore ∈ zT := zT_i (List.mem_of_getElem? (i := 1155) (by decide +kernel)) rfl
theorem tw1156 : Cond.instanceMethod yX8_restore ∈ zT := zT_i (List.mem_of_getElem? (i := 1156) (by decide +kernel)) rfl
theorem tw1157 : Cond.selects RX8 yX8_restore yX8_restore ∈ zT := zT_i (List.mem_of_getElem? (i := 1157) (by decide +kernel)) rfl
theorem tw1158 : Cond.code yX8_restore cX8_restore 3 (some .int) ∈ zT := zT_i (List.mem_of_getElem? (i := 1158) (by decide +kernel)) rfl
theorem tw1159 : Cond.constantLong RL 107 (4294967295) ∈ zT := zT_i (List.mem_of_getElem? (i := 1159) (by decide +kernel)) rfl
theorem tw1160 : Cond.fieldLink RJ0 9 "java/lang/String" "value" "[B" ∈ zT := zT_i (List.mem_of_getElem? (i := 1160) (by decide +kernel)) rfl
theorem tw1161 : Cond.fieldLink RJ0 15 "java/lang/String" "coder" "B" ∈ zT := zT_i (List.mem_of_getElem? (i := 1161) (by decide +kernel)) rfl
theorem mi_X7_init : zMI yX7_init cX7_init 1 0 := ⟨⟨tw79, tw60, tw80, rfl⟩, by decide +kernel⟩
theorem mi_X5_init : zMI yX5_init cX5_init 2 0 := ⟨⟨tw87, tw61, tw88, rfl⟩, by decide +kernel⟩
theorem mv_X5_setCell : zMV yX5_setCell RX5 cX5_setCell 3 none 2 := ⟨⟨tw91, tw92, tw61, tw93⟩, by decide +kernel⟩
theorem mv_X5_setLorryCell : zMV yX5_setLorryCell RX5 cX5_setLorryCell 4 none 3 := ⟨⟨tw95, tw96, tw61, tw97⟩, by decide +kernel⟩
theorem mi_X1_init : zMI yX1_init cX1_init 2 1 := ⟨⟨tw106, tw62, tw107, rfl⟩, by decide +kernel⟩
theorem mi_X6_init : zMI yX6_init cX6_init 3 2 := ⟨⟨tw116, tw63, tw117, rfl⟩, by decide +kernel⟩
theorem mi_X2_init : zMI yX2_init cX2_init 1 0 := ⟨⟨tw129, tw64, tw130, rfl⟩, by decide +kernel⟩
theorem mi_X4_init : zMI yX4_init cX4_init 1 0 := ⟨⟨tw147, tw65, tw148, rfl⟩, by decide +kernel⟩
theorem mi_X3_init : zMI yX3_init cX3_init 1 0 := ⟨⟨tw162, tw66, tw163, rfl⟩, by decide +kernel⟩
theorem mv_X7_set : zMV yX7_set RX7 cX7_set 3 (some .int) 2 := ⟨⟨tw208, tw209, tw60, tw210⟩, by decide +kernel⟩
theorem mv_X2_note : zMV yX2_note RX2 cX2_note 2 none 1 := ⟨⟨tw212, tw213, tw64, tw214⟩, by decide +kernel⟩
theorem mv_X2_nextRow : zMV yX2_nextRow RX2 cX2_nextRow 1 (some (.array .int)) 0 := ⟨⟨tw217, tw0, tw64, tw218⟩, by decide +kernel⟩
theorem mv_X5_copyTo : zMV yX5_copyTo RX5 cX5_copyTo 2 none 1 := ⟨⟨tw220, tw221, tw61, tw222⟩, by decide +kernel⟩
theorem ms_X7_copyRow : zMS yX7_copyRow cX7_copyRow 2 none 2 := ⟨⟨tw224, tw60, tw225⟩, by decide +kernel⟩
theorem mv_X6_changeSetting : zMV yX6_changeSetting RX6 cX6_changeSetting 4 (some .int) 2 := ⟨⟨tw230, tw231, tw63, tw232⟩, by decide +kernel⟩
theorem mv_X5_cell : zMV yX5_cell RX5 cX5_cell 2 (some .int) 1 := ⟨⟨tw238, tw239, tw61, tw240⟩, by decide +kernel⟩
theorem mv_X2_settle : zMV yX2_settle RX2 cX2_settle 2 (some .int) 1 := ⟨⟨tw243, tw244, tw64, tw245⟩, by decide +kernel⟩
theorem ms_J9_min_7cf53 : zMS yJ9_min_7cf53 cJ9_min_7cf53 2 (some .int) 2 := ⟨⟨tw247, tw69, tw248⟩, by decide +kernel⟩
theorem mv_X7_quarry : zMV yX7_quarry RX7 cX7_quarry 5 (some .int) 4 := ⟨⟨tw250, tw251, tw60, tw252⟩, by decide +kernel⟩
theorem mv_X6_quarryBlock : zMV yX6_quarryBlock RX6 cX6_quarryBlock 5 (some .int) 4 := ⟨⟨tw254, tw255, tw63, tw256⟩, by decide +kernel⟩
theorem ms_X7_isSize : zMS yX7_isSize cX7_isSize 1 (some .boolean) 1 := ⟨⟨tw258, tw60, tw259⟩, by decide +kernel⟩
theorem mv_X6_addBlock : zMV yX6_addBlock RX6 cX6_addBlock 6 (some .int) 4 := ⟨⟨tw262, tw1, tw63, tw263⟩, by decide +kernel⟩
theorem mv_X5_setBlockCell : zMV yX5_setBlockCell RX5 cX5_setBlockCell 4 none 3 := ⟨⟨tw265, tw266, tw61, tw267⟩, by decide +kernel⟩
theorem mv_X7_cut : zMV yX7_cut RX7 cX7_cut 4 (some .int) 3 := ⟨⟨tw269, tw270, tw60, tw271⟩, by decide +kernel⟩
theorem mv_X6_cutBlock : zMV yX6_cutBlock RX6 cX6_cutBlock 7 (some .int) 3 := ⟨⟨tw273, tw274, tw63, tw275⟩, by decide +kernel⟩
theorem mv_X5_hasBlock : zMV yX5_hasBlock RX5 cX5_hasBlock 2 (some .boolean) 1 := ⟨⟨tw277, tw278, tw61, tw279⟩, by decide +kernel⟩
theorem mv_X5_blockCell : zMV yX5_blockCell RX5 cX5_blockCell 4 (some .int) 2 := ⟨⟨tw282, tw283, tw61, tw284⟩, by decide +kernel⟩
theorem mv_X1_mayBeSawn : zMV yX1_mayBeSawn RX1 cX1_mayBeSawn 2 (some .boolean) 1 := ⟨⟨tw286, tw287, tw62, tw288⟩, by decide +kernel⟩
theorem mv_X1_isAtHand : zMV yX1_isAtHand RX1 cX1_isAtHand 3 (some .boolean) 1 := ⟨⟨tw291, tw292, tw62, tw293⟩, by decide +kernel⟩
theorem mv_X6_addPiece : zMV yX6_addPiece RX6 cX6_addPiece 9 (some .int) 4 := ⟨⟨tw297, tw2, tw63, tw298⟩, by decide +kernel⟩
theorem mv_X1_roofHasRoom : zMV yX1_roofHasRoom RX1 cX1_roofHasRoom 1 (some .boolean) 0 := ⟨⟨tw300, tw301, tw62, tw302⟩, by decide +kernel⟩
theorem mv_X5_blocksWith : zMV yX5_blocksWith RX5 cX5_blocksWith 6 (some .int) 2 := ⟨⟨tw304, tw305, tw61, tw306⟩, by decide +kernel⟩
theorem ms_J6_bitCount_0f7a4 : zMS yJ6_bitCount_0f7a4 cJ6_bitCount_0f7a4 1 (some .int) 1 := ⟨⟨tw309, tw70, tw310⟩, by decide +kernel⟩
theorem mv_X7_shelter : zMV yX7_shelter RX7 cX7_shelter 2 (some .int) 1 := ⟨⟨tw315, tw316, tw60, tw317⟩, by decide +kernel⟩
theorem mv_X6_moveBlock : zMV yX6_moveBlock RX6 cX6_moveBlock 3 (some .int) 1 := ⟨⟨tw319, tw320, tw63, tw321⟩, by decide +kernel⟩
theorem mv_X7_order : zMV yX7_order RX7 cX7_order 4 (some .int) 3 := ⟨⟨tw324, tw325, tw60, tw326⟩, by decide +kernel⟩
theorem mv_X6_takeOrder : zMV yX6_takeOrder RX6 cX6_takeOrder 5 (some .int) 3 := ⟨⟨tw328, tw329, tw63, tw330⟩, by decide +kernel⟩
theorem ms_X7_greatestOf : zMS yX7_greatestOf cX7_greatestOf 3 (some .int) 3 := ⟨⟨tw332, tw60, tw333⟩, by decide +kernel⟩
theorem ms_J9_max_7cf53 : zMS yJ9_max_7cf53 cJ9_max_7cf53 2 (some .int) 2 := ⟨⟨tw335, tw69, tw336⟩, by decide +kernel⟩
theorem mv_X5_setOrderCell : zMV yX5_setOrderCell RX5 cX5_setOrderCell 4 none 3 := ⟨⟨tw338, tw339, tw61, tw340⟩, by decide +kernel⟩
theorem ms_X7_middleOf : zMS yX7_middleOf cX7_middleOf 3 (some .int) 3 := ⟨⟨tw342, tw60, tw343⟩, by decide +kernel⟩
theorem ms_X7_leastOf : zMS yX7_leastOf cX7_leastOf 3 (some .int) 3 := ⟨⟨tw346, tw60, tw347⟩, by decide +kernel⟩
theorem mv_X7_give : zMV yX7_give RX7 cX7_give 3 (some .int) 2 := ⟨⟨tw351, tw352, tw60, tw353⟩, by decide +kernel⟩
theorem mv_X6_giveBlock : zMV yX6_giveBlock RX6 cX6_giveBlock 4 (some .int) 2 := ⟨⟨tw355, tw356, tw63, tw357⟩, by decide +kernel⟩
theorem mv_X5_hasOrder : zMV yX5_hasOrder RX5 cX5_hasOrder 2 (some .boolean) 1 := ⟨⟨tw359, tw360, tw61, tw361⟩, by decide +kernel⟩
theorem mv_X1_surplusToGive : zMV yX1_surplusToGive RX1 cX1_surplusToGive 4 (some .int) 2 := ⟨⟨tw363, tw364, tw62, tw365⟩, by decide +kernel⟩
theorem mv_X5_orderCell : zMV yX5_orderCell RX5 cX5_orderCell 3 (some .int) 2 := ⟨⟨tw367, tw368, tw61, tw369⟩, by decide +kernel⟩
theorem mv_X1_surplus : zMV yX1_surplus RX1 cX1_surplus 9 (some .int) 4 := ⟨⟨tw371, tw372, tw62, tw373⟩, by decide +kernel⟩
theorem mv_X1_isWithinOver : zMV yX1_isWithinOver RX1 cX1_isWithinOver 2 (some .boolean) 1 := ⟨⟨tw379, tw3, tw62, tw380⟩, by decide +kernel⟩
theorem mv_X7_takeBack : zMV yX7_takeBack RX7 cX7_takeBack 2 (some .int) 1 := ⟨⟨tw382, tw383, tw60, tw384⟩, by decide +kernel⟩
theorem mv_X6_takeBlockAway : zMV yX6_takeBlockAway RX6 cX6_takeBlockAway 3 (some .int) 1 := ⟨⟨tw386, tw387, tw63, tw388⟩, by decide +kernel⟩
theorem mv_X7_limits : zMV yX7_limits RX7 cX7_limits 5 (some .int) 4 := ⟨⟨tw391, tw392, tw60, tw393⟩, by decide +kernel⟩
theorem mv_X6_changeLimits : zMV yX6_changeLimits RX6 cX6_changeLimits 5 (some .int) 4 := ⟨⟨tw395, tw396, tw63, tw397⟩, by decide +kernel⟩
theorem ms_X7_isLorry : zMS yX7_isLorry cX7_isLorry 1 (some .boolean) 1 := ⟨⟨tw399, tw60, tw400⟩, by decide +kernel⟩
theorem ms_X6_isLimit : zMS yX6_isLimit cX6_isLimit 1 (some .boolean) 1 := ⟨⟨tw402, tw63, tw403⟩, by decide +kernel⟩
theorem mv_X7_load : zMV yX7_load RX7 cX7_load 4 (some .int) 3 := ⟨⟨tw406, tw407, tw60, tw408⟩, by decide +kernel⟩
theorem mv_X6_loadBlock : zMV yX6_loadBlock RX6 cX6_loadBlock 4 (some .int) 3 := ⟨⟨tw410, tw411, tw63, tw412⟩, by decide +kernel⟩
theorem mv_X1_isFree : zMV yX1_isFree RX1 cX1_isFree 3 (some .boolean) 2 := ⟨⟨tw414, tw415, tw62, tw416⟩, by decide +kernel⟩
theorem mv_X1_loadOf : zMV yX1_loadOf RX1 cX1_loadOf 2 (some .int) 1 := ⟨⟨tw418, tw419, tw62, tw420⟩, by decide +kernel⟩
theorem mv_X1_blocksOn : zMV yX1_blocksOn RX1 cX1_blocksOn 4 (some .int) 1 := ⟨⟨tw422, tw423, tw62, tw424⟩, by decide +kernel⟩
theorem mv_X1_weightOf : zMV yX1_weightOf RX1 cX1_weightOf 5 (some .int) 1 := ⟨⟨tw426, tw427, tw62, tw428⟩, by decide +kernel⟩
theorem mv_X7_unload : zMV yX7_unload RX7 cX7_unload 2 (some .int) 1 := ⟨⟨tw430, tw431, tw60, tw432⟩, by decide +kernel⟩
theorem mv_X6_unloadBlock : zMV yX6_unloadBlock RX6 cX6_unloadBlock 3 (some .int) 1 := ⟨⟨tw434, tw435, tw63, tw436⟩, by decide +kernel⟩
theorem mv_X7_leave : zMV yX7_leave RX7 cX7_leave 2 (some .int) 1 := ⟨⟨tw438, tw439, tw60, tw440⟩, by decide +kernel⟩
theorem mv_X6_sendLorry : zMV yX6_sendLorry RX6 cX6_sendLorry 5 (some .int) 1 := ⟨⟨tw442, tw443, tw63, tw444⟩, by decide +kernel⟩
theorem mv_X1_reasonToStay : zMV yX1_reasonToStay RX1 cX1_reasonToStay 3 (some .int) 1 := ⟨⟨tw446, tw447, tw62, tw448⟩, by decide +kernel⟩
theorem mv_X5_lorryCell : zMV yX5_lorryCell RX5 cX5_lorryCell 3 (some .int) 2 := ⟨⟨tw450, tw451, tw61, tw452⟩, by decide +kernel⟩
theorem mv_X1_front : zMV yX1_front RX1 cX1_front 6 (some .float) 3 := ⟨⟨tw454, tw455, tw62, tw456⟩, by decide +kernel⟩
theorem mv_X1_weightAt : zMV yX1_weightAt RX1 cX1_weightAt 8 (some .float) 4 := ⟨⟨tw459, tw4, tw62, tw460⟩, by decide +kernel⟩
theorem mv_X1_rear : zMV yX1_rear RX1 cX1_rear 6 (some .float) 3 := ⟨⟨tw463, tw464, tw62, tw465⟩, by decide +kernel⟩
theorem mv_X6_deliver : zMV yX6_deliver RX6 cX6_deliver 4 (some .int) 1 := ⟨⟨tw469, tw5, tw63, tw470⟩, by decide +kernel⟩
theorem mv_X7_night : zMV yX7_night RX7 cX7_night 2 (some .int) 1 := ⟨⟨tw473, tw474, tw60, tw475⟩, by decide +kernel⟩
theorem mv_X6_passNight : zMV yX6_passNight RX6 cX6_passNight 5 (some .int) 1 := ⟨⟨tw477, tw478, tw63, tw479⟩, by decide +kernel⟩
theorem mv_X6_crackBlocks : zMV yX6_crackBlocks RX6 cX6_crackBlocks 3 (some .int) 0 := ⟨⟨tw482, tw6, tw63, tw483⟩, by decide +kernel⟩
theorem mv_X1_blocksForFrost : zMV yX1_blocksForFrost RX1 cX1_blocksForFrost 1 (some .int) 0 := ⟨⟨tw485, tw486, tw62, tw487⟩, by decide +kernel⟩
theorem mv_X6_dryBlocks : zMV yX6_dryBlocks RX6 cX6_dryBlocks 5 none 0 := ⟨⟨tw492, tw7, tw63, tw493⟩, by decide +kernel⟩
theorem mv_X7_of : zMV yX7_of RX7 cX7_of 3 (some .int) 2 := ⟨⟨tw495, tw496, tw60, tw497⟩, by decide +kernel⟩
theorem mv_X7_ofOrder : zMV yX7_ofOrder RX7 cX7_ofOrder 3 (some .int) 2 := ⟨⟨tw501, tw502, tw60, tw503⟩, by decide +kernel⟩
theorem mv_X1_blocksToGive : zMV yX1_blocksToGive RX1 cX1_blocksToGive 5 (some .int) 1 := ⟨⟨tw506, tw507, tw62, tw508⟩, by decide +kernel⟩
theorem mv_X7_ofLorry : zMV yX7_ofLorry RX7 cX7_ofLorry 3 (some .int) 2 := ⟨⟨tw512, tw513, tw60, tw514⟩, by decide +kernel⟩
theorem ms_X0_ofFloat : zMS yX0_ofFloat cX0_ofFloat 4 (some .int) 1 := ⟨⟨tw519, tw71, tw520⟩, by decide +kernel⟩
theorem mv_X7_count : zMV yX7_count RX7 cX7_count 2 (some .int) 1 := ⟨⟨tw526, tw527, tw60, tw528⟩, by decide +kernel⟩
theorem mv_X1_uncutBlocks : zMV yX1_uncutBlocks RX1 cX1_uncutBlocks 2 (some .int) 0 := ⟨⟨tw532, tw533, tw62, tw534⟩, by decide +kernel⟩
theorem mv_X1_quarriedWeight : zMV yX1_quarriedWeight RX1 cX1_quarriedWeight 1 (some .int) 0 := ⟨⟨tw536, tw537, tw62, tw538⟩, by decide +kernel⟩
theorem mv_X1_uncutWeight : zMV yX1_uncutWeight RX1 cX1_uncutWeight 1 (some .int) 0 := ⟨⟨tw540, tw541, tw62, tw542⟩, by decide +kernel⟩
theorem mv_X1_lostWeight : zMV yX1_lostWeight RX1 cX1_lostWeight 1 (some .int) 0 := ⟨⟨tw545, tw546, tw62, tw547⟩, by decide +kernel⟩
theorem mv_X1_allInvoices : zMV yX1_allInvoices RX1 cX1_allInvoices 4 (some .int) 0 := ⟨⟨tw552, tw553, tw62, tw554⟩, by decide +kernel⟩
theorem mv_X3_length : zMV yX3_length RX3 cX3_length 1 (some .int) 0 := ⟨⟨tw556, tw557, tw66, tw558⟩, by decide +kernel⟩
theorem mv_X2_size : zMV yX2_size RX2 cX2_size 1 (some .int) 0 := ⟨⟨tw560, tw561, tw64, tw562⟩, by decide +kernel⟩
theorem mv_X7_meanWeight : zMV yX7_meanWeight RX7 cX7_meanWeight 2 (some .long) 0 := ⟨⟨tw564, tw565, tw60, tw566⟩, by decide +kernel⟩
theorem ms_X0_ofDouble : zMS yX0_ofDouble cX0_ofDouble 7 (some .long) 1 := ⟨⟨tw569, tw71, tw570⟩, by decide +kernel⟩
theorem mv_X7_why : zMV yX7_why RX7 cX7_why 2 (some .int) 1 := ⟨⟨tw575, tw576, tw60, tw577⟩, by decide +kernel⟩
theorem mv_X7_bestBlock : zMV yX7_bestBlock RX7 cX7_bestBlock 2 (some .int) 1 := ⟨⟨tw580, tw581, tw60, tw582⟩, by decide +kernel⟩
theorem mv_X1_nearestBlock : zMV yX1_nearestBlock RX1 cX1_nearestBlock 7 (some .int) 1 := ⟨⟨tw584, tw585, tw62, tw586⟩, by decide +kernel⟩
theorem mv_X7_fittingCut : zMV yX7_fittingCut RX7 cX7_fittingCut 6 (some .int) 3 := ⟨⟨tw588, tw589, tw60, tw590⟩, by decide +kernel⟩
theorem mv_X1_fittingLength : zMV yX1_fittingLength RX1 cX1_fittingLength 10 (some .int) 3 := ⟨⟨tw593, tw594, tw62, tw595⟩, by decide +kernel⟩
theorem mv_X7_ifFrost : zMV yX7_ifFrost RX7 cX7_ifFrost 1 (some .int) 0 := ⟨⟨tw597, tw598, tw60, tw599⟩, by decide +kernel⟩
theorem mv_X7_bestPlace : zMV yX7_bestPlace RX7 cX7_bestPlace 3 (some .int) 2 := ⟨⟨tw602, tw603, tw60, tw604⟩, by decide +kernel⟩
theorem mv_X1_easiestPlace : zMV yX1_easiestPlace RX1 cX1_easiestPlace 8 (some .int) 2 := ⟨⟨tw607, tw608, tw62, tw609⟩, by decide +kernel⟩
theorem mv_X1_greaterShare : zMV yX1_greaterShare RX1 cX1_greaterShare 6 (some .float) 3 := ⟨⟨tw613, tw8, tw62, tw614⟩, by decide +kernel⟩
theorem ms_X1_shareOf : zMS yX1_shareOf cX1_shareOf 2 (some .float) 2 := ⟨⟨tw616, tw62, tw617⟩, by decide +kernel⟩
theorem mv_X7_put : zMV yX7_put RX7 cX7_put 3 (some .int) 1 := ⟨⟨tw619, tw620, tw60, tw621⟩, by decide +kernel⟩
theorem mv_X3_append : zMV yX3_append RX3 cX3_append 5 (some .int) 1 := ⟨⟨tw623, tw624, tw66, tw625⟩, by decide +kernel⟩
theorem ms_X3_code : zMS yX3_code cX3_code 3 (some .int) 2 := ⟨⟨tw627, tw66, tw628⟩, by decide +kernel⟩
theorem mv_X7_wipe : zMV yX7_wipe RX7 cX7_wipe 1 (some .int) 0 := ⟨⟨tw631, tw632, tw60, tw633⟩, by decide +kernel⟩
theorem mv_X3_clear : zMV yX3_clear RX3 cX3_clear 2 (some .int) 0 := ⟨⟨tw635, tw636, tw66, tw637⟩, by decide +kernel⟩
theorem mv_X7_fault : zMV yX7_fault RX7 cX7_fault 1 (some .int) 0 := ⟨⟨tw639, tw640, tw60, tw641⟩, by decide +kernel⟩
theorem mv_X3_findFault : zMV yX3_findFault RX3 cX3_findFault 2 (some .int) 0 := ⟨⟨tw643, tw644, tw66, tw645⟩, by decide +kernel⟩
theorem mv_X3_rewind : zMV yX3_rewind RX3 cX3_rewind 1 none 0 := ⟨⟨tw647, tw648, tw66, tw649⟩, by decide +kernel⟩
theorem mv_X3_readOrder : zMV yX3_readOrder RX3 cX3_readOrder 3 (some .boolean) 0 := ⟨⟨tw651, tw652, tw66, tw653⟩, by decide +kernel⟩
theorem mv_X3_take : zMV yX3_take RX3 cX3_take 2 (some .boolean) 1 := ⟨⟨tw656, tw9, tw66, tw657⟩, by decide +kernel⟩
theorem mv_X3_sign : zMV yX3_sign RX3 cX3_sign 1 (some .int) 0 := ⟨⟨tw660, tw10, tw66, tw661⟩, by decide +kernel⟩
theorem ms_X3_partsOf : zMS yX3_partsOf cX3_partsOf 1 (some (.object "java/lang/String")) 1 := ⟨⟨tw663, tw66, tw664⟩, by decide +kernel⟩
theorem mv_J0_isEmpty_aae02 : zMV yJ0_isEmpty_aae02 RJ0 cJ0_isEmpty_aae02 1 (some .boolean) 0 := ⟨⟨tw674, tw675, tw72, tw676⟩, by decide +kernel⟩
theorem mv_J0_length_8abf5 : zMV yJ0_length_8abf5 RJ0 cJ0_length_8abf5 1 (some .int) 0 := ⟨⟨tw678, tw679, tw72, tw680⟩, by decide +kernel⟩
theorem mv_J0_coder_7d493 : zMV yJ0_coder_7d493 RJ0 cJ0_coder_7d493 1 (some .byte) 0 := ⟨⟨tw682, tw683, tw72, tw684⟩, by decide +kernel⟩
theorem mv_J0_charAt_5068e : zMV yJ0_charAt_5068e RJ0 cJ0_charAt_5068e 2 (some .char) 1 := ⟨⟨tw688, tw689, tw72, tw690⟩, by decide +kernel⟩
theorem mv_J0_isLatin1_aae02 : zMV yJ0_isLatin1_aae02 RJ0 cJ0_isLatin1_aae02 1 (some .boolean) 0 := ⟨⟨tw692, tw693, tw72, tw694⟩, by decide +kernel⟩
theorem ms_J1_charAt_3b067 : zMS yJ1_charAt_3b067 cJ1_charAt_3b067 2 (some .char) 2 := ⟨⟨tw696, tw73, tw697⟩, by decide +kernel⟩
theorem ms_J0_checkIndex_df160 : zMS yJ0_checkIndex_df160 cJ0_checkIndex_df160 2 none 2 := ⟨⟨tw699, tw72, tw700⟩, by decide +kernel⟩
theorem ms_J3_checkIndex_8e157 : zMS yJ3_checkIndex_8e157 cJ3_checkIndex_8e157 3 (some .int) 3 := ⟨⟨tw704, tw74, tw705⟩, by decide +kernel⟩
theorem ms_J2_charAt_3b067 : zMS yJ2_charAt_3b067 cJ2_charAt_3b067 2 (some .char) 2 := ⟨⟨tw707, tw75, tw708⟩, by decide +kernel⟩
theorem ms_J2_checkIndex_2214a : zMS yJ2_checkIndex_2214a cJ2_checkIndex_2214a 2 none 2 := ⟨⟨tw710, tw75, tw711⟩, by decide +kernel⟩
theorem ms_J2_length_9d52b : zMS yJ2_length_9d52b cJ2_length_9d52b 1 (some .int) 1 := ⟨⟨tw713, tw75, tw714⟩, by decide +kernel⟩
theorem ms_J2_getChar_3b067 : zMS yJ2_getChar_3b067 cJ2_getChar_3b067 2 (some .char) 2 := ⟨⟨tw717, tw75, tw718⟩, by decide +kernel⟩
theorem mv_X3_readPart : zMV yX3_readPart RX3 cX3_readPart 2 (some .boolean) 1 := ⟨⟨tw727, tw11, tw66, tw728⟩, by decide +kernel⟩
theorem mv_X3_readNumber : zMV yX3_readNumber RX3 cX3_readNumber 4 (some .boolean) 1 := ⟨⟨tw731, tw12, tw66, tw732⟩, by decide +kernel⟩
theorem mv_X7_carryOut : zMV yX7_carryOut RX7 cX7_carryOut 2 (some .int) 0 := ⟨⟨tw735, tw736, tw60, tw737⟩, by decide +kernel⟩
theorem mv_X7_carryOrder : zMV yX7_carryOrder RX7 cX7_carryOrder 1 (some .int) 0 := ⟨⟨tw742, tw13, tw60, tw743⟩, by decide +kernel⟩
theorem mv_X3_kind : zMV yX3_kind RX3 cX3_kind 1 (some .int) 0 := ⟨⟨tw745, tw746, tw66, tw747⟩, by decide +kernel⟩
theorem mv_X3_number : zMV yX3_number RX3 cX3_number 2 (some .int) 1 := ⟨⟨tw749, tw750, tw66, tw751⟩, by decide +kernel⟩
theorem mv_X7_undo : zMV yX7_undo RX7 cX7_undo 1 (some .int) 0 := ⟨⟨tw753, tw754, tw60, tw755⟩, by decide +kernel⟩
theorem mv_X2_goBack : zMV yX2_goBack RX2 cX2_goBack 2 (some .int) 1 := ⟨⟨tw757, tw758, tw64, tw759⟩, by decide +kernel⟩
theorem mv_X5_copyFrom : zMV yX5_copyFrom RX5 cX5_copyFrom 2 none 1 := ⟨⟨tw761, tw762, tw61, tw763⟩, by decide +kernel⟩
theorem mv_X7_save : zMV yX7_save RX7 cX7_save 2 (some .int) 1 := ⟨⟨tw765, tw766, tw60, tw767⟩, by decide +kernel⟩
theorem ms_X7_isSlot : zMS yX7_isSlot cX7_isSlot 1 (some .boolean) 1 := ⟨⟨tw769, tw60, tw770⟩, by decide +kernel⟩
theorem mv_X4_keep : zMV yX4_keep RX4 cX4_keep 3 (some .int) 2 := ⟨⟨tw772, tw773, tw65, tw774⟩, by decide +kernel⟩
theorem mv_X7_restore : zMV yX7_restore RX7 cX7_restore 2 (some .int) 1 := ⟨⟨tw778, tw779, tw60, tw780⟩, by decide +kernel⟩
theorem mv_X4_bring : zMV yX4_bring RX4 cX4_bring 3 (some .int) 2 := ⟨⟨tw782, tw783, tw65, tw784⟩, by decide +kernel⟩
theorem mi_X8_init : zMI yX8_init cX8_init 2 0 := ⟨⟨tw789, tw67, tw790, rfl⟩, by decide +kernel⟩
theorem ms_X8_ofLorryAt : zMS yX8_ofLorryAt cX8_ofLorryAt 2 (some .int) 2 := ⟨⟨tw793, tw67, tw794⟩, by decide +kernel⟩
theorem mv_X8_set : zMV yX8_set RX8 cX8_set 4 (some .int) 2 := ⟨⟨tw833, tw834, tw67, tw835⟩, by decide +kernel⟩
theorem ms_X8_in : zMS yX8_in cX8_in 3 (some .boolean) 3 := ⟨⟨tw837, tw67, tw838⟩, by decide +kernel⟩
theorem mv_X8_lays : zMV yX8_lays RX8 cX8_lays 4 (some .int) 2 := ⟨⟨tw841, tw14, tw67, tw842⟩, by decide +kernel⟩
theorem mv_X8_looks : zMV yX8_looks RX8 cX8_looks 2 none 0 := ⟨⟨tw845, tw15, tw67, tw846⟩, by decide +kernel⟩
theorem mv_X8_records : zMV yX8_records RX8 cX8_records 2 none 0 := ⟨⟨tw849, tw16, tw67, tw850⟩, by decide +kernel⟩
theorem mv_X8_quarry : zMV yX8_quarry RX8 cX8_quarry 5 (some .int) 4 := ⟨⟨tw852, tw853, tw67, tw854⟩, by decide +kernel⟩
theorem mv_X8_tries : zMV yX8_tries RX8 cX8_tries 7 (some .int) 5 := ⟨⟨tw857, tw17, tw67, tw858⟩, by decide +kernel⟩
theorem mv_X8_does : zMV yX8_does RX8 cX8_does 6 (some .int) 5 := ⟨⟨tw861, tw18, tw67, tw862⟩, by decide +kernel⟩
theorem mv_X8_quarries : zMV yX8_quarries RX8 cX8_quarries 6 (some .int) 4 := ⟨⟨tw865, tw19, tw67, tw866⟩, by decide +kernel⟩
theorem ms_X8_isSize : zMS yX8_isSize cX8_isSize 1 (some .boolean) 1 := ⟨⟨tw868, tw67, tw869⟩, by decide +kernel⟩
theorem mv_X8_newBlock : zMV yX8_newBlock RX8 cX8_newBlock 7 (some .int) 4 := ⟨⟨tw872, tw20, tw67, tw873⟩, by decide +kernel⟩
theorem ms_X8_at : zMS yX8_at cX8_at 2 (some .int) 2 := ⟨⟨tw875, tw67, tw876⟩, by decide +kernel⟩
theorem mv_X8_weight : zMV yX8_weight RX8 cX8_weight 2 (some .int) 1 := ⟨⟨tw879, tw21, tw67, tw880⟩, by decide +kernel⟩
theorem mv_X8_cuts : zMV yX8_cuts RX8 cX8_cuts 8 (some .int) 3 := ⟨⟨tw883, tw22, tw67, tw884⟩, by decide +kernel⟩
theorem mv_X8_isBlock : zMV yX8_isBlock RX8 cX8_isBlock 2 (some .boolean) 1 := ⟨⟨tw887, tw23, tw67, tw888⟩, by decide +kernel⟩
theorem mv_X8_canBeCut : zMV yX8_canBeCut RX8 cX8_canBeCut 2 (some .boolean) 1 := ⟨⟨tw891, tw24, tw67, tw892⟩, by decide +kernel⟩
theorem mv_X8_isHere : zMV yX8_isHere RX8 cX8_isHere 2 (some .boolean) 1 := ⟨⟨tw895, tw25, tw67, tw896⟩, by decide +kernel⟩
theorem mv_X8_isAt : zMV yX8_isAt RX8 cX8_isAt 3 (some .boolean) 2 := ⟨⟨tw899, tw26, tw67, tw900⟩, by decide +kernel⟩
theorem mv_X8_part : zMV yX8_part RX8 cX8_part 5 none 3 := ⟨⟨tw903, tw27, tw67, tw904⟩, by decide +kernel⟩
theorem mv_X8_underRoof : zMV yX8_underRoof RX8 cX8_underRoof 3 (some .int) 0 := ⟨⟨tw907, tw28, tw67, tw908⟩, by decide +kernel⟩
theorem mv_X8_orders : zMV yX8_orders RX8 cX8_orders 6 (some .int) 3 := ⟨⟨tw911, tw29, tw67, tw912⟩, by decide +kernel⟩
theorem mv_X8_sorts : zMV yX8_sorts RX8 cX8_sorts 6 none 3 := ⟨⟨tw915, tw30, tw67, tw916⟩, by decide +kernel⟩
theorem ms_X8_ofOrderAt : zMS yX8_ofOrderAt cX8_ofOrderAt 2 (some .int) 2 := ⟨⟨tw918, tw67, tw919⟩, by decide +kernel⟩
theorem mv_X8_gives : zMV yX8_gives RX8 cX8_gives 3 (some .int) 2 := ⟨⟨tw922, tw31, tw67, tw923⟩, by decide +kernel⟩
theorem mv_X8_isOrder : zMV yX8_isOrder RX8 cX8_isOrder 2 (some .boolean) 1 := ⟨⟨tw926, tw32, tw67, tw927⟩, by decide +kernel⟩
theorem mv_X8_canGive : zMV yX8_canGive RX8 cX8_canGive 4 (some .boolean) 2 := ⟨⟨tw930, tw33, tw67, tw931⟩, by decide +kernel⟩
theorem mv_X8_excessOf : zMV yX8_excessOf RX8 cX8_excessOf 3 (some .int) 2 := ⟨⟨tw934, tw34, tw67, tw935⟩, by decide +kernel⟩
theorem mv_X8_excess : zMV yX8_excess RX8 cX8_excess 9 (some .int) 4 := ⟨⟨tw938, tw35, tw67, tw939⟩, by decide +kernel⟩
theorem mv_X8_loads : zMV yX8_loads RX8 cX8_loads 4 (some .int) 3 := ⟨⟨tw942, tw36, tw67, tw943⟩, by decide +kernel⟩
theorem ms_X8_isLorry : zMS yX8_isLorry cX8_isLorry 1 (some .boolean) 1 := ⟨⟨tw945, tw67, tw946⟩, by decide +kernel⟩
theorem mv_X8_blockAt : zMV yX8_blockAt RX8 cX8_blockAt 5 (some .int) 2 := ⟨⟨tw949, tw37, tw67, tw950⟩, by decide +kernel⟩
theorem mv_X8_loadOf : zMV yX8_loadOf RX8 cX8_loadOf 4 (some .int) 1 := ⟨⟨tw953, tw38, tw67, tw954⟩, by decide +kernel⟩
theorem mv_X8_nights : zMV yX8_nights RX8 cX8_nights 5 (some .int) 1 := ⟨⟨tw957, tw39, tw67, tw958⟩, by decide +kernel⟩
theorem mv_X8_wouldCrack : zMV yX8_wouldCrack RX8 cX8_wouldCrack 2 (some .boolean) 1 := ⟨⟨tw961, tw40, tw67, tw962⟩, by decide +kernel⟩
theorem mv_X8_leaves : zMV yX8_leaves RX8 cX8_leaves 5 (some .int) 1 := ⟨⟨tw965, tw41, tw67, tw966⟩, by decide +kernel⟩
theorem mv_X8_whyNot : zMV yX8_whyNot RX8 cX8_whyNot 2 (some .int) 1 := ⟨⟨tw969, tw42, tw67, tw970⟩, by decide +kernel⟩
theorem mv_X8_blocksOn : zMV yX8_blocksOn RX8 cX8_blocksOn 4 (some .int) 1 := ⟨⟨tw973, tw43, tw67, tw974⟩, by decide +kernel⟩
theorem mv_X8_hasCracked : zMV yX8_hasCracked RX8 cX8_hasCracked 5 (some .boolean) 1 := ⟨⟨tw977, tw44, tw67, tw978⟩, by decide +kernel⟩
theorem mv_X8_axleNow : zMV yX8_axleNow RX8 cX8_axleNow 3 (some .float) 2 := ⟨⟨tw981, tw45, tw67, tw982⟩, by decide +kernel⟩
theorem mv_X8_axle : zMV yX8_axle RX8 cX8_axle 8 (some .float) 4 := ⟨⟨tw985, tw46, tw67, tw986⟩, by decide +kernel⟩
theorem mv_X8_delivers : zMV yX8_delivers RX8 cX8_delivers 4 (some .int) 1 := ⟨⟨tw990, tw47, tw67, tw991⟩, by decide +kernel⟩
theorem mv_X8_cut : zMV yX8_cut RX8 cX8_cut 4 (some .int) 3 := ⟨⟨tw993, tw994, tw67, tw995⟩, by decide +kernel⟩
theorem mv_X8_shelter : zMV yX8_shelter RX8 cX8_shelter 4 (some .int) 1 := ⟨⟨tw997, tw998, tw67, tw999⟩, by decide +kernel⟩
theorem mv_X8_order : zMV yX8_order RX8 cX8_order 4 (some .int) 3 := ⟨⟨tw1001, tw1002, tw67, tw1003⟩, by decide +kernel⟩
theorem mv_X8_give : zMV yX8_give RX8 cX8_give 3 (some .int) 2 := ⟨⟨tw1005, tw1006, tw67, tw1007⟩, by decide +kernel⟩
theorem mv_X8_takeBack : zMV yX8_takeBack RX8 cX8_takeBack 4 (some .int) 1 := ⟨⟨tw1009, tw1010, tw67, tw1011⟩, by decide +kernel⟩
theorem mv_X8_limits : zMV yX8_limits RX8 cX8_limits 6 (some .int) 4 := ⟨⟨tw1013, tw1014, tw67, tw1015⟩, by decide +kernel⟩
theorem mv_X8_load : zMV yX8_load RX8 cX8_load 4 (some .int) 3 := ⟨⟨tw1017, tw1018, tw67, tw1019⟩, by decide +kernel⟩
theorem mv_X8_unload : zMV yX8_unload RX8 cX8_unload 3 (some .int) 1 := ⟨⟨tw1021, tw1022, tw67, tw1023⟩, by decide +kernel⟩
theorem mv_X8_leave : zMV yX8_leave RX8 cX8_leave 2 (some .int) 1 := ⟨⟨tw1025, tw1026, tw67, tw1027⟩, by decide +kernel⟩
theorem mv_X8_night : zMV yX8_night RX8 cX8_night 2 (some .int) 1 := ⟨⟨tw1029, tw1030, tw67, tw1031⟩, by decide +kernel⟩
theorem mv_X8_of : zMV yX8_of RX8 cX8_of 3 (some .int) 2 := ⟨⟨tw1033, tw1034, tw67, tw1035⟩, by decide +kernel⟩
theorem mv_X8_ofOrder : zMV yX8_ofOrder RX8 cX8_ofOrder 3 (some .int) 2 := ⟨⟨tw1037, tw1038, tw67, tw1039⟩, by decide +kernel⟩
theorem mv_X8_couldBeGiven : zMV yX8_couldBeGiven RX8 cX8_couldBeGiven 4 (some .int) 1 := ⟨⟨tw1042, tw48, tw67, tw1043⟩, by decide +kernel⟩
theorem mv_X8_ofLorry : zMV yX8_ofLorry RX8 cX8_ofLorry 3 (some .int) 2 := ⟨⟨tw1045, tw1046, tw67, tw1047⟩, by decide +kernel⟩
theorem ms_X8_floatBits : zMS yX8_floatBits cX8_floatBits 3 (some .int) 1 := ⟨⟨tw1049, tw67, tw1050⟩, by decide +kernel⟩
theorem mv_X8_count : zMV yX8_count RX8 cX8_count 2 (some .int) 1 := ⟨⟨tw1055, tw1056, tw67, tw1057⟩, by decide +kernel⟩
theorem mv_X8_setOf : zMV yX8_setOf RX8 cX8_setOf 5 (some .int) 1 := ⟨⟨tw1060, tw49, tw67, tw1061⟩, by decide +kernel⟩
theorem mv_X8_notCut : zMV yX8_notCut RX8 cX8_notCut 4 (some .int) 1 := ⟨⟨tw1064, tw50, tw67, tw1065⟩, by decide +kernel⟩
theorem mv_X8_meanWeight : zMV yX8_meanWeight RX8 cX8_meanWeight 2 (some .long) 0 := ⟨⟨tw1067, tw1068, tw67, tw1069⟩, by decide +kernel⟩
theorem ms_X8_bitsOf : zMS yX8_bitsOf cX8_bitsOf 6 (some .long) 1 := ⟨⟨tw1071, tw67, tw1072⟩, by decide +kernel⟩
theorem mv_X8_why : zMV yX8_why RX8 cX8_why 2 (some .int) 1 := ⟨⟨tw1079, tw1080, tw67, tw1081⟩, by decide +kernel⟩
theorem mv_X8_bestBlock : zMV yX8_bestBlock RX8 cX8_bestBlock 4 (some .int) 1 := ⟨⟨tw1083, tw1084, tw67, tw1085⟩, by decide +kernel⟩
theorem mv_X8_fittingCut : zMV yX8_fittingCut RX8 cX8_fittingCut 5 (some .int) 3 := ⟨⟨tw1087, tw1088, tw67, tw1089⟩, by decide +kernel⟩
theorem mv_X8_isFitting : zMV yX8_isFitting RX8 cX8_isFitting 9 (some .boolean) 4 := ⟨⟨tw1092, tw51, tw67, tw1093⟩, by decide +kernel⟩
theorem mv_X8_ifFrost : zMV yX8_ifFrost RX8 cX8_ifFrost 3 (some .int) 0 := ⟨⟨tw1095, tw1096, tw67, tw1097⟩, by decide +kernel⟩
theorem mv_X8_bestPlace : zMV yX8_bestPlace RX8 cX8_bestPlace 6 (some .int) 2 := ⟨⟨tw1099, tw1100, tw67, tw1101⟩, by decide +kernel⟩
theorem mv_X8_share : zMV yX8_share RX8 cX8_share 6 (some .float) 3 := ⟨⟨tw1104, tw52, tw67, tw1105⟩, by decide +kernel⟩
theorem mv_X8_put : zMV yX8_put RX8 cX8_put 8 (some .int) 1 := ⟨⟨tw1107, tw1108, tw67, tw1109⟩, by decide +kernel⟩
theorem mv_X8_wipe : zMV yX8_wipe RX8 cX8_wipe 2 (some .int) 0 := ⟨⟨tw1112, tw1113, tw67, tw1114⟩, by decide +kernel⟩
theorem mv_X8_fault : zMV yX8_fault RX8 cX8_fault 2 (some .int) 0 := ⟨⟨tw1116, tw1117, tw67, tw1118⟩, by decide +kernel⟩
theorem mv_X8_goes : zMV yX8_goes RX8 cX8_goes 6 (some .int) 1 := ⟨⟨tw1121, tw53, tw67, tw1122⟩, by decide +kernel⟩
theorem mv_X8_readOrder : zMV yX8_readOrder RX8 cX8_readOrder 5 none 0 := ⟨⟨tw1125, tw54, tw67, tw1126⟩, by decide +kernel⟩
theorem mv_X8_isNext : zMV yX8_isNext RX8 cX8_isNext 3 (some .boolean) 2 := ⟨⟨tw1129, tw55, tw67, tw1130⟩, by decide +kernel⟩
theorem mv_X8_takes : zMV yX8_takes RX8 cX8_takes 4 (some .int) 2 := ⟨⟨tw1133, tw56, tw67, tw1134⟩, by decide +kernel⟩
theorem mv_X8_takesNumber : zMV yX8_takesNumber RX8 cX8_takesNumber 3 (some .int) 0 := ⟨⟨tw1137, tw57, tw67, tw1138⟩, by decide +kernel⟩
theorem mv_X8_takesBehind : zMV yX8_takesBehind RX8 cX8_takesBehind 3 (some .int) 1 := ⟨⟨tw1141, tw58, tw67, tw1142⟩, by decide +kernel⟩
theorem mv_X8_carryOut : zMV yX8_carryOut RX8 cX8_carryOut 3 (some .int) 0 := ⟨⟨tw1144, tw1145, tw67, tw1146⟩, by decide +kernel⟩
theorem mv_X8_undo : zMV yX8_undo RX8 cX8_undo 2 (some .int) 0 := ⟨⟨tw1148, tw1149, tw67, tw1150⟩, by decide +kernel⟩
theorem mv_X8_save : zMV yX8_save RX8 cX8_save 3 (some .int) 1 := ⟨⟨tw1152, tw1153, tw67, tw1154⟩, by decide +kernel⟩
theorem mv_X8_restore : zMV yX8_restore RX8 cX8_restore 3 (some .int) 1 := ⟨⟨tw1156, tw1157, tw67, tw1158⟩, by decide +kernel⟩
theorem zin_X0 : ∀ w ∈ wsX00, w ∈ zT := by decide +kernel
theorem zin_X1 : ∀ w ∈ wsX10, w ∈ zT := by decide +kernel
theorem zin_X2 : ∀ w ∈ wsX20, w ∈ zT := by decide +kernel
theorem zin_X3 : ∀ w ∈ wsX30, w ∈ zT := by decide +kernel
theorem zin_X4 : ∀ w ∈ wsX40, w ∈ zT := by decide +kernel
theorem zin_X5 : ∀ w ∈ wsX50, w ∈ zT := by decide +kernel
theorem zin_X6 : ∀ w ∈ wsX60, w ∈ zT := by decide +kernel
theorem zin_X7 : ∀ w ∈ wsX70, w ∈ zT := by decide +kernel
theorem zin_X8 : ∀ w ∈ wsX80, w ∈ zT := by decide +kernel
/-- links of private members of nest mates: facts of the tables that warm machines keep -/
def zNw (U : State) : Prop := va_Nw (Cond.methodLinkNest RX7 36 yX2_init RX7) U ∧ va_Nw (Cond.methodLinkNest RX7 43 yX4_init RX7) U ∧ va_Nw (Cond.methodLinkNest RX7 50 yX3_init RX7) U ∧ va_Nw (Cond.methodLinkNest RX5 31 yX7_copyRow RX7) U ∧ va_Nw (Cond.fieldLinkNest RX6 19 "QuarryOrders" "LEAST_SETTING" "[I" "QuarryOrders") U ∧ va_Nw (Cond.fieldLinkNest RX6 23 "QuarryOrders" "MOST_SETTING" "[I" "QuarryOrders") U ∧ va_Nw (Cond.methodLinkNest RX6 36 yX7_isSize RX7) U ∧ va_Nw (Cond.methodLinkNest RX6 71 yX7_greatestOf RX7) U ∧ va_Nw (Cond.methodLinkNest RX6 78 yX7_middleOf RX7) U ∧ va_Nw (Cond.methodLinkNest RX6 81 yX7_leastOf RX7) U ∧ va_Nw (Cond.methodLinkNest RX1 53 yX7_greatestOf RX7) U ∧ va_Nw (Cond.methodLinkNest RX1 57 yX7_middleOf RX7) U ∧ va_Nw (Cond.methodLinkNest RX1 60 yX7_leastOf RX7) U ∧ va_Nw (Cond.methodLinkNest RX6 93 yX7_isLorry RX7) U
theorem zNw.warm {s U : State} (hW : s.WarmedH U.vm) (h : zNw s) : zNw U := ⟨va_Nw.warmM hW h.1, va_Nw.warmM hW h.2.1, va_Nw.warmM hW h.2.2.1, va_Nw.warmM hW h.2.2.2.1, va_Nw.warmF hW h.2.2.2.2.1, va_Nw.warmF hW h.2.2.2.2.2.1, va_Nw.warmM hW h.2.2.2.2.2.2.1, va_Nw.warmM hW h.2.2.2.2.2.2.2.1, va_Nw.warmM hW h.2.2.2.2.2.2.2.2.1, va_Nw.warmM hW h.2.2.2.2.2.2.2.2.2.1, va_Nw.warmM hW h.2.2.2.2.2.2.2.2.2.2.1, va_Nw.warmM hW h.2.2.2.2.2.2.2.2.2.2.2.1, va_Nw.warmM hW h.2.2.2.2.2.2.2.2.2.2.2.2.1, va_Nw.warmM hW h.2.2.2.2.2.2.2.2.2.2.2.2.2⟩
theorem zNw.same {u U : State} (hv : u.vm = U.vm) (h : zNw u) : zNw U := ⟨va_Nw.same rfl hv h.1, va_Nw.same rfl hv h.2.1, va_Nw.same rfl hv h.2.2.1, va_Nw.same rfl hv h.2.2.2.1, va_Nw.same rfl hv h.2.2.2.2.1, va_Nw.same rfl hv h.2.2.2.2.2.1, va_Nw.same rfl hv h.2.2.2.2.2.2.1, va_Nw.same rfl hv h.2.2.2.2.2.2.2.1, va_Nw.same rfl hv h.2.2.2.2.2.2.2.2.1, va_Nw.same rfl hv h.2.2.2.2.2.2.2.2.2.1, va_Nw.same rfl hv h.2.2.2.2.2.2.2.2.2.2.1, va_Nw.same rfl hv h.2.2.2.2.2.2.2.2.2.2.2.1, va_Nw.same rfl hv h.2.2.2.2.2.2.2.2.2.2.2.2.1, va_Nw.same rfl hv h.2.2.2.2.2.2.2.2.2.2.2.2.2⟩
theorem zNw.of {A : Array Value} {s : State} (hts : ∀ w ∈ lw_tbl, w.before A s = true) : zNw s := ⟨va_Nw.of rfl (hts _ tw128), va_Nw.of rfl (hts _ tw146), va_Nw.of rfl (hts _ tw161), va_Nw.of rfl (hts _ tw223), va_Nw.of rfl (hts _ tw233), va_Nw.of rfl (hts _ tw235), va_Nw.of rfl (hts _ tw257), va_Nw.of rfl (hts _ tw331), va_Nw.of rfl (hts _ tw341), va_Nw.of rfl (hts _ tw349), va_Nw.of rfl (hts _ tw374), va_Nw.of rfl (hts _ tw375), va_Nw.of rfl (hts _ tw376), va_Nw.of rfl (hts _ tw398)⟩
theorem nw128 {s : State} (h : zNw s) : va_Nw (Cond.methodLinkNest RX7 36 yX2_init RX7) s := h.1
theorem nw146 {s : State} (h : zNw s) : va_Nw (Cond.methodLinkNest RX7 43 yX4_init RX7) s := h.2.1
theorem nw161 {s : State} (h : zNw s) : va_Nw (Cond.methodLinkNest RX7 50 yX3_init RX7) s := h.2.2.1
theorem nw223 {s : State} (h : zNw s) : va_Nw (Cond.methodLinkNest RX5 31 yX7_copyRow RX7) s := h.2.2.2.1
theorem nw233 {s : State} (h : zNw s) : va_Nw (Cond.fieldLinkNest RX6 19 "QuarryOrders" "LEAST_SETTING" "[I" "QuarryOrders") s := h.2.2.2.2.1
theorem nw235 {s : State} (h : zNw s) : va_Nw (Cond.fieldLinkNest RX6 23 "QuarryOrders" "MOST_SETTING" "[I" "QuarryOrders") s := h.2.2.2.2.2.1
theorem nw257 {s : State} (h : zNw s) : va_Nw (Cond.methodLinkNest RX6 36 yX7_isSize RX7) s := h.2.2.2.2.2.2.1
theorem nw331 {s : State} (h : zNw s) : va_Nw (Cond.methodLinkNest RX6 71 yX7_greatestOf RX7) s := h.2.2.2.2.2.2.2.1
theorem nw341 {s : State} (h : zNw s) : va_Nw (Cond.methodLinkNest RX6 78 yX7_middleOf RX7) s := h.2.2.2.2.2.2.2.2.1
theorem nw349 {s : State} (h : zNw s) : va_Nw (Cond.methodLinkNest RX6 81 yX7_leastOf RX7) s := h.2.2.2.2.2.2.2.2.2.1
theorem nw374 {s : State} (h : zNw s) : va_Nw (Cond.methodLinkNest RX1 53 yX7_greatestOf RX7) s := h.2.2.2.2.2.2.2.2.2.2.1
theorem nw375 {s : State} (h : zNw s) : va_Nw (Cond.methodLinkNest RX1 57 yX7_middleOf RX7) s := h.2.2.2.2.2.2.2.2.2.2.2.1
theorem nw376 {s : State} (h : zNw s) : va_Nw (Cond.methodLinkNest RX1 60 yX7_leastOf RX7) s := h.2.2.2.2.2.2.2.2.2.2.2.2.1
theorem nw398 {s : State} (h : zNw s) : va_Nw (Cond.methodLinkNest RX6 93 yX7_isLorry RX7) s := h.2.2.2.2.2.2.2.2.2.2.2.2.2
def zK (D : va_G) (tys : List (ClassId × FieldType)) (U : State) : Prop := va_K D vwCl tys U ∧ zNw U
theorem zK.warm {D : va_G} {tys : List (ClassId × FieldType)} {s U : State} (hW : s.WarmedH U.vm) (h : zK D tys s) : zK D tys U := ⟨va_K.moved hW.alike h.1, h.2.warm hW⟩
theorem zK.frame {D : va_G} {tys : List (ClassId × FieldType)} {U : State} {g : JFrame} {mk : MethodId} {a : Array Value} (h : zK D tys U) : zK D tys (U.calling g mk a) := ⟨va_K.moved (u := U) (U := U.calling g mk a) (Vm.Alike.refl U.vm) h.1, h.2.same rfl⟩
end
section
/-! MY WALK'S CALLS -/
section ZC
variable {p : Program} {l : Launch} {e : Env} {R : Room} {s : State} {m : MethodId} {args : Array Value} {below : List Frame} {meth : Method} {c : Code} {H : Heap} {locs : List Loc} {cells slots : Nat} {Q : State → Prop}
variable {cc : ByteArray} {pc : Nat} {ls : Array Slot} {rest st : List Value} {D : va_G} {tys : List (ClassId × FieldType)} {ws wc wr w1 ws' : va_W} {A : Nat → Prop} {H0 : Heap}
variable {own C host : String} {index n nL maxL q0 ci N : Nat} {T : u_T} {y : MethodName} {bytes : ByteArray} {ret : Option FieldType} {rm : Room} {b : Addr} {As : List Value} {fs : List Value} {a0 : Cond} {mc ms : Nat} {Pc : Array Value → State → Prop} {Qc : Array Value → State → Outcome → State → Prop} {free : Addr → Prop}
/-- any virtual call as a run -/
theorem zrV (hx : p.tables.exec = Jvm.exec) (hb : c.code = cc) (hml : c.maxLocals = nL) (hown : s.vm.findClass own = some m.cls) (hts : ∀ w ∈ a0 :: zT, w.before args s = true) (hlk : Cond.methodLink own index y ∈ zT) (hy : zMV y C bytes maxL ret n) (hR : rm.frames + 1 ≤ R.frames ∧ 8 + (maxL + 11) + rm.locals ≤ R.locals) (hrc : rm.cells = mc) (hrs : rm.slots = ms)
    (hM : Met l y (.code y bytes maxL ret :: zT) rm Pc Qc mc ms free) (hp : PreV s H C b Pc As) (hl : ls.size = nL) (hn : As.length = n) (hst : st = As.reverse ++ .ref b :: rest) (hW : (rest.map fun v => v.category).sum ≤ 8) (hdg : decode cc pc = .ok (.invokevirtual index, 3)) (hf : cells + mc ≤ R.cells ∧ slots + ms ≤ R.slots) :
    va_Run p l e R s m args below meth c H locs cells slots mc ms (F0 m pc ls st) rest (Qc (Value.ref b :: As).toArray) free := by
  obtain ⟨⟨h1, h2, h3, h4⟩, hd⟩ := hy
  refine va_runV (As := As) (rest := rest) (g := F0 m pc ls st) ⟨hx, hb, hml, hown, hts⟩ hM (cwV n hts (z_good fun w hw => ?_) rfl hrc hrs hd hR) hp rfl hn hl hst (lv_room hW) hdg hf
  rcases List.mem_append.mp hw with hw | hw
  · rcases List.mem_cons.mp hw with rfl | hw
    · exact hlk
    rcases List.mem_cons.mp hw with rfl | hw
    · exact h1
    rcases List.mem_cons.mp hw with rfl | hw
    · exact h2
    rcases List.mem_cons.mp hw with rfl | hw
    · exact h3
    · cases hw
  · rcases List.mem_cons.mp hw with rfl | hw
    · exact h4
    · exact hw
/-- any static call -/
theorem zrS (hx : p.tables.exec = Jvm.exec) (hb : c.code = cc) (hml : c.maxLocals = nL) (hown : s.vm.findClass own = some m.cls) (hts : ∀ w ∈ a0 :: zT, w.before args s = true) (hlk : Cond.methodLink own index y ∈ zT) (hy : zMS y bytes maxL ret n) (hR : rm.frames + 1 ≤ R.frames ∧ 8 + (maxL + 11) + rm.locals ≤ R.locals) (hrc : rm.cells = mc) (hrs : rm.slots = ms)
    (hM : Met l y (.code y bytes maxL ret :: zT) rm Pc Qc mc ms free) (hp : PreS s H Pc As) (hl : ls.size = nL) (hn : As.length = n) (hst : st = As.reverse ++ rest) (hW : (rest.map fun v => v.category).sum ≤ 8) (hdg : decode cc pc = .ok (.invokestatic index, 3)) (hf : cells + mc ≤ R.cells ∧ slots + ms ≤ R.slots) :
    va_Run p l e R s m args below meth c H locs cells slots mc ms (F0 m pc ls st) rest (Qc As.toArray) free := by
  obtain ⟨⟨h1, h2, h3⟩, hd⟩ := hy
  refine va_runS (As := As) (rest := rest) (g := F0 m pc ls st) ⟨hx, hb, hml, hown, hts⟩ hM (va_cwS n hts (z_good fun w hw => ?_) rfl hrc hrs hd hR) hp rfl hn hl hst (lv_room hW) hdg hf
  rcases List.mem_append.mp hw with hw | hw
  · rcases List.mem_cons.mp hw with rfl | hw
    · exact hlk
    rcases List.mem_cons.mp hw with rfl | hw
    · exact h1
    rcases List.mem_cons.mp hw with rfl | hw
    · exact h2
    · cases hw
  · rcases List.mem_cons.mp hw with rfl | hw
    · exact h3
    · exact hw
/-- a nest mate's private static method -/
theorem zrN (hx : p.tables.exec = Jvm.exec) (hb : c.code = cc) (hml : c.maxLocals = nL) (hown : s.vm.findClass own = some m.cls) (hts : ∀ w ∈ a0 :: zT, w.before args s = true) (hlk : va_Nw (.methodLinkNest own index y host) s) (hy : zMS y bytes maxL ret n) (hR : rm.frames + 1 ≤ R.frames ∧ 8 + (maxL + 11) + rm.locals ≤ R.locals) (hrc : rm.cells = mc) (hrs : rm.slots = ms)
    (hM : Met l y (.code y bytes maxL ret :: zT) rm Pc Qc mc ms free) (hp : PreS s H Pc As) (hl : ls.size = nL) (hn : As.length = n) (hst : st = As.reverse ++ rest) (hW : (rest.map fun v => v.category).sum ≤ 8) (hdg : decode cc pc = .ok (.invokestatic index, 3)) (hf : cells + mc ≤ R.cells ∧ slots + ms ≤ R.slots) :
    va_Run p l e R s m args below meth c H locs cells slots mc ms (F0 m pc ls st) rest (Qc As.toArray) free := by
  obtain ⟨⟨h1, h2, h3⟩, hd⟩ := hy
  have ok : ∀ w ∈ zT, w.before args s = true := fun w h => hts w (List.mem_cons_of_mem _ h)
  exact va_runSN (As := As) (rest := rest) (g := F0 m pc ls st) ⟨hx, hb, hml, hown, hts⟩ hM ⟨va_cnB n hts (z_goodC h3) rfl hrc hrs hlk (ok _ h2) hd hR, ok _ h1, trivial⟩ hp rfl hn hl hst (lv_room hW) hdg hf
/-- the ends of calls that write nothing -/
theorem zE_i {r0 : Int32} {st0 : List Value} {a : Array Value} (hr : va_Run p l e R s m args below meth c H locs cells slots 0 0 (F0 m pc ls st0) rest (vp_Si (fun r => r = r0) a) (fun _ => False))
    (kk : W p l e R s m args below meth c H locs cells slots Q (F0 m (pc + 3) ls (.int r0 :: rest))) : W p l e R s m args below meth c H locs cells slots Q (F0 m pc ls st0) := by
  intro T hT X
  obtain ⟨v, st₀, t, T', L, h0, X', hL, e1, e2, ⟨r, hv, hp, hh⟩, st⟩ := hr T hT X
  cases hv
  subst hp
  obtain ⟨t2, a1, b1⟩ := kk T' (by rw [e1, hh, h0]) (Stand.forget X' (fun q h => (hL q h).elim))
  exact ⟨t2, st t2 a1, b1⟩
theorem zE_l {r0 : Int64} {st0 : List Value} {a : Array Value} (hr : va_Run p l e R s m args below meth c H locs cells slots 0 0 (F0 m pc ls st0) rest (vp_Sl (fun r => r = r0) a) (fun _ => False))
    (kk : W p l e R s m args below meth c H locs cells slots Q (F0 m (pc + 3) ls (.long r0 :: rest))) : W p l e R s m args below meth c H locs cells slots Q (F0 m pc ls st0) := by
  intro T hT X
  obtain ⟨v, st₀, t, T', L, h0, X', hL, e1, e2, ⟨r, hv, hp, hh⟩, st⟩ := hr T hT X
  cases hv
  subst hp
  obtain ⟨t2, a1, b1⟩ := kk T' (by rw [e1, hh, h0]) (Stand.forget X' (fun q h => (hL q h).elim))
  exact ⟨t2, st t2 a1, b1⟩
theorem zE_f {r0 : UInt32} {st0 : List Value} {a : Array Value} (hr : va_Run p l e R s m args below meth c H locs cells slots 0 0 (F0 m pc ls st0) rest (vp_Sf (fun r => r = r0) a) (fun _ => False))
    (kk : W p l e R s m args below meth c H locs cells slots Q (F0 m (pc + 3) ls (.float r0 :: rest))) : W p l e R s m args below meth c H locs cells slots Q (F0 m pc ls st0) := by
  intro T hT X
  obtain ⟨v, st₀, t, T', L, h0, X', hL, e1, e2, ⟨r, hv, hp, hh⟩, st⟩ := hr T hT X
  cases hv
  subst hp
  obtain ⟨t2, a1, b1⟩ := kk T' (by rw [e1, hh, h0]) (Stand.forget X' (fun q h => (hL q h).elim))
  exact ⟨t2, st t2 a1, b1⟩
theorem zE_v {st0 : List Value} {a : Array Value} (hr : va_Run p l e R s m args below meth c H locs cells slots 0 0 (F0 m pc ls st0) rest (va_Sv (fun _ => True) a) (fun _ => False))
    (kk : W p l e R s m args below meth c H locs cells slots Q (F0 m (pc + 3) ls rest)) : W p l e R s m args below meth c H locs cells slots Q (F0 m pc ls st0) := by
  intro T hT X
  obtain ⟨v, st₀, t, T', L, h0, X', hL, e1, e2, ⟨hv, hp, hh⟩, st⟩ := hr T hT X
  cases hv
  obtain ⟨t2, a1, b1⟩ := kk T' (by rw [e1, hh, h0]) (Stand.forget X' (fun q h => (hL q h).elim))
  exact ⟨t2, st t2 a1, b1⟩
/-- what a method that only reads asks of the world, what one that writes asks, and how it leaves it -/
abbrev zPR (D : va_G) (tys : List (ClassId × FieldType)) (wc : va_W) : State → Prop := fun U => va_P D vwCl wc U.heap ∧ zK D tys U
abbrev zPW (D : va_G) (tys : List (ClassId × FieldType)) (wc : va_W) (sz : Nat) : State → Prop := fun U => U.heap.size = sz ∧ va_P D vwCl wc U.heap ∧ zK D tys U ∧ va_D (fun _ => True) wc
abbrev zQW (D : va_G) (wc : va_W) (sz : Nat) (w1 : va_W) : Unit → State → Prop := fun _ t => va_P D vwCl w1 t.heap ∧ va_D (va_A wc sz) w1
theorem z_pv (hK : zK D tys s) (hP : va_P D vwCl ws H) (is : List Nat) (hs : is.filterMap (fun i => ws[i]?) = wc) (q0 : Nat) (he : ws[q0]? = some (b, .inr (ci, fs))) (hc : vwCl[ci]? = some (C, T, N)) : PreV s H C b (va_Pc (.ref b :: As) (zPR D tys wc)) As :=
  ⟨fun a U g mk q => ⟨q.1, q.2.1, q.2.2.frame⟩, va_recv (q := (C, T, N)) hK.1 hP hc he, fun U hU hW => ⟨rfl, by rw [hU]; exact hP.sub is hs, hK.warm hW⟩⟩
theorem z_ps (hK : zK D tys s) (hP : va_P D vwCl ws H) (is : List Nat) (hs : is.filterMap (fun i => ws[i]?) = wc) : PreS s H (va_Pc As (zPR D tys wc)) As :=
  ⟨fun a U g mk q => ⟨q.1, q.2.1, q.2.2.frame⟩, fun U hU hW => ⟨rfl, by rw [hU]; exact hP.sub is hs, hK.warm hW⟩⟩
/-- a static method that asks nothing of the world -/
theorem z_p0 : PreS s H (va_Pc As (fun _ => True)) As := ⟨fun a U g mk q => q, fun U hU hW => ⟨rfl, trivial⟩⟩
theorem z_wv (hK : zK D tys s) (hP : va_P D vwCl ws H) (hD : va_D A ws) (is : List Nat) (hn : va_nd is = true) (hs : is.map (fun i => ws[i]?) = wc.map some) (q0 : Nat) (he : ws[q0]? = some (b, .inr (ci, fs))) (hc : vwCl[ci]? = some (C, T, N)) : PreV s H C b (va_Pc (.ref b :: As) (zPW D tys wc H.size)) As :=
  ⟨fun a U g mk q => ⟨q.1, q.2.1, q.2.2.1, q.2.2.2.1.frame, q.2.2.2.2⟩, va_recv (q := (C, T, N)) hK.1 hP hc he, fun U hU hW => ⟨rfl, by rw [hU], by rw [hU]; exact hP.sub is (z_fm hs), hK.warm hW, (hD.sub is hn hs).weaken (fun _ _ _ _ => trivial)⟩⟩
theorem z_ws (hK : zK D tys s) (hP : va_P D vwCl ws H) (hD : va_D A ws) (is : List Nat) (hn : va_nd is = true) (hs : is.map (fun i => ws[i]?) = wc.map some) : PreS s H (va_Pc As (zPW D tys wc H.size)) As :=
  ⟨fun a U g mk q => ⟨q.1, q.2.1, q.2.2.1, q.2.2.2.1.frame, q.2.2.2.2⟩, fun U hU hW => ⟨rfl, by rw [hU], by rw [hU]; exact hP.sub is (z_fm hs), hK.warm hW, (hD.sub is hn hs).weaken (fun _ _ _ _ => trivial)⟩⟩
/-- the ends of calls that write: the callee's cells at isC, the others at isR, the new order by ps -/
theorem zF_i {r0 : Int32} {st0 : List Value} {a : Array Value} (hP : va_P D vwCl ws H) (hD : va_D A ws) (hS : va_S A H0 H locs) (hA : ∀ q, H0.size ≤ q → A q) (isC isR ps : List Nat) (hC : isC.map (fun i => ws[i]?) = wc.map some) (hR : isR.map (fun i => ws[i]?) = wr.map some) (hn : va_nd isR = true) (hdis : ∀ i ∈ isR, i ∉ isC) (hps : ps.map (fun i => (wr ++ w1)[i]?) = ws'.map some) (hnp : va_nd ps = true)
    (hr : va_Run p l e R s m args below meth c H locs cells slots mc ms (F0 m pc ls st0) rest (va_Qi (fun r (_ : Unit) => r = r0) (zQW D wc H.size w1) (va_A wc H.size) a) (va_A wc H.size))
    (kk : ∀ (H1 : Heap) (locs1 : List Loc), va_P D vwCl ws' H1 → va_D A ws' → va_S A H0 H1 locs1 → W p l e R s m args below meth c H1 locs1 (cells + mc) (slots + ms) Q (F0 m (pc + 3) ls (.int r0 :: rest))) : W p l e R s m args below meth c H locs cells slots Q (F0 m pc ls st0) := by
  have hF := va_free (wc := wc) hD hS hA isC hC
  refine va_calli hr hS (fun q _ h => hF q h) hF (fun r u t H1 locs1 ht hvm hw hB hz1 hk1 hS1 => ?_)
  subst hw
  obtain ⟨hP1, hD1⟩ := hB
  rw [ht] at hP1
  obtain ⟨hP2, hD2⟩ := va_join hP hD isC isR hC hR hn hdis hk1 hF hP1 hD1
  exact kk H1 locs1 (hP2.sub ps (z_fm hps)) (hD2.sub ps hnp hps) hS1
theorem zF_v {st0 : List Value} {a : Array Value} (hP : va_P D vwCl ws H) (hD : va_D A ws) (hS : va_S A H0 H locs) (hA : ∀ q, H0.size ≤ q → A q) (isC isR ps : List Nat) (hC : isC.map (fun i => ws[i]?) = wc.map some) (hR : isR.map (fun i => ws[i]?) = wr.map some) (hn : va_nd isR = true) (hdis : ∀ i ∈ isR, i ∉ isC) (hps : ps.map (fun i => (wr ++ w1)[i]?) = ws'.map some) (hnp : va_nd ps = true)
    (hr : va_Run p l e R s m args below meth c H locs cells slots mc ms (F0 m pc ls st0) rest (va_Qv (fun (_ : Unit) => True) (zQW D wc H.size w1) (va_A wc H.size) a) (va_A wc H.size))
    (kk : ∀ (H1 : Heap) (locs1 : List Loc), va_P D vwCl ws' H1 → va_D A ws' → va_S A H0 H1 locs1 → W p l e R s m args below meth c H1 locs1 (cells + mc) (slots + ms) Q (F0 m (pc + 3) ls rest)) : W p l e R s m args below meth c H locs cells slots Q (F0 m pc ls st0) := by
  have hF := va_free (wc := wc) hD hS hA isC hC
  refine va_callv hr hS (fun q _ h => hF q h) hF (fun u t H1 locs1 ht hvm hw hB hz1 hk1 hS1 => ?_)
  obtain ⟨hP1, hD1⟩ := hB
  rw [ht] at hP1
  obtain ⟨hP2, hD2⟩ := va_join hP hD isC isR hC hR hn hdis hk1 hF hP1 hD1
  exact kk H1 locs1 (hP2.sub ps (z_fm hps)) (hD2.sub ps hnp hps) hS1
/-! ends of methods -/
theorem zR_i {v v0 : Int32} (hx : p.tables.exec = Jvm.exec) (hb : c.code = cc) (hr : meth.sig.returnType = some .int) (hlocks : meth.locks = false) (hdg : decode cc pc = .ok (.ireturn, 1)) (h : some v = some v0) : W p l e R s m args below meth c s.heap [] 0 0 (MQ below (vp_Si (fun r => r = v0)) args s 0 0 free) (F0 m pc ls [.int v]) :=
  W.iret hx hb hr (fun t ht _ => ⟨v, rfl, Option.some.inj h, ht⟩) (fun _ q => absurd q List.not_mem_nil) hdg hlocks
theorem zR_z {v v0 : Int32} (hx : p.tables.exec = Jvm.exec) (hb : c.code = cc) (hr : meth.sig.returnType = some .boolean) (hlocks : meth.locks = false) (hdg : decode cc pc = .ok (.ireturn, 1)) (h : zg (zbo v) (some v) = some v0) : W p l e R s m args below meth c s.heap [] 0 0 (MQ below (vp_Si (fun r => r = v0)) args s 0 0 free) (F0 m pc ls [.int v]) :=
  W.zret hx hb hr (zbo_n (zg_s h).1) (fun t ht _ => ⟨v, rfl, Option.some.inj (zg_s h).2, ht⟩) (fun _ q => absurd q List.not_mem_nil) hdg hlocks
theorem zR_l {v v0 : Int64} (hx : p.tables.exec = Jvm.exec) (hb : c.code = cc) (hr : meth.sig.returnType = some .long) (hlocks : meth.locks = false) (hdg : decode cc pc = .ok (.lreturn, 1)) (h : some v = some v0) : W p l e R s m args below meth c s.heap [] 0 0 (MQ below (vp_Sl (fun r => r = v0)) args s 0 0 free) (F0 m pc ls [.long v]) :=
  W.lret hx hb hr (fun t ht _ => ⟨v, rfl, Option.some.inj h, ht⟩) (fun _ q => absurd q List.not_mem_nil) hdg hlocks
theorem zR_f {v v0 : UInt32} (hx : p.tables.exec = Jvm.exec) (hb : c.code = cc) (hr : meth.sig.returnType = some .float) (hlocks : meth.locks = false) (hdg : decode cc pc = .ok (.freturn, 1)) (h : some v = some v0) : W p l e R s m args below meth c s.heap [] 0 0 (MQ below (vp_Sf (fun r => r = v0)) args s 0 0 free) (F0 m pc ls [.float v]) :=
  W.fret hx hb hr (fun t ht _ => ⟨v, rfl, Option.some.inj h, ht⟩) (fun _ q => absurd q List.not_mem_nil) hdg hlocks
theorem zR_v (hx : p.tables.exec = Jvm.exec) (hb : c.code = cc) (hr : meth.sig.returnType = none) (hlocks : meth.locks = false) (hdg : decode cc pc = .ok (.return_, 1)) : W p l e R s m args below meth c s.heap [] 0 0 (MQ below (va_Sv (fun _ => True)) args s 0 0 free) (F0 m pc ls []) :=
  W.vret hx hb hr (fun t ht _ => ⟨rfl, trivial, ht⟩) (fun _ q => absurd q List.not_mem_nil) hdg hlocks
theorem zX_i {v v0 : Int32} (hx : p.tables.exec = Jvm.exec) (hb : c.code = cc) (hr : meth.sig.returnType = some .int) (hlocks : meth.locks = false) (hP : va_P D vwCl w1 H) (hD : va_D A w1) (hS : va_S A s.heap H locs) (hA : A = va_A wc s.heap.size) (hdg : decode cc pc = .ok (.ireturn, 1)) (h : v = v0) : W p l e R s m args below meth c H locs cells slots (MQ below (va_Qi (fun r (_ : Unit) => r = v0) (zQW D wc s.heap.size w1) (va_A wc s.heap.size)) args s cells slots (va_A wc s.heap.size)) (F0 m pc ls [.int v]) := by
  subst hA
  exact W.iret hx hb hr (fun t ht _ => ⟨⟨v, (), rfl, h, by rw [ht]; exact hP, hD⟩, hS.F ht⟩) hS.2.2 hdg hlocks
theorem zX_z {v v0 : Int32} (hx : p.tables.exec = Jvm.exec) (hb : c.code = cc) (hr : meth.sig.returnType = some .boolean) (hlocks : meth.locks = false) (hP : va_P D vwCl w1 H) (hD : va_D A w1) (hS : va_S A s.heap H locs) (hA : A = va_A wc s.heap.size) (hdg : decode cc pc = .ok (.ireturn, 1)) (hv : zbo v = true) (h : v = v0) : W p l e R s m args below meth c H locs cells slots (MQ below (va_Qi (fun r (_ : Unit) => r = v0) (zQW D wc s.heap.size w1) (va_A wc s.heap.size)) args s cells slots (va_A wc s.heap.size)) (F0 m pc ls [.int v]) := by
  subst hA
  exact W.zret hx hb hr (zbo_n hv) (fun t ht _ => ⟨⟨v, (), rfl, h, by rw [ht]; exact hP, hD⟩, hS.F ht⟩) hS.2.2 hdg hlocks
theorem zX_v (hx : p.tables.exec = Jvm.exec) (hb : c.code = cc) (hr : meth.sig.returnType = none) (hlocks : meth.locks = false) (hP : va_P D vwCl w1 H) (hD : va_D A w1) (hS : va_S A s.heap H locs) (hA : A = va_A wc s.heap.size) (hdg : decode cc pc = .ok (.return_, 1)) : W p l e R s m args below meth c H locs cells slots (MQ below (va_Qv (fun (_ : Unit) => True) (zQW D wc s.heap.size w1) (va_A wc s.heap.size)) args s cells slots (va_A wc s.heap.size)) (F0 m pc ls []) := by
  subst hA
  exact W.vret hx hb hr (fun t ht _ => ⟨⟨(), rfl, trivial, by rw [ht]; exact hP, hD⟩, hS.F ht⟩) hS.2.2 hdg hlocks
end ZC
end
