section
-- ===== PART A: goes FIRST, ahead of the names: the tables' words, and 'selects' of the private methods out of them =====
/-- a private method of a class that the tables say can be made, by its rows of tables_1 -/
def lw_okq (q : MethodName × Nat) : Prop := (q.1.cls ≠ "java/lang/invoke/MethodHandle" ∧ q.1.cls ≠ "java/lang/invoke/VarHandle") ∧ Cond.instantiable q.1.cls q.2 ∈ tables_1 ∧ Cond.privateMethod q.1 ∈ tables_1 ∧ Cond.instanceMethod q.1 ∈ tables_1
theorem lw_p0 : lw_okq (⟨"ProtoOrders", "refuse", "(I)I"⟩, 11) := ⟨⟨by decide +kernel, by decide +kernel⟩, List.mem_of_getElem? (i := 14) (by decide +kernel), List.mem_of_getElem? (i := 300) (by decide +kernel), List.mem_of_getElem? (i := 301) (by decide +kernel)⟩
theorem lw_p1 : lw_okq (⟨"ProtoOrders$Reader", "readItem", "(LProtoOrders$World;LProtoOrders$Merge;)Z"⟩, 6) := ⟨⟨by decide +kernel, by decide +kernel⟩, List.mem_of_getElem? (i := 232) (by decide +kernel), List.mem_of_getElem? (i := 421) (by decide +kernel), List.mem_of_getElem? (i := 422) (by decide +kernel)⟩
theorem lw_p2 : lw_okq (⟨"ProtoOrders$Reader", "pass", "(I)Z"⟩, 6) := ⟨⟨by decide +kernel, by decide +kernel⟩, List.mem_of_getElem? (i := 232) (by decide +kernel), List.mem_of_getElem? (i := 425) (by decide +kernel), List.mem_of_getElem? (i := 426) (by decide +kernel)⟩
theorem lw_p3 : lw_okq (⟨"ProtoOrders$Reader", "stands", "(I)Z"⟩, 6) := ⟨⟨by decide +kernel, by decide +kernel⟩, List.mem_of_getElem? (i := 232) (by decide +kernel), List.mem_of_getElem? (i := 429) (by decide +kernel), List.mem_of_getElem? (i := 430) (by decide +kernel)⟩
theorem lw_p4 : lw_okq (⟨"ProtoOrders$Reader", "markFault", "(I)Z"⟩, 6) := ⟨⟨by decide +kernel, by decide +kernel⟩, List.mem_of_getElem? (i := 232) (by decide +kernel), List.mem_of_getElem? (i := 433) (by decide +kernel), List.mem_of_getElem? (i := 434) (by decide +kernel)⟩
theorem lw_p5 : lw_okq (⟨"ProtoOrders$Reader", "digitStands", "()Z"⟩, 6) := ⟨⟨by decide +kernel, by decide +kernel⟩, List.mem_of_getElem? (i := 232) (by decide +kernel), List.mem_of_getElem? (i := 437) (by decide +kernel), List.mem_of_getElem? (i := 438) (by decide +kernel)⟩
theorem lw_p6 : lw_okq (⟨"ProtoOrders$Reader", "readParents", "(LProtoOrders$World;LProtoOrders$Merge;)Z"⟩, 6) := ⟨⟨by decide +kernel, by decide +kernel⟩, List.mem_of_getElem? (i := 232) (by decide +kernel), List.mem_of_getElem? (i := 446) (by decide +kernel), List.mem_of_getElem? (i := 447) (by decide +kernel)⟩
theorem lw_p7 : lw_okq (⟨"ProtoOrders$Reader", "readNumber", "(Z)Z"⟩, 6) := ⟨⟨by decide +kernel, by decide +kernel⟩, List.mem_of_getElem? (i := 232) (by decide +kernel), List.mem_of_getElem? (i := 450) (by decide +kernel), List.mem_of_getElem? (i := 451) (by decide +kernel)⟩
theorem lw_p8 : lw_okq (⟨"ProtoOrders$Merge", "layRows", "(LProtoOrders$World;)V"⟩, 7) := ⟨⟨by decide +kernel, by decide +kernel⟩, List.mem_of_getElem? (i := 197) (by decide +kernel), List.mem_of_getElem? (i := 471) (by decide +kernel), List.mem_of_getElem? (i := 472) (by decide +kernel)⟩
theorem lw_p9 : lw_okq (⟨"ProtoOrders$Merge", "areAllEmpty", "()Z"⟩, 7) := ⟨⟨by decide +kernel, by decide +kernel⟩, List.mem_of_getElem? (i := 197) (by decide +kernel), List.mem_of_getElem? (i := 477) (by decide +kernel), List.mem_of_getElem? (i := 478) (by decide +kernel)⟩
theorem lw_p10 : lw_okq (⟨"ProtoOrders$Merge", "findNext", "()I"⟩, 7) := ⟨⟨by decide +kernel, by decide +kernel⟩, List.mem_of_getElem? (i := 197) (by decide +kernel), List.mem_of_getElem? (i := 481) (by decide +kernel), List.mem_of_getElem? (i := 482) (by decide +kernel)⟩
theorem lw_p11 : lw_okq (⟨"ProtoOrders$Merge", "standsBehindAFirst", "(I)Z"⟩, 7) := ⟨⟨by decide +kernel, by decide +kernel⟩, List.mem_of_getElem? (i := 197) (by decide +kernel), List.mem_of_getElem? (i := 485) (by decide +kernel), List.mem_of_getElem? (i := 486) (by decide +kernel)⟩
theorem lw_p12 : lw_okq (⟨"ProtoOrders$Merge", "takeOut", "(I)V"⟩, 7) := ⟨⟨by decide +kernel, by decide +kernel⟩, List.mem_of_getElem? (i := 197) (by decide +kernel), List.mem_of_getElem? (i := 489) (by decide +kernel), List.mem_of_getElem? (i := 490) (by decide +kernel)⟩
theorem lw_p13 : lw_okq (⟨"ProtoOrders$Reader", "readSlots", "(LProtoOrders$World;I)Z"⟩, 6) := ⟨⟨by decide +kernel, by decide +kernel⟩, List.mem_of_getElem? (i := 232) (by decide +kernel), List.mem_of_getElem? (i := 502) (by decide +kernel), List.mem_of_getElem? (i := 503) (by decide +kernel)⟩
theorem lw_p14 : lw_okq (⟨"ProtoOrders$Reader", "readMethod", "(LProtoOrders$World;II)Z"⟩, 6) := ⟨⟨by decide +kernel, by decide +kernel⟩, List.mem_of_getElem? (i := 232) (by decide +kernel), List.mem_of_getElem? (i := 506) (by decide +kernel), List.mem_of_getElem? (i := 507) (by decide +kernel)⟩
theorem lw_p15 : lw_okq (⟨"ProtoOrders$Reader", "readValue", "(LProtoOrders$World;II)Z"⟩, 6) := ⟨⟨by decide +kernel, by decide +kernel⟩, List.mem_of_getElem? (i := 232) (by decide +kernel), List.mem_of_getElem? (i := 514) (by decide +kernel), List.mem_of_getElem? (i := 515) (by decide +kernel)⟩
def lw_privs_1 : List (MethodName × Nat) := [(⟨"ProtoOrders", "refuse", "(I)I"⟩, 11), (⟨"ProtoOrders$Reader", "readItem", "(LProtoOrders$World;LProtoOrders$Merge;)Z"⟩, 6), (⟨"ProtoOrders$Reader", "pass", "(I)Z"⟩, 6), (⟨"ProtoOrders$Reader", "stands", "(I)Z"⟩, 6), (⟨"ProtoOrders$Reader", "markFault", "(I)Z"⟩, 6), (⟨"ProtoOrders$Reader", "digitStands", "()Z"⟩, 6), (⟨"ProtoOrders$Reader", "readParents", "(LProtoOrders$World;LProtoOrders$Merge;)Z"⟩, 6), (⟨"ProtoOrders$Reader", "readNumber", "(Z)Z"⟩, 6), (⟨"ProtoOrders$Merge", "layRows", "(LProtoOrders$World;)V"⟩, 7), (⟨"ProtoOrders$Merge", "areAllEmpty", "()Z"⟩, 7), (⟨"ProtoOrders$Merge", "findNext", "()I"⟩, 7), (⟨"ProtoOrders$Merge", "standsBehindAFirst", "(I)Z"⟩, 7), (⟨"ProtoOrders$Merge", "takeOut", "(I)V"⟩, 7), (⟨"ProtoOrders$Reader", "readSlots", "(LProtoOrders$World;I)Z"⟩, 6), (⟨"ProtoOrders$Reader", "readMethod", "(LProtoOrders$World;II)Z"⟩, 6), (⟨"ProtoOrders$Reader", "readValue", "(LProtoOrders$World;II)Z"⟩, 6)]
theorem lw_r1 : ∀ q ∈ lw_privs_1, lw_okq q := List.forall_mem_cons.mpr ⟨lw_p0, List.forall_mem_cons.mpr ⟨lw_p1, List.forall_mem_cons.mpr ⟨lw_p2, List.forall_mem_cons.mpr ⟨lw_p3, List.forall_mem_cons.mpr ⟨lw_p4, List.forall_mem_cons.mpr ⟨lw_p5, List.forall_mem_cons.mpr ⟨lw_p6, List.forall_mem_cons.mpr ⟨lw_p7, List.forall_mem_cons.mpr ⟨lw_p8, List.forall_mem_cons.mpr ⟨lw_p9, List.forall_mem_cons.mpr ⟨lw_p10, List.forall_mem_cons.mpr ⟨lw_p11, List.forall_mem_cons.mpr ⟨lw_p12, List.forall_mem_cons.mpr ⟨lw_p13, List.forall_mem_cons.mpr ⟨lw_p14, List.forall_mem_cons.mpr ⟨lw_p15, fun _ h => absurd h List.not_mem_nil⟩⟩⟩⟩⟩⟩⟩⟩⟩⟩⟩⟩⟩⟩⟩⟩
theorem lw_p16 : lw_okq (⟨"ProtoOrders", "whyNoParents", "(IIII)I"⟩, 11) := ⟨⟨by decide +kernel, by decide +kernel⟩, List.mem_of_getElem? (i := 14) (by decide +kernel), List.mem_of_getElem? (i := 530) (by decide +kernel), List.mem_of_getElem? (i := 531) (by decide +kernel)⟩
theorem lw_p17 : lw_okq (⟨"ProtoOrders", "refuseByTen", "(I)I"⟩, 11) := ⟨⟨by decide +kernel, by decide +kernel⟩, List.mem_of_getElem? (i := 14) (by decide +kernel), List.mem_of_getElem? (i := 549) (by decide +kernel), List.mem_of_getElem? (i := 550) (by decide +kernel)⟩
theorem lw_p18 : lw_okq (⟨"ProtoOrders$Runner", "comeNextTo", "(IIII)V"⟩, 18) := ⟨⟨by decide +kernel, by decide +kernel⟩, List.mem_of_getElem? (i := 22) (by decide +kernel), List.mem_of_getElem? (i := 647) (by decide +kernel), List.mem_of_getElem? (i := 648) (by decide +kernel)⟩
theorem lw_p19 : lw_okq (⟨"ProtoOrders$Runner", "carryOut", "(I)I"⟩, 18) := ⟨⟨by decide +kernel, by decide +kernel⟩, List.mem_of_getElem? (i := 22) (by decide +kernel), List.mem_of_getElem? (i := 651) (by decide +kernel), List.mem_of_getElem? (i := 652) (by decide +kernel)⟩
theorem lw_p20 : lw_okq (⟨"ProtoOrders$Runner", "save", "()V"⟩, 18) := ⟨⟨by decide +kernel, by decide +kernel⟩, List.mem_of_getElem? (i := 22) (by decide +kernel), List.mem_of_getElem? (i := 655) (by decide +kernel), List.mem_of_getElem? (i := 656) (by decide +kernel)⟩
theorem lw_p21 : lw_okq (⟨"ProtoOrders$Runner", "takeStep", "()Z"⟩, 18) := ⟨⟨by decide +kernel, by decide +kernel⟩, List.mem_of_getElem? (i := 22) (by decide +kernel), List.mem_of_getElem? (i := 660) (by decide +kernel), List.mem_of_getElem? (i := 661) (by decide +kernel)⟩
theorem lw_p22 : lw_okq (⟨"ProtoOrders$Runner", "comeToSlot", "()V"⟩, 18) := ⟨⟨by decide +kernel, by decide +kernel⟩, List.mem_of_getElem? (i := 22) (by decide +kernel), List.mem_of_getElem? (i := 664) (by decide +kernel), List.mem_of_getElem? (i := 665) (by decide +kernel)⟩
theorem lw_p23 : lw_okq (⟨"ProtoOrders$Runner", "give", "(I)V"⟩, 18) := ⟨⟨by decide +kernel, by decide +kernel⟩, List.mem_of_getElem? (i := 22) (by decide +kernel), List.mem_of_getElem? (i := 670) (by decide +kernel), List.mem_of_getElem? (i := 671) (by decide +kernel)⟩
theorem lw_p24 : lw_okq (⟨"ProtoOrders$Runner", "startMethod", "(II)V"⟩, 18) := ⟨⟨by decide +kernel, by decide +kernel⟩, List.mem_of_getElem? (i := 22) (by decide +kernel), List.mem_of_getElem? (i := 674) (by decide +kernel), List.mem_of_getElem? (i := 675) (by decide +kernel)⟩
theorem lw_p25 : lw_okq (⟨"ProtoOrders$Runner", "comeToWay", "()V"⟩, 18) := ⟨⟨by decide +kernel, by decide +kernel⟩, List.mem_of_getElem? (i := 22) (by decide +kernel), List.mem_of_getElem? (i := 678) (by decide +kernel), List.mem_of_getElem? (i := 679) (by decide +kernel)⟩
theorem lw_p26 : lw_okq (⟨"ProtoOrders$Runner", "startWay", "(I)V"⟩, 18) := ⟨⟨by decide +kernel, by decide +kernel⟩, List.mem_of_getElem? (i := 22) (by decide +kernel), List.mem_of_getElem? (i := 686) (by decide +kernel), List.mem_of_getElem? (i := 687) (by decide +kernel)⟩
theorem lw_p27 : lw_okq (⟨"ProtoOrders$Runner", "leave", "(IIII)V"⟩, 18) := ⟨⟨by decide +kernel, by decide +kernel⟩, List.mem_of_getElem? (i := 22) (by decide +kernel), List.mem_of_getElem? (i := 694) (by decide +kernel), List.mem_of_getElem? (i := 695) (by decide +kernel)⟩
theorem lw_p28 : lw_okq (⟨"ProtoOrders$Runner", "goOnInCore", "()V"⟩, 18) := ⟨⟨by decide +kernel, by decide +kernel⟩, List.mem_of_getElem? (i := 22) (by decide +kernel), List.mem_of_getElem? (i := 698) (by decide +kernel), List.mem_of_getElem? (i := 699) (by decide +kernel)⟩
theorem lw_p29 : lw_okq (⟨"ProtoOrders$Runner", "run", "()V"⟩, 18) := ⟨⟨by decide +kernel, by decide +kernel⟩, List.mem_of_getElem? (i := 22) (by decide +kernel), List.mem_of_getElem? (i := 702) (by decide +kernel), List.mem_of_getElem? (i := 703) (by decide +kernel)⟩
theorem lw_p30 : lw_okq (⟨"ProtoOrders$Runner", "setOwn", "(I)V"⟩, 18) := ⟨⟨by decide +kernel, by decide +kernel⟩, List.mem_of_getElem? (i := 22) (by decide +kernel), List.mem_of_getElem? (i := 709) (by decide +kernel), List.mem_of_getElem? (i := 710) (by decide +kernel)⟩
theorem lw_p31 : lw_okq (⟨"ProtoOrders$Runner", "giveToFrame", "()V"⟩, 18) := ⟨⟨by decide +kernel, by decide +kernel⟩, List.mem_of_getElem? (i := 22) (by decide +kernel), List.mem_of_getElem? (i := 715) (by decide +kernel), List.mem_of_getElem? (i := 716) (by decide +kernel)⟩
def lw_privs_2 : List (MethodName × Nat) := [(⟨"ProtoOrders", "whyNoParents", "(IIII)I"⟩, 11), (⟨"ProtoOrders", "refuseByTen", "(I)I"⟩, 11), (⟨"ProtoOrders$Runner", "comeNextTo", "(IIII)V"⟩, 18), (⟨"ProtoOrders$Runner", "carryOut", "(I)I"⟩, 18), (⟨"ProtoOrders$Runner", "save", "()V"⟩, 18), (⟨"ProtoOrders$Runner", "takeStep", "()Z"⟩, 18), (⟨"ProtoOrders$Runner", "comeToSlot", "()V"⟩, 18), (⟨"ProtoOrders$Runner", "give", "(I)V"⟩, 18), (⟨"ProtoOrders$Runner", "startMethod", "(II)V"⟩, 18), (⟨"ProtoOrders$Runner", "comeToWay", "()V"⟩, 18), (⟨"ProtoOrders$Runner", "startWay", "(I)V"⟩, 18), (⟨"ProtoOrders$Runner", "leave", "(IIII)V"⟩, 18), (⟨"ProtoOrders$Runner", "goOnInCore", "()V"⟩, 18), (⟨"ProtoOrders$Runner", "run", "()V"⟩, 18), (⟨"ProtoOrders$Runner", "setOwn", "(I)V"⟩, 18), (⟨"ProtoOrders$Runner", "giveToFrame", "()V"⟩, 18)]
theorem lw_r2 : ∀ q ∈ lw_privs_2, lw_okq q := List.forall_mem_cons.mpr ⟨lw_p16, List.forall_mem_cons.mpr ⟨lw_p17, List.forall_mem_cons.mpr ⟨lw_p18, List.forall_mem_cons.mpr ⟨lw_p19, List.forall_mem_cons.mpr ⟨lw_p20, List.forall_mem_cons.mpr ⟨lw_p21, List.forall_mem_cons.mpr ⟨lw_p22, List.forall_mem_cons.mpr ⟨lw_p23, List.forall_mem_cons.mpr ⟨lw_p24, List.forall_mem_cons.mpr ⟨lw_p25, List.forall_mem_cons.mpr ⟨lw_p26, List.forall_mem_cons.mpr ⟨lw_p27, List.forall_mem_cons.mpr ⟨lw_p28, List.forall_mem_cons.mpr ⟨lw_p29, List.forall_mem_cons.mpr ⟨lw_p30, List.forall_mem_cons.mpr ⟨lw_p31, fun _ h => absurd h List.not_mem_nil⟩⟩⟩⟩⟩⟩⟩⟩⟩⟩⟩⟩⟩⟩⟩⟩
theorem lw_p32 : lw_okq (⟨"ProtoOrders$Runner", "failFrame", "()V"⟩, 18) := ⟨⟨by decide +kernel, by decide +kernel⟩, List.mem_of_getElem? (i := 22) (by decide +kernel), List.mem_of_getElem? (i := 719) (by decide +kernel), List.mem_of_getElem? (i := 720) (by decide +kernel)⟩
theorem lw_p33 : lw_okq (⟨"ProtoOrders$Applying", "insert", "(II)V"⟩, 4) := ⟨⟨by decide +kernel, by decide +kernel⟩, List.mem_of_getElem? (i := 90) (by decide +kernel), List.mem_of_getElem? (i := 762) (by decide +kernel), List.mem_of_getElem? (i := 763) (by decide +kernel)⟩
theorem lw_p34 : lw_okq (⟨"ProtoOrders$Applying", "standsBefore", "(II)Z"⟩, 4) := ⟨⟨by decide +kernel, by decide +kernel⟩, List.mem_of_getElem? (i := 90) (by decide +kernel), List.mem_of_getElem? (i := 766) (by decide +kernel), List.mem_of_getElem? (i := 767) (by decide +kernel)⟩
theorem lw_p35 : lw_okq (⟨"ProtoOrders", "liveDay", "()V"⟩, 11) := ⟨⟨by decide +kernel, by decide +kernel⟩, List.mem_of_getElem? (i := 14) (by decide +kernel), List.mem_of_getElem? (i := 803) (by decide +kernel), List.mem_of_getElem? (i := 804) (by decide +kernel)⟩
theorem lw_p36 : lw_okq (⟨"ProtoOrdersModel", "no", "(I)I"⟩, 42) := ⟨⟨by decide +kernel, by decide +kernel⟩, List.mem_of_getElem? (i := 845) (by decide +kernel), List.mem_of_getElem? (i := 985) (by decide +kernel), List.mem_of_getElem? (i := 986) (by decide +kernel)⟩
theorem lw_p37 : lw_okq (⟨"ProtoOrdersModel", "noRow", "(I)I"⟩, 42) := ⟨⟨by decide +kernel, by decide +kernel⟩, List.mem_of_getElem? (i := 845) (by decide +kernel), List.mem_of_getElem? (i := 993) (by decide +kernel), List.mem_of_getElem? (i := 994) (by decide +kernel)⟩
theorem lw_p38 : lw_okq (⟨"ProtoOrdersModel", "isRow", "(I)Z"⟩, 42) := ⟨⟨by decide +kernel, by decide +kernel⟩, List.mem_of_getElem? (i := 845) (by decide +kernel), List.mem_of_getElem? (i := 997) (by decide +kernel), List.mem_of_getElem? (i := 998) (by decide +kernel)⟩
theorem lw_p39 : lw_okq (⟨"ProtoOrdersModel", "isOne", "(I)Z"⟩, 42) := ⟨⟨by decide +kernel, by decide +kernel⟩, List.mem_of_getElem? (i := 845) (by decide +kernel), List.mem_of_getElem? (i := 1013) (by decide +kernel), List.mem_of_getElem? (i := 1014) (by decide +kernel)⟩
theorem lw_p40 : lw_okq (⟨"ProtoOrdersModel", "tells", "(III)V"⟩, 42) := ⟨⟨by decide +kernel, by decide +kernel⟩, List.mem_of_getElem? (i := 845) (by decide +kernel), List.mem_of_getElem? (i := 1030) (by decide +kernel), List.mem_of_getElem? (i := 1031) (by decide +kernel)⟩
theorem lw_p41 : lw_okq (⟨"ProtoOrdersModel", "areThere", "(I)Z"⟩, 42) := ⟨⟨by decide +kernel, by decide +kernel⟩, List.mem_of_getElem? (i := 845) (by decide +kernel), List.mem_of_getElem? (i := 1034) (by decide +kernel), List.mem_of_getElem? (i := 1035) (by decide +kernel)⟩
theorem lw_p42 : lw_okq (⟨"ProtoOrdersModel", "isFit", "(I)Z"⟩, 42) := ⟨⟨by decide +kernel, by decide +kernel⟩, List.mem_of_getElem? (i := 845) (by decide +kernel), List.mem_of_getElem? (i := 1038) (by decide +kernel), List.mem_of_getElem? (i := 1039) (by decide +kernel)⟩
theorem lw_p43 : lw_okq (⟨"ProtoOrdersModel", "merges", "([III)Z"⟩, 42) := ⟨⟨by decide +kernel, by decide +kernel⟩, List.mem_of_getElem? (i := 845) (by decide +kernel), List.mem_of_getElem? (i := 1042) (by decide +kernel), List.mem_of_getElem? (i := 1043) (by decide +kernel)⟩
theorem lw_p44 : lw_okq (⟨"ProtoOrdersModel", "lays", "(I[III)V"⟩, 42) := ⟨⟨by decide +kernel, by decide +kernel⟩, List.mem_of_getElem? (i := 845) (by decide +kernel), List.mem_of_getElem? (i := 1046) (by decide +kernel), List.mem_of_getElem? (i := 1047) (by decide +kernel)⟩
theorem lw_p45 : lw_okq (⟨"ProtoOrdersModel", "next", "(I)I"⟩, 42) := ⟨⟨by decide +kernel, by decide +kernel⟩, List.mem_of_getElem? (i := 845) (by decide +kernel), List.mem_of_getElem? (i := 1050) (by decide +kernel), List.mem_of_getElem? (i := 1051) (by decide +kernel)⟩
theorem lw_p46 : lw_okq (⟨"ProtoOrdersModel", "isBehind", "(II)Z"⟩, 42) := ⟨⟨by decide +kernel, by decide +kernel⟩, List.mem_of_getElem? (i := 845) (by decide +kernel), List.mem_of_getElem? (i := 1054) (by decide +kernel), List.mem_of_getElem? (i := 1055) (by decide +kernel)⟩
theorem lw_p47 : lw_okq (⟨"ProtoOrdersModel", "newObject", "(II)I"⟩, 42) := ⟨⟨by decide +kernel, by decide +kernel⟩, List.mem_of_getElem? (i := 845) (by decide +kernel), List.mem_of_getElem? (i := 1058) (by decide +kernel), List.mem_of_getElem? (i := 1059) (by decide +kernel)⟩
def lw_privs_3 : List (MethodName × Nat) := [(⟨"ProtoOrders$Runner", "failFrame", "()V"⟩, 18), (⟨"ProtoOrders$Applying", "insert", "(II)V"⟩, 4), (⟨"ProtoOrders$Applying", "standsBefore", "(II)Z"⟩, 4), (⟨"ProtoOrders", "liveDay", "()V"⟩, 11), (⟨"ProtoOrdersModel", "no", "(I)I"⟩, 42), (⟨"ProtoOrdersModel", "noRow", "(I)I"⟩, 42), (⟨"ProtoOrdersModel", "isRow", "(I)Z"⟩, 42), (⟨"ProtoOrdersModel", "isOne", "(I)Z"⟩, 42), (⟨"ProtoOrdersModel", "tells", "(III)V"⟩, 42), (⟨"ProtoOrdersModel", "areThere", "(I)Z"⟩, 42), (⟨"ProtoOrdersModel", "isFit", "(I)Z"⟩, 42), (⟨"ProtoOrdersModel", "merges", "([III)Z"⟩, 42), (⟨"ProtoOrdersModel", "lays", "(I[III)V"⟩, 42), (⟨"ProtoOrdersModel", "next", "(I)I"⟩, 42), (⟨"ProtoOrdersModel", "isBehind", "(II)Z"⟩, 42), (⟨"ProtoOrdersModel", "newObject", "(II)I"⟩, 42)]
theorem lw_r3 : ∀ q ∈ lw_privs_3, lw_okq q := List.forall_mem_cons.mpr ⟨lw_p32, List.forall_mem_cons.mpr ⟨lw_p33, List.forall_mem_cons.mpr ⟨lw_p34, List.forall_mem_cons.mpr ⟨lw_p35, List.forall_mem_cons.mpr ⟨lw_p36, List.forall_mem_cons.mpr ⟨lw_p37, List.forall_mem_cons.mpr ⟨lw_p38, List.forall_mem_cons.mpr ⟨lw_p39, List.forall_mem_cons.mpr ⟨lw_p40, List.forall_mem_cons.mpr ⟨lw_p41, List.forall_mem_cons.mpr ⟨lw_p42, List.forall_mem_cons.mpr ⟨lw_p43, List.forall_mem_cons.mpr ⟨lw_p44, List.forall_mem_cons.mpr ⟨lw_p45, List.forall_mem_cons.mpr ⟨lw_p46, List.forall_mem_cons.mpr ⟨lw_p47, fun _ h => absurd h List.not_mem_nil⟩⟩⟩⟩⟩⟩⟩⟩⟩⟩⟩⟩⟩⟩⟩⟩
theorem lw_p48 : lw_okq (⟨"ProtoOrdersModel", "no10", "(I)I"⟩, 42) := ⟨⟨by decide +kernel, by decide +kernel⟩, List.mem_of_getElem? (i := 845) (by decide +kernel), List.mem_of_getElem? (i := 1066) (by decide +kernel), List.mem_of_getElem? (i := 1067) (by decide +kernel)⟩
theorem lw_p49 : lw_okq (⟨"ProtoOrdersModel", "item", "()Z"⟩, 42) := ⟨⟨by decide +kernel, by decide +kernel⟩, List.mem_of_getElem? (i := 845) (by decide +kernel), List.mem_of_getElem? (i := 1074) (by decide +kernel), List.mem_of_getElem? (i := 1075) (by decide +kernel)⟩
theorem lw_p50 : lw_okq (⟨"ProtoOrdersModel", "is", "(I)Z"⟩, 42) := ⟨⟨by decide +kernel, by decide +kernel⟩, List.mem_of_getElem? (i := 845) (by decide +kernel), List.mem_of_getElem? (i := 1078) (by decide +kernel), List.mem_of_getElem? (i := 1079) (by decide +kernel)⟩
theorem lw_p51 : lw_okq (⟨"ProtoOrdersModel", "sign", "()I"⟩, 42) := ⟨⟨by decide +kernel, by decide +kernel⟩, List.mem_of_getElem? (i := 845) (by decide +kernel), List.mem_of_getElem? (i := 1082) (by decide +kernel), List.mem_of_getElem? (i := 1083) (by decide +kernel)⟩
theorem lw_p52 : lw_okq (⟨"ProtoOrdersModel", "isDigit", "(I)Z"⟩, 42) := ⟨⟨by decide +kernel, by decide +kernel⟩, List.mem_of_getElem? (i := 845) (by decide +kernel), List.mem_of_getElem? (i := 1086) (by decide +kernel), List.mem_of_getElem? (i := 1087) (by decide +kernel)⟩
theorem lw_p53 : lw_okq (⟨"ProtoOrdersModel", "isDigit", "()Z"⟩, 42) := ⟨⟨by decide +kernel, by decide +kernel⟩, List.mem_of_getElem? (i := 845) (by decide +kernel), List.mem_of_getElem? (i := 1090) (by decide +kernel), List.mem_of_getElem? (i := 1091) (by decide +kernel)⟩
theorem lw_p54 : lw_okq (⟨"ProtoOrdersModel", "isParent", "(I)Z"⟩, 42) := ⟨⟨by decide +kernel, by decide +kernel⟩, List.mem_of_getElem? (i := 845) (by decide +kernel), List.mem_of_getElem? (i := 1094) (by decide +kernel), List.mem_of_getElem? (i := 1095) (by decide +kernel)⟩
theorem lw_p55 : lw_okq (⟨"ProtoOrdersModel", "isNumber", "()Z"⟩, 42) := ⟨⟨by decide +kernel, by decide +kernel⟩, List.mem_of_getElem? (i := 845) (by decide +kernel), List.mem_of_getElem? (i := 1098) (by decide +kernel), List.mem_of_getElem? (i := 1099) (by decide +kernel)⟩
theorem lw_p56 : lw_okq (⟨"ProtoOrdersModel", "slots", "(I)Z"⟩, 42) := ⟨⟨by decide +kernel, by decide +kernel⟩, List.mem_of_getElem? (i := 845) (by decide +kernel), List.mem_of_getElem? (i := 1102) (by decide +kernel), List.mem_of_getElem? (i := 1103) (by decide +kernel)⟩
theorem lw_p57 : lw_okq (⟨"ProtoOrdersModel", "isSigned", "()Z"⟩, 42) := ⟨⟨by decide +kernel, by decide +kernel⟩, List.mem_of_getElem? (i := 845) (by decide +kernel), List.mem_of_getElem? (i := 1106) (by decide +kernel), List.mem_of_getElem? (i := 1107) (by decide +kernel)⟩
theorem lw_p58 : lw_okq (⟨"ProtoOrdersModel", "holds", "(IIZII)V"⟩, 42) := ⟨⟨by decide +kernel, by decide +kernel⟩, List.mem_of_getElem? (i := 845) (by decide +kernel), List.mem_of_getElem? (i := 1110) (by decide +kernel), List.mem_of_getElem? (i := 1111) (by decide +kernel)⟩
theorem lw_p59 : lw_okq (⟨"ProtoOrdersModel", "drops", "(II)V"⟩, 42) := ⟨⟨by decide +kernel, by decide +kernel⟩, List.mem_of_getElem? (i := 845) (by decide +kernel), List.mem_of_getElem? (i := 1136) (by decide +kernel), List.mem_of_getElem? (i := 1137) (by decide +kernel)⟩
theorem lw_p60 : lw_okq (⟨"ProtoOrdersModel", "allFound", "(I)I"⟩, 42) := ⟨⟨by decide +kernel, by decide +kernel⟩, List.mem_of_getElem? (i := 845) (by decide +kernel), List.mem_of_getElem? (i := 1144) (by decide +kernel), List.mem_of_getElem? (i := 1145) (by decide +kernel)⟩
theorem lw_p61 : lw_okq (⟨"ProtoOrdersModel", "family", "(I)I"⟩, 42) := ⟨⟨by decide +kernel, by decide +kernel⟩, List.mem_of_getElem? (i := 845) (by decide +kernel), List.mem_of_getElem? (i := 1148) (by decide +kernel), List.mem_of_getElem? (i := 1149) (by decide +kernel)⟩
theorem lw_p62 : lw_okq (⟨"ProtoOrdersModel", "place", "(II)I"⟩, 42) := ⟨⟨by decide +kernel, by decide +kernel⟩, List.mem_of_getElem? (i := 845) (by decide +kernel), List.mem_of_getElem? (i := 1152) (by decide +kernel), List.mem_of_getElem? (i := 1153) (by decide +kernel)⟩
theorem lw_p63 : lw_okq (⟨"ProtoOrdersModel", "found", "(III)I"⟩, 42) := ⟨⟨by decide +kernel, by decide +kernel⟩, List.mem_of_getElem? (i := 845) (by decide +kernel), List.mem_of_getElem? (i := 1168) (by decide +kernel), List.mem_of_getElem? (i := 1169) (by decide +kernel)⟩
def lw_privs_4 : List (MethodName × Nat) := [(⟨"ProtoOrdersModel", "no10", "(I)I"⟩, 42), (⟨"ProtoOrdersModel", "item", "()Z"⟩, 42), (⟨"ProtoOrdersModel", "is", "(I)Z"⟩, 42), (⟨"ProtoOrdersModel", "sign", "()I"⟩, 42), (⟨"ProtoOrdersModel", "isDigit", "(I)Z"⟩, 42), (⟨"ProtoOrdersModel", "isDigit", "()Z"⟩, 42), (⟨"ProtoOrdersModel", "isParent", "(I)Z"⟩, 42), (⟨"ProtoOrdersModel", "isNumber", "()Z"⟩, 42), (⟨"ProtoOrdersModel", "slots", "(I)Z"⟩, 42), (⟨"ProtoOrdersModel", "isSigned", "()Z"⟩, 42), (⟨"ProtoOrdersModel", "holds", "(IIZII)V"⟩, 42), (⟨"ProtoOrdersModel", "drops", "(II)V"⟩, 42), (⟨"ProtoOrdersModel", "allFound", "(I)I"⟩, 42), (⟨"ProtoOrdersModel", "family", "(I)I"⟩, 42), (⟨"ProtoOrdersModel", "place", "(II)I"⟩, 42), (⟨"ProtoOrdersModel", "found", "(III)I"⟩, 42)]
theorem lw_r4 : ∀ q ∈ lw_privs_4, lw_okq q := List.forall_mem_cons.mpr ⟨lw_p48, List.forall_mem_cons.mpr ⟨lw_p49, List.forall_mem_cons.mpr ⟨lw_p50, List.forall_mem_cons.mpr ⟨lw_p51, List.forall_mem_cons.mpr ⟨lw_p52, List.forall_mem_cons.mpr ⟨lw_p53, List.forall_mem_cons.mpr ⟨lw_p54, List.forall_mem_cons.mpr ⟨lw_p55, List.forall_mem_cons.mpr ⟨lw_p56, List.forall_mem_cons.mpr ⟨lw_p57, List.forall_mem_cons.mpr ⟨lw_p58, List.forall_mem_cons.mpr ⟨lw_p59, List.forall_mem_cons.mpr ⟨lw_p60, List.forall_mem_cons.mpr ⟨lw_p61, List.forall_mem_cons.mpr ⟨lw_p62, List.forall_mem_cons.mpr ⟨lw_p63, fun _ h => absurd h List.not_mem_nil⟩⟩⟩⟩⟩⟩⟩⟩⟩⟩⟩⟩⟩⟩⟩⟩
theorem lw_p64 : lw_okq (⟨"ProtoOrdersModel", "begins", "(I)V"⟩, 42) := ⟨⟨by decide +kernel, by decide +kernel⟩, List.mem_of_getElem? (i := 845) (by decide +kernel), List.mem_of_getElem? (i := 1184) (by decide +kernel), List.mem_of_getElem? (i := 1185) (by decide +kernel)⟩
theorem lw_p65 : lw_okq (⟨"ProtoOrdersModel", "keepSlots", "([I)V"⟩, 42) := ⟨⟨by decide +kernel, by decide +kernel⟩, List.mem_of_getElem? (i := 845) (by decide +kernel), List.mem_of_getElem? (i := 1188) (by decide +kernel), List.mem_of_getElem? (i := 1189) (by decide +kernel)⟩
theorem lw_p66 : lw_okq (⟨"ProtoOrdersModel", "sends", "(II)I"⟩, 42) := ⟨⟨by decide +kernel, by decide +kernel⟩, List.mem_of_getElem? (i := 845) (by decide +kernel), List.mem_of_getElem? (i := 1192) (by decide +kernel), List.mem_of_getElem? (i := 1193) (by decide +kernel)⟩
theorem lw_p67 : lw_okq (⟨"ProtoOrdersModel", "gives", "(III)I"⟩, 42) := ⟨⟨by decide +kernel, by decide +kernel⟩, List.mem_of_getElem? (i := 845) (by decide +kernel), List.mem_of_getElem? (i := 1196) (by decide +kernel), List.mem_of_getElem? (i := 1197) (by decide +kernel)⟩
theorem lw_p68 : lw_okq (⟨"ProtoOrdersModel", "fails", "()I"⟩, 42) := ⟨⟨by decide +kernel, by decide +kernel⟩, List.mem_of_getElem? (i := 845) (by decide +kernel), List.mem_of_getElem? (i := 1200) (by decide +kernel), List.mem_of_getElem? (i := 1201) (by decide +kernel)⟩
theorem lw_p69 : lw_okq (⟨"ProtoOrdersModel", "runs", "(IIIIII)I"⟩, 42) := ⟨⟨by decide +kernel, by decide +kernel⟩, List.mem_of_getElem? (i := 845) (by decide +kernel), List.mem_of_getElem? (i := 1204) (by decide +kernel), List.mem_of_getElem? (i := 1205) (by decide +kernel)⟩
theorem lw_p70 : lw_okq (⟨"ProtoOrdersModel", "next", "(IIII)I"⟩, 42) := ⟨⟨by decide +kernel, by decide +kernel⟩, List.mem_of_getElem? (i := 845) (by decide +kernel), List.mem_of_getElem? (i := 1208) (by decide +kernel), List.mem_of_getElem? (i := 1209) (by decide +kernel)⟩
theorem lw_p71 : lw_okq (⟨"ProtoOrdersModel", "goes", "(IIII)I"⟩, 42) := ⟨⟨by decide +kernel, by decide +kernel⟩, List.mem_of_getElem? (i := 845) (by decide +kernel), List.mem_of_getElem? (i := 1212) (by decide +kernel), List.mem_of_getElem? (i := 1213) (by decide +kernel)⟩
theorem lw_p72 : lw_okq (⟨"ProtoOrdersModel", "way", "(II)I"⟩, 42) := ⟨⟨by decide +kernel, by decide +kernel⟩, List.mem_of_getElem? (i := 845) (by decide +kernel), List.mem_of_getElem? (i := 1216) (by decide +kernel), List.mem_of_getElem? (i := 1217) (by decide +kernel)⟩
theorem lw_p73 : lw_okq (⟨"ProtoOrdersModel", "core", "(I)I"⟩, 42) := ⟨⟨by decide +kernel, by decide +kernel⟩, List.mem_of_getElem? (i := 845) (by decide +kernel), List.mem_of_getElem? (i := 1220) (by decide +kernel), List.mem_of_getElem? (i := 1221) (by decide +kernel)⟩
theorem lw_p74 : lw_okq (⟨"ProtoOrdersModel", "sets", "(II)I"⟩, 42) := ⟨⟨by decide +kernel, by decide +kernel⟩, List.mem_of_getElem? (i := 845) (by decide +kernel), List.mem_of_getElem? (i := 1227) (by decide +kernel), List.mem_of_getElem? (i := 1228) (by decide +kernel)⟩
theorem lw_p75 : lw_okq (⟨"ProtoOrdersModel", "done", "(I)I"⟩, 42) := ⟨⟨by decide +kernel, by decide +kernel⟩, List.mem_of_getElem? (i := 845) (by decide +kernel), List.mem_of_getElem? (i := 1231) (by decide +kernel), List.mem_of_getElem? (i := 1232) (by decide +kernel)⟩
theorem lw_p76 : lw_okq (⟨"ProtoOrdersModel", "slotsAgain", "([I)V"⟩, 42) := ⟨⟨by decide +kernel, by decide +kernel⟩, List.mem_of_getElem? (i := 845) (by decide +kernel), List.mem_of_getElem? (i := 1235) (by decide +kernel), List.mem_of_getElem? (i := 1236) (by decide +kernel)⟩
theorem lw_p77 : lw_okq (⟨"ProtoOrdersModel", "tries", "(III)I"⟩, 42) := ⟨⟨by decide +kernel, by decide +kernel⟩, List.mem_of_getElem? (i := 845) (by decide +kernel), List.mem_of_getElem? (i := 1247) (by decide +kernel), List.mem_of_getElem? (i := 1248) (by decide +kernel)⟩
theorem lw_p78 : lw_okq (⟨"ProtoOrdersModel", "stands", "(III)V"⟩, 42) := ⟨⟨by decide +kernel, by decide +kernel⟩, List.mem_of_getElem? (i := 845) (by decide +kernel), List.mem_of_getElem? (i := 1266) (by decide +kernel), List.mem_of_getElem? (i := 1267) (by decide +kernel)⟩
theorem lw_p79 : lw_okq (⟨"ProtoOrdersModel", "isAhead", "(IIII)Z"⟩, 42) := ⟨⟨by decide +kernel, by decide +kernel⟩, List.mem_of_getElem? (i := 845) (by decide +kernel), List.mem_of_getElem? (i := 1270) (by decide +kernel), List.mem_of_getElem? (i := 1271) (by decide +kernel)⟩
def lw_privs_5 : List (MethodName × Nat) := [(⟨"ProtoOrdersModel", "begins", "(I)V"⟩, 42), (⟨"ProtoOrdersModel", "keepSlots", "([I)V"⟩, 42), (⟨"ProtoOrdersModel", "sends", "(II)I"⟩, 42), (⟨"ProtoOrdersModel", "gives", "(III)I"⟩, 42), (⟨"ProtoOrdersModel", "fails", "()I"⟩, 42), (⟨"ProtoOrdersModel", "runs", "(IIIIII)I"⟩, 42), (⟨"ProtoOrdersModel", "next", "(IIII)I"⟩, 42), (⟨"ProtoOrdersModel", "goes", "(IIII)I"⟩, 42), (⟨"ProtoOrdersModel", "way", "(II)I"⟩, 42), (⟨"ProtoOrdersModel", "core", "(I)I"⟩, 42), (⟨"ProtoOrdersModel", "sets", "(II)I"⟩, 42), (⟨"ProtoOrdersModel", "done", "(I)I"⟩, 42), (⟨"ProtoOrdersModel", "slotsAgain", "([I)V"⟩, 42), (⟨"ProtoOrdersModel", "tries", "(III)I"⟩, 42), (⟨"ProtoOrdersModel", "stands", "(III)V"⟩, 42), (⟨"ProtoOrdersModel", "isAhead", "(IIII)Z"⟩, 42)]
theorem lw_r5 : ∀ q ∈ lw_privs_5, lw_okq q := List.forall_mem_cons.mpr ⟨lw_p64, List.forall_mem_cons.mpr ⟨lw_p65, List.forall_mem_cons.mpr ⟨lw_p66, List.forall_mem_cons.mpr ⟨lw_p67, List.forall_mem_cons.mpr ⟨lw_p68, List.forall_mem_cons.mpr ⟨lw_p69, List.forall_mem_cons.mpr ⟨lw_p70, List.forall_mem_cons.mpr ⟨lw_p71, List.forall_mem_cons.mpr ⟨lw_p72, List.forall_mem_cons.mpr ⟨lw_p73, List.forall_mem_cons.mpr ⟨lw_p74, List.forall_mem_cons.mpr ⟨lw_p75, List.forall_mem_cons.mpr ⟨lw_p76, List.forall_mem_cons.mpr ⟨lw_p77, List.forall_mem_cons.mpr ⟨lw_p78, List.forall_mem_cons.mpr ⟨lw_p79, fun _ h => absurd h List.not_mem_nil⟩⟩⟩⟩⟩⟩⟩⟩⟩⟩⟩⟩⟩⟩⟩⟩
theorem lw_p80 : lw_okq (⟨"ProtoOrdersModel", "far", "(III)I"⟩, 42) := ⟨⟨by decide +kernel, by decide +kernel⟩, List.mem_of_getElem? (i := 845) (by decide +kernel), List.mem_of_getElem? (i := 1274) (by decide +kernel), List.mem_of_getElem? (i := 1275) (by decide +kernel)⟩
theorem lw_p81 : lw_okq (⟨"ProtoOrdersModel", "read", "(II)I"⟩, 42) := ⟨⟨by decide +kernel, by decide +kernel⟩, List.mem_of_getElem? (i := 845) (by decide +kernel), List.mem_of_getElem? (i := 1298) (by decide +kernel), List.mem_of_getElem? (i := 1299) (by decide +kernel)⟩
theorem lw_p82 : lw_okq (⟨"ProtoOrdersModel", "draw", "(I)I"⟩, 42) := ⟨⟨by decide +kernel, by decide +kernel⟩, List.mem_of_getElem? (i := 845) (by decide +kernel), List.mem_of_getElem? (i := 1306) (by decide +kernel), List.mem_of_getElem? (i := 1307) (by decide +kernel)⟩
theorem lw_p83 : lw_okq (⟨"ProtoOrdersModel", "allSlots", "()I"⟩, 42) := ⟨⟨by decide +kernel, by decide +kernel⟩, List.mem_of_getElem? (i := 845) (by decide +kernel), List.mem_of_getElem? (i := 1311) (by decide +kernel), List.mem_of_getElem? (i := 1312) (by decide +kernel)⟩
theorem lw_p84 : lw_okq (⟨"ProtoOrdersModel", "allMethods", "()I"⟩, 42) := ⟨⟨by decide +kernel, by decide +kernel⟩, List.mem_of_getElem? (i := 845) (by decide +kernel), List.mem_of_getElem? (i := 1331) (by decide +kernel), List.mem_of_getElem? (i := 1332) (by decide +kernel)⟩
def lw_privs_6 : List (MethodName × Nat) := [(⟨"ProtoOrdersModel", "far", "(III)I"⟩, 42), (⟨"ProtoOrdersModel", "read", "(II)I"⟩, 42), (⟨"ProtoOrdersModel", "draw", "(I)I"⟩, 42), (⟨"ProtoOrdersModel", "allSlots", "()I"⟩, 42), (⟨"ProtoOrdersModel", "allMethods", "()I"⟩, 42)]
theorem lw_r6 : ∀ q ∈ lw_privs_6, lw_okq q := List.forall_mem_cons.mpr ⟨lw_p80, List.forall_mem_cons.mpr ⟨lw_p81, List.forall_mem_cons.mpr ⟨lw_p82, List.forall_mem_cons.mpr ⟨lw_p83, List.forall_mem_cons.mpr ⟨lw_p84, fun _ h => absurd h List.not_mem_nil⟩⟩⟩⟩⟩
def lw_privs : List (MethodName × Nat) := lw_privs_1 ++ (lw_privs_2 ++ (lw_privs_3 ++ (lw_privs_4 ++ (lw_privs_5 ++ (lw_privs_6)))))
def lw_tbl : List Cond := k2_sels lw_privs ++ tables_1
theorem lw_privs_ok : ∀ q ∈ lw_privs, lw_okq q := by
  show ∀ q ∈ lw_privs_1 ++ (lw_privs_2 ++ (lw_privs_3 ++ (lw_privs_4 ++ (lw_privs_5 ++ (lw_privs_6))))), lw_okq q
  exact List.forall_mem_append.mpr ⟨lw_r1, List.forall_mem_append.mpr ⟨lw_r2, List.forall_mem_append.mpr ⟨lw_r3, List.forall_mem_append.mpr ⟨lw_r4, List.forall_mem_append.mpr ⟨lw_r5, lw_r6⟩⟩⟩⟩⟩
-- ===== end of PART A; then your names; then what follows =====
end
section
def RX0 : String := "ProtoOrders$Applying"
def TX0 : u_T := fun k => match k with
  | 0 => ("ProtoOrders$Applying", "sizes", "[I", true)
  | 1 => ("ProtoOrders$Applying", "rows", "[I", true)
  | 2 => ("ProtoOrders$Applying", "fars", "[I", true)
  | _ => ("ProtoOrders$Applying", "nears", "[I", true)
def tyX0 : Nat → FieldType := fun k => match k with
  | 0 => .array .int
  | 1 => .array .int
  | 2 => .array .int
  | _ => .array .int
abbrev wsX00 : List Cond := u_ws RX0 TX0 4
theorem nmX0 : ∀ a, a < 4 → ∀ b, b < 4 → a ≠ b → (TX0 a).2.1 ≠ (TX0 b).2.1 := by decide +kernel
theorem tyX0_ok : ∀ k, k < 4 → parseFieldDescriptor (TX0 k).2.2.1 = some (tyX0 k) := by decide +kernel
abbrev cX0_init : ByteArray := prog_2_method_1_code
def yX0_init : MethodName := ⟨RX0, "<init>", "()V"⟩
abbrev cX0_find : ByteArray := prog_2_method_2_code
def yX0_find : MethodName := ⟨RX0, "find", "(LProtoOrders$World;III)V"⟩
abbrev cX0_insert : ByteArray := prog_2_method_3_code
def yX0_insert : MethodName := ⟨RX0, "insert", "(II)V"⟩
abbrev cX0_standsBefore : ByteArray := prog_2_method_4_code
def yX0_standsBefore : MethodName := ⟨RX0, "standsBefore", "(II)Z"⟩
abbrev cX0_wayAt : ByteArray := prog_2_method_5_code
def yX0_wayAt : MethodName := ⟨RX0, "wayAt", "(II)I"⟩
abbrev cX0_isTied : ByteArray := prog_2_method_6_code
def yX0_isTied : MethodName := ⟨RX0, "isTied", "()Z"⟩
def RX1 : String := "ProtoOrders$Merge"
def TX1 : u_T := fun k => match k with
  | 0 => ("ProtoOrders$Merge", "parents", "[I", true)
  | 1 => ("ProtoOrders$Merge", "parentCount", "I", false)
  | 2 => ("ProtoOrders$Merge", "merged", "[I", true)
  | 3 => ("ProtoOrders$Merge", "size", "I", false)
  | 4 => ("ProtoOrders$Merge", "rows", "[I", true)
  | 5 => ("ProtoOrders$Merge", "starts", "[I", true)
  | _ => ("ProtoOrders$Merge", "ends", "[I", true)
def tyX1 : Nat → FieldType := fun k => match k with
  | 0 => .array .int
  | 1 => .int
  | 2 => .array .int
  | 3 => .int
  | 4 => .array .int
  | 5 => .array .int
  | _ => .array .int
abbrev wsX10 : List Cond := u_ws RX1 TX1 7
theorem nmX1 : ∀ a, a < 7 → ∀ b, b < 7 → a ≠ b → (TX1 a).2.1 ≠ (TX1 b).2.1 := by decide +kernel
theorem tyX1_ok : ∀ k, k < 7 → parseFieldDescriptor (TX1 k).2.2.1 = some (tyX1 k) := by decide +kernel
abbrev cX1_init : ByteArray := prog_3_method_1_code
def yX1_init : MethodName := ⟨RX1, "<init>", "()V"⟩
abbrev cX1_tellFirst : ByteArray := prog_3_method_2_code
def yX1_tellFirst : MethodName := ⟨RX1, "tellFirst", "(IIII)V"⟩
abbrev cX1_tellNone : ByteArray := prog_3_method_3_code
def yX1_tellNone : MethodName := ⟨RX1, "tellNone", "()V"⟩
abbrev cX1_tells : ByteArray := prog_3_method_4_code
def yX1_tells : MethodName := ⟨RX1, "tells", "(I)Z"⟩
abbrev cX1_tellOneMore : ByteArray := prog_3_method_5_code
def yX1_tellOneMore : MethodName := ⟨RX1, "tellOneMore", "(I)V"⟩
abbrev cX1_standsAhead : ByteArray := prog_3_method_6_code
def yX1_standsAhead : MethodName := ⟨RX1, "standsAhead", "(I)Z"⟩
abbrev cX1_findOrder : ByteArray := prog_3_method_7_code
def yX1_findOrder : MethodName := ⟨RX1, "findOrder", "(LProtoOrders$World;)Z"⟩
abbrev cX1_layRows : ByteArray := prog_3_method_8_code
def yX1_layRows : MethodName := ⟨RX1, "layRows", "(LProtoOrders$World;)V"⟩
abbrev cX1_areAllEmpty : ByteArray := prog_3_method_9_code
def yX1_areAllEmpty : MethodName := ⟨RX1, "areAllEmpty", "()Z"⟩
abbrev cX1_findNext : ByteArray := prog_3_method_10_code
def yX1_findNext : MethodName := ⟨RX1, "findNext", "()I"⟩
abbrev cX1_standsBehindAFirst : ByteArray := prog_3_method_11_code
def yX1_standsBehindAFirst : MethodName := ⟨RX1, "standsBehindAFirst", "(I)Z"⟩
abbrev cX1_takeOut : ByteArray := prog_3_method_12_code
def yX1_takeOut : MethodName := ⟨RX1, "takeOut", "(I)V"⟩
def RX2 : String := "ProtoOrders$Reader"
def TX2 : u_T := fun k => match k with
  | 0 => ("ProtoOrders$Reader", "items", "I", false)
  | 1 => ("ProtoOrders$Reader", "text", "[I", true)
  | 2 => ("ProtoOrders$Reader", "size", "I", false)
  | 3 => ("ProtoOrders$Reader", "at", "I", false)
  | 4 => ("ProtoOrders$Reader", "faultAt", "I", false)
  | _ => ("ProtoOrders$Reader", "number", "I", false)
def tyX2 : Nat → FieldType := fun k => match k with
  | 0 => .int
  | 1 => .array .int
  | 2 => .int
  | 3 => .int
  | 4 => .int
  | _ => .int
abbrev wsX20 : List Cond := u_ws RX2 TX2 6
theorem nmX2 : ∀ a, a < 6 → ∀ b, b < 6 → a ≠ b → (TX2 a).2.1 ≠ (TX2 b).2.1 := by decide +kernel
theorem tyX2_ok : ∀ k, k < 6 → parseFieldDescriptor (TX2 k).2.2.1 = some (tyX2 k) := by decide +kernel
abbrev cX2_init : ByteArray := prog_4_method_1_code
def yX2_init : MethodName := ⟨RX2, "<init>", "()V"⟩
abbrev cX2_lay : ByteArray := prog_4_method_2_code
def yX2_lay : MethodName := ⟨RX2, "lay", "(LProtoOrders$Shelves;I)V"⟩
abbrev cX2_readText : ByteArray := prog_4_method_3_code
def yX2_readText : MethodName := ⟨RX2, "readText", "(LProtoOrders$World;LProtoOrders$Merge;)I"⟩
abbrev cX2_readItem : ByteArray := prog_4_method_4_code
def yX2_readItem : MethodName := ⟨RX2, "readItem", "(LProtoOrders$World;LProtoOrders$Merge;)Z"⟩
abbrev cX2_readParents : ByteArray := prog_4_method_5_code
def yX2_readParents : MethodName := ⟨RX2, "readParents", "(LProtoOrders$World;LProtoOrders$Merge;)Z"⟩
abbrev cX2_readSlots : ByteArray := prog_4_method_6_code
def yX2_readSlots : MethodName := ⟨RX2, "readSlots", "(LProtoOrders$World;I)Z"⟩
abbrev cX2_readValue : ByteArray := prog_4_method_7_code
def yX2_readValue : MethodName := ⟨RX2, "readValue", "(LProtoOrders$World;II)Z"⟩
abbrev cX2_readMethod : ByteArray := prog_4_method_8_code
def yX2_readMethod : MethodName := ⟨RX2, "readMethod", "(LProtoOrders$World;II)Z"⟩
abbrev cX2_readNumber : ByteArray := prog_4_method_9_code
def yX2_readNumber : MethodName := ⟨RX2, "readNumber", "(Z)Z"⟩
abbrev cX2_pass : ByteArray := prog_4_method_10_code
def yX2_pass : MethodName := ⟨RX2, "pass", "(I)Z"⟩
abbrev cX2_stands : ByteArray := prog_4_method_11_code
def yX2_stands : MethodName := ⟨RX2, "stands", "(I)Z"⟩
abbrev cX2_digitStands : ByteArray := prog_4_method_12_code
def yX2_digitStands : MethodName := ⟨RX2, "digitStands", "()Z"⟩
abbrev cX2_markFault : ByteArray := prog_4_method_13_code
def yX2_markFault : MethodName := ⟨RX2, "markFault", "(I)Z"⟩
def RX3 : String := "ProtoOrders$Runner"
def TX3 : u_T := fun k => match k with
  | 0 => ("ProtoOrders$Runner", "world", "LProtoOrders$World;", true)
  | 1 => ("ProtoOrders$Runner", "applying", "LProtoOrders$Applying;", true)
  | 2 => ("ProtoOrders$Runner", "traced", "[I", true)
  | 3 => ("ProtoOrders$Runner", "waysRan", "I", false)
  | 4 => ("ProtoOrders$Runner", "ran", "I", false)
  | 5 => ("ProtoOrders$Runner", "number", "I", false)
  | 6 => ("ProtoOrders$Runner", "state", "I", false)
  | 7 => ("ProtoOrders$Runner", "self", "I", false)
  | 8 => ("ProtoOrders$Runner", "chain", "I", false)
  | 9 => ("ProtoOrders$Runner", "slot", "I", false)
  | 10 => ("ProtoOrders$Runner", "index", "I", false)
  | 11 => ("ProtoOrders$Runner", "function", "I", false)
  | 12 => ("ProtoOrders$Runner", "k", "I", false)
  | 13 => ("ProtoOrders$Runner", "frames", "[I", true)
  | 14 => ("ProtoOrders$Runner", "depth", "I", false)
  | 15 => ("ProtoOrders$Runner", "savedSorts", "[I", true)
  | 16 => ("ProtoOrders$Runner", "savedFunctions", "[I", true)
  | _ => ("ProtoOrders$Runner", "savedNumbers", "[I", true)
def tyX3 : Nat → FieldType := fun k => match k with
  | 0 => .object "ProtoOrders$World"
  | 1 => .object "ProtoOrders$Applying"
  | 2 => .array .int
  | 3 => .int
  | 4 => .int
  | 5 => .int
  | 6 => .int
  | 7 => .int
  | 8 => .int
  | 9 => .int
  | 10 => .int
  | 11 => .int
  | 12 => .int
  | 13 => .array .int
  | 14 => .int
  | 15 => .array .int
  | 16 => .array .int
  | _ => .array .int
abbrev wsX30 : List Cond := u_ws RX3 TX3 18
theorem nmX3 : ∀ a, a < 18 → ∀ b, b < 18 → a ≠ b → (TX3 a).2.1 ≠ (TX3 b).2.1 := by decide +kernel
theorem tyX3_ok : ∀ k, k < 18 → parseFieldDescriptor (TX3 k).2.2.1 = some (tyX3 k) := by decide +kernel
abbrev cX3_init : ByteArray := prog_5_method_1_code
def yX3_init : MethodName := ⟨RX3, "<init>", "()V"⟩
abbrev cX3_beginAct : ByteArray := prog_5_method_2_code
def yX3_beginAct : MethodName := ⟨RX3, "beginAct", "()V"⟩
abbrev cX3_sendSlot : ByteArray := prog_5_method_3_code
def yX3_sendSlot : MethodName := ⟨RX3, "sendSlot", "(III)I"⟩
abbrev cX3_callGeneric : ByteArray := prog_5_method_4_code
def yX3_callGeneric : MethodName := ⟨RX3, "callGeneric", "(IIII)I"⟩
abbrev cX3_undo : ByteArray := prog_5_method_5_code
def yX3_undo : MethodName := ⟨RX3, "undo", "()V"⟩
abbrev cX3_save : ByteArray := prog_5_method_6_code
def yX3_save : MethodName := ⟨RX3, "save", "()V"⟩
abbrev cX3_carryOut : ByteArray := prog_5_method_7_code
def yX3_carryOut : MethodName := ⟨RX3, "carryOut", "(I)I"⟩
abbrev cX3_takeStep : ByteArray := prog_5_method_8_code
def yX3_takeStep : MethodName := ⟨RX3, "takeStep", "()Z"⟩
abbrev cX3_comeNextTo : ByteArray := prog_5_method_9_code
def yX3_comeNextTo : MethodName := ⟨RX3, "comeNextTo", "(IIII)V"⟩
abbrev cX3_give : ByteArray := prog_5_method_10_code
def yX3_give : MethodName := ⟨RX3, "give", "(I)V"⟩
abbrev cX3_comeToSlot : ByteArray := prog_5_method_11_code
def yX3_comeToSlot : MethodName := ⟨RX3, "comeToSlot", "()V"⟩
abbrev cX3_comeToWay : ByteArray := prog_5_method_12_code
def yX3_comeToWay : MethodName := ⟨RX3, "comeToWay", "()V"⟩
abbrev cX3_startWay : ByteArray := prog_5_method_13_code
def yX3_startWay : MethodName := ⟨RX3, "startWay", "(I)V"⟩
abbrev cX3_startMethod : ByteArray := prog_5_method_14_code
def yX3_startMethod : MethodName := ⟨RX3, "startMethod", "(II)V"⟩
abbrev cX3_run : ByteArray := prog_5_method_15_code
def yX3_run : MethodName := ⟨RX3, "run", "()V"⟩
abbrev cX3_setOwn : ByteArray := prog_5_method_16_code
def yX3_setOwn : MethodName := ⟨RX3, "setOwn", "(I)V"⟩
abbrev cX3_leave : ByteArray := prog_5_method_17_code
def yX3_leave : MethodName := ⟨RX3, "leave", "(IIII)V"⟩
abbrev cX3_giveToFrame : ByteArray := prog_5_method_18_code
def yX3_giveToFrame : MethodName := ⟨RX3, "giveToFrame", "()V"⟩
abbrev cX3_goOnInCore : ByteArray := prog_5_method_19_code
def yX3_goOnInCore : MethodName := ⟨RX3, "goOnInCore", "()V"⟩
abbrev cX3_failFrame : ByteArray := prog_5_method_20_code
def yX3_failFrame : MethodName := ⟨RX3, "failFrame", "()V"⟩
def RX4 : String := "ProtoOrders$Shelves"
def TX4 : u_T := fun k => match k with
  | 0 => ("ProtoOrders$Shelves", "contents", "[I", true)
  | 1 => ("ProtoOrders$Shelves", "sizes", "[I", true)
  | _ => ("ProtoOrders$Shelves", "elements", "[J", true)
def tyX4 : Nat → FieldType := fun k => match k with
  | 0 => .array .int
  | 1 => .array .int
  | _ => .array .long
abbrev wsX40 : List Cond := u_ws RX4 TX4 3
theorem nmX4 : ∀ a, a < 3 → ∀ b, b < 3 → a ≠ b → (TX4 a).2.1 ≠ (TX4 b).2.1 := by decide +kernel
theorem tyX4_ok : ∀ k, k < 3 → parseFieldDescriptor (TX4 k).2.2.1 = some (tyX4 k) := by decide +kernel
abbrev cX4_init : ByteArray := prog_6_method_1_code
def yX4_init : MethodName := ⟨RX4, "<init>", "()V"⟩
abbrev cX4_isShelf : ByteArray := prog_6_method_2_code
def yX4_isShelf : MethodName := ⟨RX4, "isShelf", "(I)Z"⟩
abbrev cX4_holdsRow : ByteArray := prog_6_method_3_code
def yX4_holdsRow : MethodName := ⟨RX4, "holdsRow", "(I)Z"⟩
abbrev cX4_holdsObject : ByteArray := prog_6_method_4_code
def yX4_holdsObject : MethodName := ⟨RX4, "holdsObject", "(I)Z"⟩
abbrev cX4_areOfTwoSorts : ByteArray := prog_6_method_5_code
def yX4_areOfTwoSorts : MethodName := ⟨RX4, "areOfTwoSorts", "(II)Z"⟩
abbrev cX4_whyNoRow : ByteArray := prog_6_method_6_code
def yX4_whyNoRow : MethodName := ⟨RX4, "whyNoRow", "(I)I"⟩
abbrev cX4_lay : ByteArray := prog_6_method_7_code
def yX4_lay : MethodName := ⟨RX4, "lay", "(III)V"⟩
abbrev cX4_hasElement : ByteArray := prog_6_method_8_code
def yX4_hasElement : MethodName := ⟨RX4, "hasElement", "(II)Z"⟩
abbrev cX4_hasStretch : ByteArray := prog_6_method_9_code
def yX4_hasStretch : MethodName := ⟨RX4, "hasStretch", "(III)Z"⟩
abbrev cX4_put : ByteArray := prog_6_method_10_code
def yX4_put : MethodName := ⟨RX4, "put", "(IIJ)V"⟩
abbrev cX4_move : ByteArray := prog_6_method_11_code
def yX4_move : MethodName := ⟨RX4, "move", "(IIIII)V"⟩
abbrev cX4_longAt : ByteArray := prog_6_method_12_code
def yX4_longAt : MethodName := ⟨RX4, "longAt", "(II)J"⟩
abbrev cX4_intAt : ByteArray := prog_6_method_13_code
def yX4_intAt : MethodName := ⟨RX4, "intAt", "(II)I"⟩
abbrev cX4_dropObjectsFrom : ByteArray := prog_6_method_14_code
def yX4_dropObjectsFrom : MethodName := ⟨RX4, "dropObjectsFrom", "(I)V"⟩
def RX5 : String := "ProtoOrders$World"
def TX5 : u_T := fun k => match k with
  | 0 => ("ProtoOrders$World", "objects", "I", false)
  | 1 => ("ProtoOrders$World", "ways", "I", false)
  | 2 => ("ProtoOrders$World", "seed", "I", false)
  | 3 => ("ProtoOrders$World", "kinds", "[I", true)
  | 4 => ("ProtoOrders$World", "parentCounts", "[I", true)
  | 5 => ("ProtoOrders$World", "parents", "[I", true)
  | 6 => ("ProtoOrders$World", "orderSizes", "[I", true)
  | 7 => ("ProtoOrders$World", "orders", "[I", true)
  | 8 => ("ProtoOrders$World", "slotSorts", "[I", true)
  | 9 => ("ProtoOrders$World", "slotFunctions", "[I", true)
  | 10 => ("ProtoOrders$World", "slotNumbers", "[I", true)
  | _ => ("ProtoOrders$World", "wayParts", "[I", true)
def tyX5 : Nat → FieldType := fun k => match k with
  | 0 => .int
  | 1 => .int
  | 2 => .int
  | 3 => .array .int
  | 4 => .array .int
  | 5 => .array .int
  | 6 => .array .int
  | 7 => .array .int
  | 8 => .array .int
  | 9 => .array .int
  | 10 => .array .int
  | _ => .array .int
abbrev wsX50 : List Cond := u_ws RX5 TX5 12
theorem nmX5 : ∀ a, a < 12 → ∀ b, b < 12 → a ≠ b → (TX5 a).2.1 ≠ (TX5 b).2.1 := by decide +kernel
theorem tyX5_ok : ∀ k, k < 12 → parseFieldDescriptor (TX5 k).2.2.1 = some (tyX5 k) := by decide +kernel
abbrev cX5_init : ByteArray := prog_7_method_1_code
def yX5_init : MethodName := ⟨RX5, "<init>", "()V"⟩
abbrev cX5_hasObject : ByteArray := prog_7_method_2_code
def yX5_hasObject : MethodName := ⟨RX5, "hasObject", "(I)Z"⟩
abbrev cX5_isFull : ByteArray := prog_7_method_3_code
def yX5_isFull : MethodName := ⟨RX5, "isFull", "()Z"⟩
abbrev cX5_addObject : ByteArray := prog_7_method_4_code
def yX5_addObject : MethodName := ⟨RX5, "addObject", "(ILProtoOrders$Merge;)I"⟩
abbrev cX5_parentAt : ByteArray := prog_7_method_5_code
def yX5_parentAt : MethodName := ⟨RX5, "parentAt", "(II)I"⟩
abbrev cX5_orderAt : ByteArray := prog_7_method_6_code
def yX5_orderAt : MethodName := ⟨RX5, "orderAt", "(II)I"⟩
abbrev cX5_wayPart : ByteArray := prog_7_method_7_code
def yX5_wayPart : MethodName := ⟨RX5, "wayPart", "(II)I"⟩
abbrev cX5_isOfKind : ByteArray := prog_7_method_8_code
def yX5_isOfKind : MethodName := ⟨RX5, "isOfKind", "(II)Z"⟩
abbrev cX5_distanceTo : ByteArray := prog_7_method_9_code
def yX5_distanceTo : MethodName := ⟨RX5, "distanceTo", "(II)I"⟩
abbrev cX5_hasOwn : ByteArray := prog_7_method_10_code
def yX5_hasOwn : MethodName := ⟨RX5, "hasOwn", "(II)Z"⟩
abbrev cX5_putValue : ByteArray := prog_7_method_11_code
def yX5_putValue : MethodName := ⟨RX5, "putValue", "(III)V"⟩
abbrev cX5_putMethod : ByteArray := prog_7_method_12_code
def yX5_putMethod : MethodName := ⟨RX5, "putMethod", "(IIII)V"⟩
abbrev cX5_drop : ByteArray := prog_7_method_13_code
def yX5_drop : MethodName := ⟨RX5, "drop", "(II)V"⟩
abbrev cX5_placeFrom : ByteArray := prog_7_method_14_code
def yX5_placeFrom : MethodName := ⟨RX5, "placeFrom", "(III)I"⟩
abbrev cX5_foundIn : ByteArray := prog_7_method_15_code
def yX5_foundIn : MethodName := ⟨RX5, "foundIn", "(II)I"⟩
abbrev cX5_ownSlots : ByteArray := prog_7_method_16_code
def yX5_ownSlots : MethodName := ⟨RX5, "ownSlots", "(I)I"⟩
abbrev cX5_foundSlots : ByteArray := prog_7_method_17_code
def yX5_foundSlots : MethodName := ⟨RX5, "foundSlots", "(I)I"⟩
abbrev cX5_hiddenSlots : ByteArray := prog_7_method_18_code
def yX5_hiddenSlots : MethodName := ⟨RX5, "hiddenSlots", "(II)I"⟩
abbrev cX5_family : ByteArray := prog_7_method_19_code
def yX5_family : MethodName := ⟨RX5, "family", "(I)I"⟩
abbrev cX5_slotsOfAll : ByteArray := prog_7_method_20_code
def yX5_slotsOfAll : MethodName := ⟨RX5, "slotsOfAll", "()I"⟩
abbrev cX5_methodsOfAll : ByteArray := prog_7_method_21_code
def yX5_methodsOfAll : MethodName := ⟨RX5, "methodsOfAll", "()I"⟩
abbrev cX5_draw : ByteArray := prog_7_method_22_code
def yX5_draw : MethodName := ⟨RX5, "draw", "(I)I"⟩
abbrev cX5_takeFrom : ByteArray := prog_7_method_23_code
def yX5_takeFrom : MethodName := ⟨RX5, "takeFrom", "(LProtoOrders$World;)V"⟩
def RX6 : String := "ProtoOrders"
def TX6 : u_T := fun k => match k with
  | 0 => ("ProtoOrders", "runner", "LProtoOrders$Runner;", true)
  | 1 => ("ProtoOrders", "world", "LProtoOrders$World;", true)
  | 2 => ("ProtoOrders", "image", "LProtoOrders$World;", true)
  | 3 => ("ProtoOrders", "shelves", "LProtoOrders$Shelves;", true)
  | 4 => ("ProtoOrders", "merge", "LProtoOrders$Merge;", true)
  | 5 => ("ProtoOrders", "reader", "LProtoOrders$Reader;", true)
  | 6 => ("ProtoOrders", "refusals", "[I", true)
  | 7 => ("ProtoOrders", "imaged", "Z", false)
  | 8 => ("ProtoOrders", "fault", "I", false)
  | 9 => ("ProtoOrders", "given", "I", false)
  | _ => ("ProtoOrders", "methodsRan", "I", false)
def tyX6 : Nat → FieldType := fun k => match k with
  | 0 => .object "ProtoOrders$Runner"
  | 1 => .object "ProtoOrders$World"
  | 2 => .object "ProtoOrders$World"
  | 3 => .object "ProtoOrders$Shelves"
  | 4 => .object "ProtoOrders$Merge"
  | 5 => .object "ProtoOrders$Reader"
  | 6 => .array .int
  | 7 => .boolean
  | 8 => .int
  | 9 => .int
  | _ => .int
abbrev wsX60 : List Cond := u_ws RX6 TX6 11
theorem nmX6 : ∀ a, a < 11 → ∀ b, b < 11 → a ≠ b → (TX6 a).2.1 ≠ (TX6 b).2.1 := by decide +kernel
theorem tyX6_ok : ∀ k, k < 11 → parseFieldDescriptor (TX6 k).2.2.1 = some (tyX6 k) := by decide +kernel
abbrev cX6_init : ByteArray := prog_1_method_1_code
def yX6_init : MethodName := ⟨RX6, "<init>", "()V"⟩
abbrev cX6_row : ByteArray := prog_1_method_2_code
def yX6_row : MethodName := ⟨RX6, "row", "(III)I"⟩
abbrev cX6_set : ByteArray := prog_1_method_3_code
def yX6_set : MethodName := ⟨RX6, "set", "(IIJ)I"⟩
abbrev cX6_copy : ByteArray := prog_1_method_4_code
def yX6_copy : MethodName := ⟨RX6, "copy", "(IIIII)I"⟩
abbrev cX6_element : ByteArray := prog_1_method_5_code
def yX6_element : MethodName := ⟨RX6, "element", "(II)J"⟩
abbrev cX6_show : ByteArray := prog_1_method_6_code
def yX6_show : MethodName := ⟨RX6, "show", "(II)I"⟩
abbrev cX6_holds : ByteArray := prog_1_method_7_code
def yX6_holds : MethodName := ⟨RX6, "holds", "(I)I"⟩
abbrev cX6_says : ByteArray := prog_1_method_8_code
def yX6_says : MethodName := ⟨RX6, "says", "(II)I"⟩
abbrev cX6_read : ByteArray := prog_1_method_9_code
def yX6_read : MethodName := ⟨RX6, "read", "(I)I"⟩
abbrev cX6_fault : ByteArray := prog_1_method_10_code
def yX6_fault : MethodName := ⟨RX6, "fault", "()I"⟩
abbrev cX6_make : ByteArray := prog_1_method_11_code
def yX6_make : MethodName := ⟨RX6, "make", "(IIIII)I"⟩
abbrev cX6_wouldBe : ByteArray := prog_1_method_12_code
def yX6_wouldBe : MethodName := ⟨RX6, "wouldBe", "(IIIII)I"⟩
abbrev cX6_value : ByteArray := prog_1_method_13_code
def yX6_value : MethodName := ⟨RX6, "value", "(III)I"⟩
abbrev cX6_method : ByteArray := prog_1_method_14_code
def yX6_method : MethodName := ⟨RX6, "method", "(IIII)I"⟩
abbrev cX6_remove : ByteArray := prog_1_method_15_code
def yX6_remove : MethodName := ⟨RX6, "remove", "(II)I"⟩
abbrev cX6_objectOf : ByteArray := prog_1_method_16_code
def yX6_objectOf : MethodName := ⟨RX6, "objectOf", "(II)I"⟩
abbrev cX6_order : ByteArray := prog_1_method_17_code
def yX6_order : MethodName := ⟨RX6, "order", "(II)I"⟩
abbrev cX6_distance : ByteArray := prog_1_method_18_code
def yX6_distance : MethodName := ⟨RX6, "distance", "(II)I"⟩
abbrev cX6_where : ByteArray := prog_1_method_19_code
def yX6_where : MethodName := ⟨RX6, "where", "(II)I"⟩
abbrev cX6_hidden : ByteArray := prog_1_method_20_code
def yX6_hidden : MethodName := ⟨RX6, "hidden", "(II)I"⟩
abbrev cX6_slotOf : ByteArray := prog_1_method_21_code
def yX6_slotOf : MethodName := ⟨RX6, "slotOf", "(III)I"⟩
abbrev cX6_send : ByteArray := prog_1_method_22_code
def yX6_send : MethodName := ⟨RX6, "send", "(III)I"⟩
abbrev cX6_given : ByteArray := prog_1_method_23_code
def yX6_given : MethodName := ⟨RX6, "given", "()I"⟩
abbrev cX6_trial : ByteArray := prog_1_method_24_code
def yX6_trial : MethodName := ⟨RX6, "trial", "(IIII)I"⟩
abbrev cX6_way : ByteArray := prog_1_method_25_code
def yX6_way : MethodName := ⟨RX6, "way", "(IIIIII)I"⟩
abbrev cX6_wayOf : ByteArray := prog_1_method_26_code
def yX6_wayOf : MethodName := ⟨RX6, "wayOf", "(II)I"⟩
abbrev cX6_applies : ByteArray := prog_1_method_27_code
def yX6_applies : MethodName := ⟨RX6, "applies", "(IIIII)I"⟩
abbrev cX6_tie : ByteArray := prog_1_method_28_code
def yX6_tie : MethodName := ⟨RX6, "tie", "(III)I"⟩
abbrev cX6_call : ByteArray := prog_1_method_29_code
def yX6_call : MethodName := ⟨RX6, "call", "(IIII)I"⟩
abbrev cX6_trace : ByteArray := prog_1_method_30_code
def yX6_trace : MethodName := ⟨RX6, "trace", "(I)I"⟩
abbrev cX6_judge : ByteArray := prog_1_method_31_code
def yX6_judge : MethodName := ⟨RX6, "judge", "(IIII)I"⟩
abbrev cX6_days : ByteArray := prog_1_method_32_code
def yX6_days : MethodName := ⟨RX6, "days", "(I)I"⟩
abbrev cX6_seed : ByteArray := prog_1_method_33_code
def yX6_seed : MethodName := ⟨RX6, "seed", "(I)I"⟩
abbrev cX6_image : ByteArray := prog_1_method_34_code
def yX6_image : MethodName := ⟨RX6, "image", "()I"⟩
abbrev cX6_restore : ByteArray := prog_1_method_35_code
def yX6_restore : MethodName := ⟨RX6, "restore", "()I"⟩
abbrev cX6_status : ByteArray := prog_1_method_36_code
def yX6_status : MethodName := ⟨RX6, "status", "(I)I"⟩
abbrev cX6_refuse : ByteArray := prog_1_method_37_code
def yX6_refuse : MethodName := ⟨RX6, "refuse", "(I)I"⟩
abbrev cX6_refuseByTen : ByteArray := prog_1_method_38_code
def yX6_refuseByTen : MethodName := ⟨RX6, "refuseByTen", "(I)I"⟩
abbrev cX6_whyNoParents : ByteArray := prog_1_method_39_code
def yX6_whyNoParents : MethodName := ⟨RX6, "whyNoParents", "(IIII)I"⟩
abbrev cX6_liveDay : ByteArray := prog_1_method_40_code
def yX6_liveDay : MethodName := ⟨RX6, "liveDay", "()V"⟩
abbrev cX6_isKind : ByteArray := prog_1_method_41_code
def yX6_isKind : MethodName := ⟨RX6, "isKind", "(I)Z"⟩
abbrev cX6_isSlot : ByteArray := prog_1_method_42_code
def yX6_isSlot : MethodName := ⟨RX6, "isSlot", "(I)Z"⟩
abbrev cX6_isGeneric : ByteArray := prog_1_method_43_code
def yX6_isGeneric : MethodName := ⟨RX6, "isGeneric", "(I)Z"⟩
abbrev cX6_isSort : ByteArray := prog_1_method_44_code
def yX6_isSort : MethodName := ⟨RX6, "isSort", "(I)Z"⟩
abbrev cX6_isFunction : ByteArray := prog_1_method_45_code
def yX6_isFunction : MethodName := ⟨RX6, "isFunction", "(II)Z"⟩
def RX7 : String := "ProtoOrdersModel"
def TX7 : u_T := fun k => match k with
  | 0 => ("ProtoOrdersModel", "objects", "I", false)
  | 1 => ("ProtoOrdersModel", "kind", "[I", true)
  | 2 => ("ProtoOrdersModel", "parents", "[I", true)
  | 3 => ("ProtoOrdersModel", "parent", "[I", true)
  | 4 => ("ProtoOrdersModel", "ordered", "[I", true)
  | 5 => ("ProtoOrdersModel", "order", "[I", true)
  | 6 => ("ProtoOrdersModel", "has", "[I", true)
  | 7 => ("ProtoOrdersModel", "methods", "[I", true)
  | 8 => ("ProtoOrdersModel", "function", "[I", true)
  | 9 => ("ProtoOrdersModel", "number", "[I", true)
  | 10 => ("ProtoOrdersModel", "ways", "I", false)
  | 11 => ("ProtoOrdersModel", "way", "[I", true)
  | 12 => ("ProtoOrdersModel", "seed", "I", false)
  | 13 => ("ProtoOrdersModel", "holding", "[I", true)
  | 14 => ("ProtoOrdersModel", "rowLength", "[I", true)
  | 15 => ("ProtoOrdersModel", "rowOf", "[J", true)
  | 16 => ("ProtoOrdersModel", "fault", "I", false)
  | 17 => ("ProtoOrdersModel", "reading", "I", false)
  | 18 => ("ProtoOrdersModel", "at", "I", false)
  | 19 => ("ProtoOrdersModel", "value", "I", false)
  | 20 => ("ProtoOrdersModel", "first", "I", false)
  | 21 => ("ProtoOrdersModel", "told", "[I", true)
  | 22 => ("ProtoOrdersModel", "refusals", "[I", true)
  | 23 => ("ProtoOrdersModel", "merging", "[I", true)
  | 24 => ("ProtoOrdersModel", "from", "[I", true)
  | 25 => ("ProtoOrdersModel", "until", "[I", true)
  | 26 => ("ProtoOrdersModel", "merged", "[I", true)
  | 27 => ("ProtoOrdersModel", "mergedOnes", "I", false)
  | 28 => ("ProtoOrdersModel", "outcome", "I", false)
  | 29 => ("ProtoOrdersModel", "ran", "I", false)
  | 30 => ("ProtoOrdersModel", "given", "I", false)
  | 31 => ("ProtoOrdersModel", "lastRan", "I", false)
  | 32 => ("ProtoOrdersModel", "lastWays", "I", false)
  | 33 => ("ProtoOrdersModel", "waysRan", "I", false)
  | 34 => ("ProtoOrdersModel", "waysThat", "[I", true)
  | 35 => ("ProtoOrdersModel", "traces", "[I", true)
  | 36 => ("ProtoOrdersModel", "standing", "[I", true)
  | 37 => ("ProtoOrdersModel", "many", "[I", true)
  | 38 => ("ProtoOrdersModel", "self", "I", false)
  | 39 => ("ProtoOrdersModel", "imaged", "Z", false)
  | 40 => ("ProtoOrdersModel", "image", "[I", true)
  | _ => ("ProtoOrdersModel", "ahead", "[I", true)
def tyX7 : Nat → FieldType := fun k => match k with
  | 0 => .int
  | 1 => .array .int
  | 2 => .array .int
  | 3 => .array .int
  | 4 => .array .int
  | 5 => .array .int
  | 6 => .array .int
  | 7 => .array .int
  | 8 => .array .int
  | 9 => .array .int
  | 10 => .int
  | 11 => .array .int
  | 12 => .int
  | 13 => .array .int
  | 14 => .array .int
  | 15 => .array .long
  | 16 => .int
  | 17 => .int
  | 18 => .int
  | 19 => .int
  | 20 => .int
  | 21 => .array .int
  | 22 => .array .int
  | 23 => .array .int
  | 24 => .array .int
  | 25 => .array .int
  | 26 => .array .int
  | 27 => .int
  | 28 => .int
  | 29 => .int
  | 30 => .int
  | 31 => .int
  | 32 => .int
  | 33 => .int
  | 34 => .array .int
  | 35 => .array .int
  | 36 => .array .int
  | 37 => .array .int
  | 38 => .int
  | 39 => .boolean
  | 40 => .array .int
  | _ => .array .int
abbrev wsX70 : List Cond := u_ws RX7 TX7 42
theorem nmX7 : ∀ a, a < 42 → ∀ b, b < 42 → a ≠ b → (TX7 a).2.1 ≠ (TX7 b).2.1 := by decide +kernel
theorem tyX7_ok : ∀ k, k < 42 → parseFieldDescriptor (TX7 k).2.2.1 = some (tyX7 k) := by decide +kernel
abbrev cX7_init : ByteArray := prog_9_method_1_code
def yX7_init : MethodName := ⟨RX7, "<init>", "()V"⟩
abbrev cX7_no : ByteArray := prog_9_method_2_code
def yX7_no : MethodName := ⟨RX7, "no", "(I)I"⟩
abbrev cX7_no10 : ByteArray := prog_9_method_3_code
def yX7_no10 : MethodName := ⟨RX7, "no10", "(I)I"⟩
abbrev cX7_within : ByteArray := prog_9_method_4_code
def yX7_within : MethodName := ⟨RX7, "within", "(III)Z"⟩
abbrev cX7_isOne : ByteArray := prog_9_method_5_code
def yX7_isOne : MethodName := ⟨RX7, "isOne", "(I)Z"⟩
abbrev cX7_isSlot : ByteArray := prog_9_method_6_code
def yX7_isSlot : MethodName := ⟨RX7, "isSlot", "(I)Z"⟩
abbrev cX7_isIn : ByteArray := prog_9_method_7_code
def yX7_isIn : MethodName := ⟨RX7, "isIn", "(II)Z"⟩
abbrev cX7_isRow : ByteArray := prog_9_method_8_code
def yX7_isRow : MethodName := ⟨RX7, "isRow", "(I)Z"⟩
abbrev cX7_row : ByteArray := prog_9_method_9_code
def yX7_row : MethodName := ⟨RX7, "row", "(III)I"⟩
abbrev cX7_noRow : ByteArray := prog_9_method_10_code
def yX7_noRow : MethodName := ⟨RX7, "noRow", "(I)I"⟩
abbrev cX7_set : ByteArray := prog_9_method_11_code
def yX7_set : MethodName := ⟨RX7, "set", "(IIJ)I"⟩
abbrev cX7_copy : ByteArray := prog_9_method_12_code
def yX7_copy : MethodName := ⟨RX7, "copy", "(IIIII)I"⟩
abbrev cX7_element : ByteArray := prog_9_method_13_code
def yX7_element : MethodName := ⟨RX7, "element", "(II)J"⟩
abbrev cX7_show : ByteArray := prog_9_method_14_code
def yX7_show : MethodName := ⟨RX7, "show", "(II)I"⟩
abbrev cX7_holds : ByteArray := prog_9_method_15_code
def yX7_holds : MethodName := ⟨RX7, "holds", "(I)I"⟩
abbrev cX7_says : ByteArray := prog_9_method_16_code
def yX7_says : MethodName := ⟨RX7, "says", "(II)I"⟩
abbrev cX7_lays : ByteArray := prog_9_method_17_code
def yX7_lays : MethodName := ⟨RX7, "lays", "(I[III)V"⟩
abbrev cX7_isBehind : ByteArray := prog_9_method_18_code
def yX7_isBehind : MethodName := ⟨RX7, "isBehind", "(II)Z"⟩
abbrev cX7_next : ByteArray := prog_9_method_19_code
def yX7_next : MethodName := ⟨RX7, "next", "(I)I"⟩
abbrev cX7_merges : ByteArray := prog_9_method_20_code
def yX7_merges : MethodName := ⟨RX7, "merges", "([III)Z"⟩
abbrev cX7_isFit : ByteArray := prog_9_method_21_code
def yX7_isFit : MethodName := ⟨RX7, "isFit", "(I)Z"⟩
abbrev cX7_newObject : ByteArray := prog_9_method_22_code
def yX7_newObject : MethodName := ⟨RX7, "newObject", "(II)I"⟩
abbrev cX7_tells : ByteArray := prog_9_method_23_code
def yX7_tells : MethodName := ⟨RX7, "tells", "(III)V"⟩
abbrev cX7_areThere : ByteArray := prog_9_method_24_code
def yX7_areThere : MethodName := ⟨RX7, "areThere", "(I)Z"⟩
abbrev cX7_make : ByteArray := prog_9_method_25_code
def yX7_make : MethodName := ⟨RX7, "make", "(IIIII)I"⟩
abbrev cX7_wouldBe : ByteArray := prog_9_method_26_code
def yX7_wouldBe : MethodName := ⟨RX7, "wouldBe", "(IIIII)I"⟩
abbrev cX7_sign : ByteArray := prog_9_method_27_code
def yX7_sign : MethodName := ⟨RX7, "sign", "()I"⟩
abbrev cX7_is : ByteArray := prog_9_method_28_code
def yX7_is : MethodName := ⟨RX7, "is", "(I)Z"⟩
abbrev cX7_isDigit : ByteArray := prog_9_method_29_code
def yX7_isDigit : MethodName := ⟨RX7, "isDigit", "()Z"⟩
abbrev cX7_isNumber : ByteArray := prog_9_method_30_code
def yX7_isNumber : MethodName := ⟨RX7, "isNumber", "()Z"⟩
abbrev cX7_isDigit_ : ByteArray := prog_9_method_31_code
def yX7_isDigit_ : MethodName := ⟨RX7, "isDigit", "(I)Z"⟩
abbrev cX7_isParent : ByteArray := prog_9_method_32_code
def yX7_isParent : MethodName := ⟨RX7, "isParent", "(I)Z"⟩
abbrev cX7_isSigned : ByteArray := prog_9_method_33_code
def yX7_isSigned : MethodName := ⟨RX7, "isSigned", "()Z"⟩
abbrev cX7_slots : ByteArray := prog_9_method_34_code
def yX7_slots : MethodName := ⟨RX7, "slots", "(I)Z"⟩
abbrev cX7_item : ByteArray := prog_9_method_35_code
def yX7_item : MethodName := ⟨RX7, "item", "()Z"⟩
abbrev cX7_read : ByteArray := prog_9_method_36_code
def yX7_read : MethodName := ⟨RX7, "read", "(I)I"⟩
abbrev cX7_fault : ByteArray := prog_9_method_37_code
def yX7_fault : MethodName := ⟨RX7, "fault", "()I"⟩
abbrev cX7_holds_ : ByteArray := prog_9_method_38_code
def yX7_holds_ : MethodName := ⟨RX7, "holds", "(IIZII)V"⟩
abbrev cX7_value : ByteArray := prog_9_method_39_code
def yX7_value : MethodName := ⟨RX7, "value", "(III)I"⟩
abbrev cX7_method : ByteArray := prog_9_method_40_code
def yX7_method : MethodName := ⟨RX7, "method", "(IIII)I"⟩
abbrev cX7_drops : ByteArray := prog_9_method_41_code
def yX7_drops : MethodName := ⟨RX7, "drops", "(II)V"⟩
abbrev cX7_remove : ByteArray := prog_9_method_42_code
def yX7_remove : MethodName := ⟨RX7, "remove", "(II)I"⟩
abbrev cX7_place : ByteArray := prog_9_method_43_code
def yX7_place : MethodName := ⟨RX7, "place", "(II)I"⟩
abbrev cX7_found : ByteArray := prog_9_method_44_code
def yX7_found : MethodName := ⟨RX7, "found", "(III)I"⟩
abbrev cX7_family : ByteArray := prog_9_method_45_code
def yX7_family : MethodName := ⟨RX7, "family", "(I)I"⟩
abbrev cX7_allFound : ByteArray := prog_9_method_46_code
def yX7_allFound : MethodName := ⟨RX7, "allFound", "(I)I"⟩
abbrev cX7_objectOf : ByteArray := prog_9_method_47_code
def yX7_objectOf : MethodName := ⟨RX7, "objectOf", "(II)I"⟩
abbrev cX7_order : ByteArray := prog_9_method_48_code
def yX7_order : MethodName := ⟨RX7, "order", "(II)I"⟩
abbrev cX7_distance : ByteArray := prog_9_method_49_code
def yX7_distance : MethodName := ⟨RX7, "distance", "(II)I"⟩
abbrev cX7_where : ByteArray := prog_9_method_50_code
def yX7_where : MethodName := ⟨RX7, "where", "(II)I"⟩
abbrev cX7_hidden : ByteArray := prog_9_method_51_code
def yX7_hidden : MethodName := ⟨RX7, "hidden", "(II)I"⟩
abbrev cX7_slotOf : ByteArray := prog_9_method_52_code
def yX7_slotOf : MethodName := ⟨RX7, "slotOf", "(III)I"⟩
abbrev cX7_fails : ByteArray := prog_9_method_53_code
def yX7_fails : MethodName := ⟨RX7, "fails", "()I"⟩
abbrev cX7_slotOf_ : ByteArray := prog_9_method_54_code
def yX7_slotOf_ : MethodName := ⟨RX7, "slotOf", "(I)I"⟩
abbrev cX7_sends : ByteArray := prog_9_method_55_code
def yX7_sends : MethodName := ⟨RX7, "sends", "(II)I"⟩
abbrev cX7_gives : ByteArray := prog_9_method_56_code
def yX7_gives : MethodName := ⟨RX7, "gives", "(III)I"⟩
abbrev cX7_next_ : ByteArray := prog_9_method_57_code
def yX7_next_ : MethodName := ⟨RX7, "next", "(IIII)I"⟩
abbrev cX7_sets : ByteArray := prog_9_method_58_code
def yX7_sets : MethodName := ⟨RX7, "sets", "(II)I"⟩
abbrev cX7_runs : ByteArray := prog_9_method_59_code
def yX7_runs : MethodName := ⟨RX7, "runs", "(IIIIII)I"⟩
abbrev cX7_way : ByteArray := prog_9_method_60_code
def yX7_way : MethodName := ⟨RX7, "way", "(II)I"⟩
abbrev cX7_goes : ByteArray := prog_9_method_61_code
def yX7_goes : MethodName := ⟨RX7, "goes", "(IIII)I"⟩
abbrev cX7_core : ByteArray := prog_9_method_62_code
def yX7_core : MethodName := ⟨RX7, "core", "(I)I"⟩
abbrev cX7_begins : ByteArray := prog_9_method_63_code
def yX7_begins : MethodName := ⟨RX7, "begins", "(I)V"⟩
abbrev cX7_done : ByteArray := prog_9_method_64_code
def yX7_done : MethodName := ⟨RX7, "done", "(I)I"⟩
abbrev cX7_send : ByteArray := prog_9_method_65_code
def yX7_send : MethodName := ⟨RX7, "send", "(III)I"⟩
abbrev cX7_given : ByteArray := prog_9_method_66_code
def yX7_given : MethodName := ⟨RX7, "given", "()I"⟩
abbrev cX7_tries : ByteArray := prog_9_method_67_code
def yX7_tries : MethodName := ⟨RX7, "tries", "(III)I"⟩
abbrev cX7_trial : ByteArray := prog_9_method_68_code
def yX7_trial : MethodName := ⟨RX7, "trial", "(IIII)I"⟩
abbrev cX7_isGeneric : ByteArray := prog_9_method_69_code
def yX7_isGeneric : MethodName := ⟨RX7, "isGeneric", "(I)Z"⟩
abbrev cX7_way_ : ByteArray := prog_9_method_70_code
def yX7_way_ : MethodName := ⟨RX7, "way", "(IIIIII)I"⟩
abbrev cX7_wayOf : ByteArray := prog_9_method_71_code
def yX7_wayOf : MethodName := ⟨RX7, "wayOf", "(II)I"⟩
abbrev cX7_far : ByteArray := prog_9_method_72_code
def yX7_far : MethodName := ⟨RX7, "far", "(III)I"⟩
abbrev cX7_isAhead : ByteArray := prog_9_method_73_code
def yX7_isAhead : MethodName := ⟨RX7, "isAhead", "(IIII)Z"⟩
abbrev cX7_stands : ByteArray := prog_9_method_74_code
def yX7_stands : MethodName := ⟨RX7, "stands", "(III)V"⟩
abbrev cX7_applies : ByteArray := prog_9_method_75_code
def yX7_applies : MethodName := ⟨RX7, "applies", "(IIIII)I"⟩
abbrev cX7_tie : ByteArray := prog_9_method_76_code
def yX7_tie : MethodName := ⟨RX7, "tie", "(III)I"⟩
abbrev cX7_call : ByteArray := prog_9_method_77_code
def yX7_call : MethodName := ⟨RX7, "call", "(IIII)I"⟩
abbrev cX7_trace : ByteArray := prog_9_method_78_code
def yX7_trace : MethodName := ⟨RX7, "trace", "(I)I"⟩
abbrev cX7_read_ : ByteArray := prog_9_method_79_code
def yX7_read_ : MethodName := ⟨RX7, "read", "(II)I"⟩
abbrev cX7_judge : ByteArray := prog_9_method_80_code
def yX7_judge : MethodName := ⟨RX7, "judge", "(IIII)I"⟩
abbrev cX7_draw : ByteArray := prog_9_method_81_code
def yX7_draw : MethodName := ⟨RX7, "draw", "(I)I"⟩
abbrev cX7_allSlots : ByteArray := prog_9_method_82_code
def yX7_allSlots : MethodName := ⟨RX7, "allSlots", "()I"⟩
abbrev cX7_days : ByteArray := prog_9_method_83_code
def yX7_days : MethodName := ⟨RX7, "days", "(I)I"⟩
abbrev cX7_seed : ByteArray := prog_9_method_84_code
def yX7_seed : MethodName := ⟨RX7, "seed", "(I)I"⟩
abbrev cX7_keepSlots : ByteArray := prog_9_method_85_code
def yX7_keepSlots : MethodName := ⟨RX7, "keepSlots", "([I)V"⟩
abbrev cX7_slotsAgain : ByteArray := prog_9_method_86_code
def yX7_slotsAgain : MethodName := ⟨RX7, "slotsAgain", "([I)V"⟩
abbrev cX7_image : ByteArray := prog_9_method_87_code
def yX7_image : MethodName := ⟨RX7, "image", "()I"⟩
abbrev cX7_restore : ByteArray := prog_9_method_88_code
def yX7_restore : MethodName := ⟨RX7, "restore", "()I"⟩
abbrev cX7_allMethods : ByteArray := prog_9_method_89_code
def yX7_allMethods : MethodName := ⟨RX7, "allMethods", "()I"⟩
abbrev cX7_status : ByteArray := prog_9_method_90_code
def yX7_status : MethodName := ⟨RX7, "status", "(I)I"⟩
def RJ6 : String := "java/lang/Integer"
abbrev cJ6_bitCount_0f7a4 : ByteArray := prog_10_method_49_code
def yJ6_bitCount_0f7a4 : MethodName := ⟨RJ6, "bitCount", "(I)I"⟩
def RJ9 : String := "java/lang/Math"
abbrev cJ9_floorMod_7cf53 : ByteArray := prog_11_method_50_code
def yJ9_floorMod_7cf53 : MethodName := ⟨RJ9, "floorMod", "(II)I"⟩
abbrev cJ9_min_7cf53 : ByteArray := prog_11_method_69_code
def yJ9_min_7cf53 : MethodName := ⟨RJ9, "min", "(II)I"⟩
def RJ10 : String := "java/lang/System"
def RJ7 : String := "java/util/Arrays"
abbrev cJ7_rangeCheck_23922 : ByteArray := prog_13_method_30_code
def yJ7_rangeCheck_23922 : MethodName := ⟨RJ7, "rangeCheck", "(III)V"⟩
abbrev cJ7_fill_bad5a : ByteArray := prog_13_method_102_code
def yJ7_fill_bad5a : MethodName := ⟨RJ7, "fill", "([JIIJ)V"⟩
abbrev cJ7_fill_53178 : ByteArray := prog_13_method_103_code
def yJ7_fill_53178 : MethodName := ⟨RJ7, "fill", "([II)V"⟩
def RL : String := "ProtoOrdersLaw"
abbrev cL_law : ByteArray := code
def yL_law : MethodName := ⟨RL, "law", "([I)Z"⟩
abbrev vwCl : List vw_C := [(RX0, TX0, 4), (RX1, TX1, 7), (RX2, TX2, 6), (RX3, TX3, 18), (RX4, TX4, 3), (RX5, TX5, 12), (RX6, TX6, 11), (RX7, TX7, 42)]
end
section
/-! THE SMALL MACHINE: values, states, one instruction, a run from cut to cut, calls by depth. A cell is named by its place; what the cells are (zE) never changes. -/
abbrev zV : Type := Int32 ⊕ (Int64 ⊕ Nat)
abbrev zS : Type := (Nat → Nat → Int32) × (Nat → Nat → Int64)
abbrev zR : Type := Option (Option zV × zS)
abbrev zE : Type := Nat ⊕ (Nat ⊕ (Nat × List (Option Nat)))
abbrev zL : Type := List (Option zV)
abbrev zEnt : Type := Nat × Instr × Nat × Int32 × Int64 × List Nat × List Nat
abbrev zT : Type := List zEnt
abbrev zK : Type := zT → zL → List zV → zS → zR
def zup {α : Type} (f : Nat → Nat → α) (k j : Nat) (v : α) : Nat → Nat → α := fun a b => if a = k then (if b = j then v else f a b) else f a b
def zg (σ : zS) (k j : Nat) : Int32 := σ.1 k j
def zs (σ : zS) (k j : Nat) (v : Int32) : zS := (zup σ.1 k j v, σ.2)
def zgl (σ : zS) (k j : Nat) : Int64 := σ.2 k j
def zsl (σ : zS) (k j : Nat) (v : Int64) : zS := (σ.1, zup σ.2 k j v)
def zcp {α : Type} (f : Nat → Nat → α) (a b sp dp n : Nat) : Nat → Nat → α := fun c j => if c = b then va_cpy (f a) (f b) sp dp n j else f c j
/-- copying between arrays of ints, of longs -/
def zsc (σ : zS) (a b sp dp n : Nat) : zS := (zcp σ.1 a b sp dp n, σ.2)
def zslc (σ : zS) (a b sp dp n : Nat) : zS := (σ.1, zcp σ.2 a b sp dp n)
def zin (i : Int32) (n : Nat) (r : zR) : zR := if i < 0 ∨ n ≤ i.toNatClampNeg then none else r
def zne (y : Int32) (r : zR) : zR := if y = 0 then none else r
def zbo (y : Int32) (r : zR) : zR := if y = 0 ∨ y = 1 then r else none
def zcpin (sp dp n : Int32) (n0 n1 : Nat) (r : zR) : zR := if sp < 0 ∨ dp < 0 ∨ n < 0 ∨ n0 < sp.toNatClampNeg + n.toNatClampNeg ∨ n1 < dp.toNatClampNeg + n.toNatClampNeg then none else r
def zcV (x : zR) (k : zS → zR) : zR := match x with
  | some (none, σ) => k σ
  | _ => none
def zcI (x : zR) (k : Int32 → zS → zR) : zR := match x with
  | some (some (.inl r), σ) => k r σ
  | _ => none
def zcJ (x : zR) (k : Int64 → zS → zR) : zR := match x with
  | some (some (.inr (.inl r)), σ) => k r σ
  | _ => none
def zw : zV → Nat
  | .inr (.inl _) => 2
  | _ => 1
def z1 (f : Int32 → Int32) (K : zK) (es : zT) (l : zL) (k : List zV) (σ : zS) : zR := match k with
  | .inl x :: k => K es l (.inl (f x) :: k) σ
  | _ => none
def z2 (f : Int32 → Int32 → Int32) (K : zK) (es : zT) (l : zL) (k : List zV) (σ : zS) : zR := match k with
  | .inl y :: .inl x :: k => K es l (.inl (f x y) :: k) σ
  | _ => none
def zl2 (f : Int64 → Int64 → Int64) (K : zK) (es : zT) (l : zL) (k : List zV) (σ : zS) : zR := match k with
  | .inr (.inl y) :: .inr (.inl x) :: k => K es l (.inr (.inl (f x y)) :: k) σ
  | _ => none
def zldI (i : Nat) (K : zK) (es : zT) (l : zL) (k : List zV) (σ : zS) : zR := match l[i]? with
  | some (some (.inl x)) => K es l (.inl x :: k) σ
  | _ => none
def zldJ (i : Nat) (K : zK) (es : zT) (l : zL) (k : List zV) (σ : zS) : zR := match l[i]? with
  | some (some (.inr (.inl x))) => K es l (.inr (.inl x) :: k) σ
  | _ => none
def zldA (i : Nat) (K : zK) (es : zT) (l : zL) (k : List zV) (σ : zS) : zR := match l[i]? with
  | some (some (.inr (.inr x))) => K es l (.inr (.inr x) :: k) σ
  | _ => none
/-- no long stands just ahead -/
def zfree (l : zL) (i : Nat) : Bool := match i with
  | 0 => true
  | j + 1 => match l[j]? with
    | some (some (.inr (.inl _))) => false
    | _ => true
def zst (i : Nat) (K : zK) (es : zT) (l : zL) (k : List zV) (σ : zS) : zR := match k with
  | .inl x :: k => match zfree l i with
    | true => K es (l.set i (some (.inl x))) k σ
    | false => none
  | _ => none
def zinc (i : Nat) (v : Int32) (K : zK) (es : zT) (l : zL) (k : List zV) (σ : zS) : zR := match l[i]? with
  | some (some (.inl x)) => match zfree l i with
    | true => K es (l.set i (some (.inl (x + v)))) k σ
    | false => none
  | _ => none
def zif1 (c : Int32 → Prop) [DecidablePred c] (T : zT) (aux : List Nat) (K : zK) (es : zT) (l : zL) (k : List zV) (σ : zS) : zR := match k, aux with
  | .inl x :: k, a :: _ => if c x then K (T.drop a) l k σ else K es l k σ
  | _, _ => none
def zif2 (c : Int32 → Int32 → Prop) [∀ x y, Decidable (c x y)] (T : zT) (aux : List Nat) (K : zK) (es : zT) (l : zL) (k : List zV) (σ : zS) : zR := match k, aux with
  | .inl y :: .inl x :: k, a :: _ => if c x y then K (T.drop a) l k σ else K es l k σ
  | _, _ => none
/-- a switch: by its places lo, lo + 1, ..; else the first -/
def zsw (x : Int32) (v : Int32) (T : zT) (K : zK) (l : zL) (k : List zV) (σ : zS) (d : Nat) : List Nat → zR
  | [] => K (T.drop d) l k σ
  | a :: as => if x = v then K (T.drop a) l k σ else zsw x (v + 1) T K l k σ d as
def zgetf (sk : List zE) (K : zK) (aux : List Nat) (es : zT) (l : zL) (k : List zV) (σ : zS) : zR := match k, aux with
  | .inr (.inr q) :: k, ci :: j :: _ => match sk[q]? with
    | some (.inr (.inr (c, fs))) => match Nat.beq c ci with
      | true => match fs[j]? with
        | some none => K es l (.inl (zg σ q j) :: k) σ
        | some (some r) => K es l (.inr (.inr r) :: k) σ
        | none => none
      | false => none
    | _ => none
  | _, _ => none
def zputf (sk : List zE) (K : zK) (aux : List Nat) (es : zT) (l : zL) (k : List zV) (σ : zS) : zR := match k, aux with
  | .inl x :: .inr (.inr q) :: k, ci :: j :: b :: _ => match sk[q]? with
    | some (.inr (.inr (c, fs))) => match Nat.beq c ci with
      | true => match fs[j]? with
        | some none => match b with
          | 0 => K es l k (zs σ q j x)
          | _ => zbo x (K es l k (zs σ q j x))
        | _ => none
      | false => none
    | _ => none
  | _, _ => none
def ziald (sk : List zE) (K : zK) (es : zT) (l : zL) (k : List zV) (σ : zS) : zR := match k with
  | .inl i :: .inr (.inr q) :: k => match sk[q]? with
    | some (.inl n) => zin i n (K es l (.inl (zg σ q i.toNatClampNeg) :: k) σ)
    | _ => none
  | _ => none
def ziast (sk : List zE) (K : zK) (es : zT) (l : zL) (k : List zV) (σ : zS) : zR := match k with
  | .inl x :: .inl i :: .inr (.inr q) :: k => match sk[q]? with
    | some (.inl n) => zin i n (K es l k (zs σ q i.toNatClampNeg x))
    | _ => none
  | _ => none
def zlald (sk : List zE) (K : zK) (es : zT) (l : zL) (k : List zV) (σ : zS) : zR := match k with
  | .inl i :: .inr (.inr q) :: k => match sk[q]? with
    | some (.inr (.inl n)) => zin i n (K es l (.inr (.inl (zgl σ q i.toNatClampNeg)) :: k) σ)
    | _ => none
  | _ => none
def zlast (sk : List zE) (K : zK) (es : zT) (l : zL) (k : List zV) (σ : zS) : zR := match k with
  | .inr (.inl x) :: .inl i :: .inr (.inr q) :: k => match sk[q]? with
    | some (.inr (.inl n)) => zin i n (K es l k (zsl σ q i.toNatClampNeg x))
    | _ => none
  | _ => none
def zalen (sk : List zE) (K : zK) (es : zT) (l : zL) (k : List zV) (σ : zS) : zR := match k with
  | .inr (.inr q) :: k => match sk[q]? with
    | some (.inl n) => K es l (.inl (Int32.ofNat n) :: k) σ
    | some (.inr (.inl n)) => K es l (.inl (Int32.ofNat n) :: k) σ
    | _ => none
  | _ => none
/-- a call of method m with n arguments (its receiver too); rk: what comes back -/
def zinv (C : Nat → List zV → zS → zR) (K : zK) (m n rk : Nat) (es : zT) (l : zL) (k : List zV) (σ : zS) : zR :=
  match Nat.ble n k.length && Nat.ble (((k.drop n).map zw).sum) 8 with
  | true => match rk with
    | 0 => zcV (C m (k.take n).reverse σ) (fun σ => K es l (k.drop n) σ)
    | 2 => zcJ (C m (k.take n).reverse σ) (fun r σ => K es l (.inr (.inl r) :: k.drop n) σ)
    | _ => zcI (C m (k.take n).reverse σ) (fun r σ => K es l (.inl r :: k.drop n) σ)
  | false => none
/-- the receiver is of class ci -/
def zrecv (sk : List zE) (ci n : Nat) (k : List zV) : Bool := match k.drop n with
  | .inr (.inr q) :: _ => match sk[q]? with
    | some (.inr (.inr (c, _))) => Nat.beq c ci
    | _ => false
  | _ => false
def zcopy (sk : List zE) (K : zK) (es : zT) (l : zL) (k : List zV) (σ : zS) : zR := match k with
  | .inl n :: .inl dp :: .inr (.inr b) :: .inl sp :: .inr (.inr a) :: k => match Nat.ble ((k.map zw).sum) 8 with
    | true => match sk[a]?, sk[b]? with
      | some (.inl n0), some (.inl n1) => zcpin sp dp n n0 n1 (K es l k (zsc σ a b sp.toNatClampNeg dp.toNatClampNeg n.toNatClampNeg))
      | some (.inr (.inl n0)), some (.inr (.inl n1)) => zcpin sp dp n n0 n1 (K es l k (zslc σ a b sp.toNatClampNeg dp.toNatClampNeg n.toNatClampNeg))
      | _, _ => none
    | false => none
  | _ => none
def zstep (sk : List zE) (C : Nat → List zV → zS → zR) (T : zT) (rk : Nat) (K : zK) (i : Instr) (v : Int32) (w : Int64) (aux : List Nat) (es : zT) (l : zL) (k : List zV) (σ : zS) : zR := match i with
  | .iconst _ => K es l (.inl v :: k) σ
  | .bipush _ => K es l (.inl v :: k) σ
  | .sipush _ => K es l (.inl v :: k) σ
  | .ldc _ => K es l (.inl v :: k) σ
  | .ldc_w _ => K es l (.inl v :: k) σ
  | .lconst _ => K es l (.inr (.inl w) :: k) σ
  | .ldc2_w _ => K es l (.inr (.inl w) :: k) σ
  | .iload_n i => zldI i.val K es l k σ
  | .aload_n i => zldA i.val K es l k σ
  | .lload_n i => zldJ i.val K es l k σ
  | .iload i => zldI i K es l k σ
  | .aload i => zldA i K es l k σ
  | .lload i => zldJ i K es l k σ
  | .istore_n i => zst i.val K es l k σ
  | .istore i => zst i K es l k σ
  | .iinc i _ => zinc i v K es l k σ
  | .iadd => z2 (· + ·) K es l k σ
  | .isub => z2 (· - ·) K es l k σ
  | .imul => z2 (· * ·) K es l k σ
  | .iand => z2 (· &&& ·) K es l k σ
  | .ior => z2 (· ||| ·) K es l k σ
  | .ixor => z2 (· ^^^ ·) K es l k σ
  | .ishl => z2 (fun x y => x <<< (y &&& 31)) K es l k σ
  | .ishr => z2 (fun x y => x >>> (y &&& 31)) K es l k σ
  | .iushr => z2 (fun x y => (x.toUInt32 >>> (y.toUInt32 &&& Int32.toUInt32 31)).toInt32) K es l k σ
  | .irem => match k with
    | .inl y :: .inl x :: k => zne y (K es l (.inl (x - x / y * y) :: k) σ)
    | _ => none
  | .ineg => z1 (fun x => -x) K es l k σ
  | .i2b => z1 (fun x => x.toInt8.toInt32) K es l k σ
  | .i2s => z1 (fun x => x.toInt16.toInt32) K es l k σ
  | .i2l => match k with
    | .inl x :: k => K es l (.inr (.inl x.toInt64) :: k) σ
    | _ => none
  | .l2i => match k with
    | .inr (.inl x) :: k => K es l (.inl x.toInt32 :: k) σ
    | _ => none
  | .ladd => zl2 (· + ·) K es l k σ
  | .lmul => zl2 (· * ·) K es l k σ
  | .lcmp => match k with
    | .inr (.inl y) :: .inr (.inl x) :: k => K es l (.inl (lg_cmp x y) :: k) σ
    | _ => none
  | .dup => match k with
    | .inl x :: k => K es l (.inl x :: .inl x :: k) σ
    | .inr (.inr x) :: k => K es l (.inr (.inr x) :: .inr (.inr x) :: k) σ
    | _ => none
  | .pop => match k with
    | .inl _ :: k => K es l k σ
    | _ => none
  | .dup_x1 => match k with
    | .inl x :: .inr (.inr y) :: k => K es l (.inl x :: .inr (.inr y) :: .inl x :: k) σ
    | .inl x :: .inl y :: k => K es l (.inl x :: .inl y :: .inl x :: k) σ
    | _ => none
  | .dup2 => match k with
    | .inl x :: .inr (.inr y) :: k => K es l (.inl x :: .inr (.inr y) :: .inl x :: .inr (.inr y) :: k) σ
    | _ => none
  | .goto _ => match aux with
    | a :: _ => K (T.drop a) l k σ
    | _ => none
  | .ifCond .eq _ => zif1 (fun x => x = 0) T aux K es l k σ
  | .ifCond .ne _ => zif1 (fun x => ¬ x = 0) T aux K es l k σ
  | .ifCond .lt _ => zif1 (fun x => x < 0) T aux K es l k σ
  | .ifCond .ge _ => zif1 (fun x => 0 ≤ x) T aux K es l k σ
  | .ifCond .gt _ => zif1 (fun x => 0 < x) T aux K es l k σ
  | .ifCond .le _ => zif1 (fun x => x ≤ 0) T aux K es l k σ
  | .if_icmp .eq _ => zif2 (fun x y => x = y) T aux K es l k σ
  | .if_icmp .ne _ => zif2 (fun x y => ¬ x = y) T aux K es l k σ
  | .if_icmp .lt _ => zif2 (fun x y => x < y) T aux K es l k σ
  | .if_icmp .ge _ => zif2 (fun x y => y ≤ x) T aux K es l k σ
  | .if_icmp .gt _ => zif2 (fun x y => y < x) T aux K es l k σ
  | .if_icmp .le _ => zif2 (fun x y => x ≤ y) T aux K es l k σ
  | .tableswitch _ _ _ _ => match k, aux with
    | .inl x :: k, _ :: d :: as => zsw x v T K l k σ d as
    | _, _ => none
  | .getfield _ => zgetf sk K aux es l k σ
  | .putfield _ => zputf sk K aux es l k σ
  | .iaload => ziald sk K es l k σ
  | .iastore => ziast sk K es l k σ
  | .laload => zlald sk K es l k σ
  | .lastore => zlast sk K es l k σ
  | .arraylength => zalen sk K es l k σ
  | .invokevirtual _ => match aux with
    | m :: n :: r :: ci :: _ => match zrecv sk ci n k with
      | true => zinv C K m (n + 1) r es l k σ
      | false => none
    | _ => none
  | .invokestatic _ => match aux with
    | m :: n :: r :: _ :: _ => zinv C K m n r es l k σ
    | _ => zcopy sk K es l k σ
  | .ireturn => match k with
    | [.inl x] => match rk with
      | 1 => some (some (.inl x), σ)
      | 3 => zbo x (some (some (.inl x), σ))
      | _ => none
    | _ => none
  | .lreturn => match k with
    | [.inr (.inl x)] => match rk with
      | 2 => some (some (.inr (.inl x)), σ)
      | _ => none
    | _ => none
  | .return_ => match k with
    | [] => match rk with
      | 0 => some (none, σ)
      | _ => none
    | _ => none
  | _ => none
/-- locals that are not read any more are forgotten at a cut -/
def zmask : List Nat → zL → zL
  | [], l => l
  | i :: is, l => zmask is (l.set i none)
def zline (sk : List zE) (C : Nat → List zV → zS → zR) (J : Nat → zL → List zV → zS → zR) (T : zT) (rk : Nat) : Nat → zK
  | 0 => fun _ _ _ _ => none
  | g + 1 => fun es l k σ => match es with
    | [] => none
    | e :: es => zstep sk C T rk (fun es' l' k' σ' => match es' with
      | [] => none
      | e' :: _ => match e'.2.2.1 with
        | 0 => zline sk C J T rk g es' l' k' σ'
        | o + 1 => J o (zmask e'.2.2.2.2.2.2 l') k' σ') e.2.1 e.2.2.2.1 e.2.2.2.2.1 e.2.2.2.2.2.1 es l k σ
def zexec (sk : List zE) (C : Nat → List zV → zS → zR) (T : zT) (rk : Nat) : Nat → Nat → zL → List zV → zS → zR
  | 0 => fun _ _ _ _ => none
  | n + 1 => fun o l k σ => zline sk C (zexec sk C T rk n) T rk 500 (T.drop o) l k σ
/-- a method: its name, code, locals, answer, number of parameters, static or not, answer's kind, table -/
abbrev zMeth : Type := MethodName × ByteArray × Nat × Option FieldType × Nat × Bool × Nat × zT
def zargs : List zV → zL
  | [] => []
  | .inr (.inl y) :: vs => some (.inr (.inl y)) :: none :: zargs vs
  | v :: vs => some v :: zargs vs
def zfill (n : Nat) (l : zL) : zL := l ++ List.replicate (n - l.length) none
def zN : Nat := 20000
def zcall (Ms : List zMeth) (sk : List zE) : Nat → Nat → List zV → zS → zR
  | 0 => fun _ _ _ => none
  | d + 1 => fun m as σ => match Ms[m]? with
    | some (_, _, nL, _, _, _, rk, T) => match Nat.ble (zargs as).length nL with
      | true => zexec sk (zcall Ms sk d) T rk zN 0 (zfill nL (zargs as)) [] σ
      | false => none
    | none => none
end
section
/-! THE TABLES of the small machine, and what the cells are: by program (wip/whole/gen.py) out of the printed names. -/
def zT_A_find : zT := [(0, .aload_n 0, 0, 0, 0, [], []), (1, .getfield 9, 0, 0, 0, [0, 0, 1, 95], []), (4, .iconst 0, 0, 0, 0, [], []), (5, .invokestatic 24, 0, 0, 0, [220, 2, 0, 0, 4, 38], []), (8, .iconst 0, 0, 0, 0, [], []), (9, .istore 5, 0, 0, 0, [], []), (11, .iload 5, 7, 0, 0, [], [6, 7]), (13, .aload_n 1, 0, 0, 0, [], []), (14, .getfield 30, 0, 0, 0, [5, 1, 1, 36], []), (17, .if_icmp .ge 95, 0, 0, 0, [59], []), (20, .aload_n 1, 0, 0, 0, [], []), (21, .iload_n 3, 0, 0, 0, [], []), (22, .aload_n 1, 0, 0, 0, [], []), (23, .iload 5, 0, 0, 0, [], []), (25, .iconst 1, 0, 1, 0, [], []), (26, .invokevirtual 36, 0, 0, 0, [65, 2, 1, 5, 4, 39], []), (29, .invokevirtual 40, 0, 0, 0, [67, 2, 1, 5, 4, 40], []), (32, .istore 6, 0, 0, 0, [], []), (34, .aload_n 1, 0, 0, 0, [], []), (35, .iload 4, 0, 0, 0, [], []), (37, .aload_n 1, 0, 0, 0, [], []), (38, .iload 5, 0, 0, 0, [], []), (40, .iconst 2, 0, 2, 0, [], []), (41, .invokevirtual 36, 0, 0, 0, [65, 2, 1, 5, 4, 39], []), (44, .invokevirtual 40, 0, 0, 0, [67, 2, 1, 5, 4, 40], []), (47, .istore 7, 0, 0, 0, [], []), (49, .aload_n 1, 0, 0, 0, [], []), (50, .iload 5, 0, 0, 0, [], []), (52, .iconst 0, 0, 0, 0, [], []), (53, .invokevirtual 36, 0, 0, 0, [65, 2, 1, 5, 4, 39], []), (56, .iload_n 2, 0, 0, 0, [], []), (57, .if_icmp .ne 49, 0, 0, 0, [57], []), (60, .iload 6, 0, 0, 0, [], []), (62, .iconst (-1), 0, (-1), 0, [], []), (63, .if_icmp .eq 43, 0, 0, 0, [57], []), (66, .iload 7, 0, 0, 0, [], []), (68, .iconst (-1), 0, (-1), 0, [], []), (69, .if_icmp .eq 37, 0, 0, 0, [57], []), (72, .aload_n 0, 0, 0, 0, [], []), (73, .getfield 18, 0, 0, 0, [0, 2, 1, 99], []), (76, .iload 5, 0, 0, 0, [], []), (78, .iload 6, 0, 0, 0, [], []), (80, .iload 7, 0, 0, 0, [], []), (82, .iadd, 0, 0, 0, [], []), (83, .iastore, 0, 0, 0, [], []), (84, .aload_n 0, 0, 0, 0, [], []), (85, .getfield 21, 0, 0, 0, [0, 3, 1, 100], []), (88, .iload 5, 0, 0, 0, [], []), (90, .iload 6, 0, 0, 0, [], []), (92, .iastore, 0, 0, 0, [], []), (93, .aload_n 0, 0, 0, 0, [], []), (94, .iload 5, 0, 0, 0, [], []), (96, .aload_n 1, 0, 0, 0, [], []), (97, .iload 5, 0, 0, 0, [], []), (99, .iconst 3, 0, 3, 0, [], []), (100, .invokevirtual 36, 0, 0, 0, [65, 2, 1, 5, 4, 39], []), (103, .invokevirtual 43, 0, 0, 0, [1, 2, 0, 0, 4, 41], []), (106, .iinc 5 1, 0, 1, 0, [], []), (109, .goto (-98), 0, 0, 0, [6], []), (112, .return_, 0, 0, 0, [], [])]
def zT_A_insert : zT := [(0, .iload_n 2, 0, 0, 0, [], []), (1, .bipush 32, 0, 32, 0, [], []), (3, .imul, 0, 0, 0, [], []), (4, .istore_n 3, 0, 0, 0, [], []), (5, .aload_n 0, 0, 0, 0, [], []), (6, .getfield 9, 0, 0, 0, [0, 0, 1, 95], []), (9, .iload_n 2, 0, 0, 0, [], []), (10, .iaload, 0, 0, 0, [], []), (11, .istore 4, 0, 0, 0, [], []), (13, .iload 4, 10, 0, 0, [], []), (15, .ifCond .le 48, 0, 0, 0, [39], []), (18, .aload_n 0, 0, 0, 0, [], []), (19, .aload_n 0, 0, 0, 0, [], []), (20, .getfield 15, 0, 0, 0, [0, 1, 1, 98], []), (23, .iload_n 3, 0, 0, 0, [], []), (24, .iload 4, 0, 0, 0, [], []), (26, .iadd, 0, 0, 0, [], []), (27, .iconst 1, 0, 1, 0, [], []), (28, .isub, 0, 0, 0, [], []), (29, .iaload, 0, 0, 0, [], []), (30, .iload_n 1, 0, 0, 0, [], []), (31, .invokevirtual 47, 0, 0, 0, [2, 2, 3, 0, 4, 45], []), (34, .ifCond .ne 29, 0, 0, 0, [39], []), (37, .aload_n 0, 0, 0, 0, [], []), (38, .getfield 15, 0, 0, 0, [0, 1, 1, 98], []), (41, .iload_n 3, 0, 0, 0, [], []), (42, .iload 4, 0, 0, 0, [], []), (44, .iadd, 0, 0, 0, [], []), (45, .aload_n 0, 0, 0, 0, [], []), (46, .getfield 15, 0, 0, 0, [0, 1, 1, 98], []), (49, .iload_n 3, 0, 0, 0, [], []), (50, .iload 4, 0, 0, 0, [], []), (52, .iadd, 0, 0, 0, [], []), (53, .iconst 1, 0, 1, 0, [], []), (54, .isub, 0, 0, 0, [], []), (55, .iaload, 0, 0, 0, [], []), (56, .iastore, 0, 0, 0, [], []), (57, .iinc 4 (-1), 0, (-1), 0, [], []), (60, .goto (-47), 0, 0, 0, [9], []), (63, .aload_n 0, 0, 0, 0, [], []), (64, .getfield 15, 0, 0, 0, [0, 1, 1, 98], []), (67, .iload_n 3, 0, 0, 0, [], []), (68, .iload 4, 0, 0, 0, [], []), (70, .iadd, 0, 0, 0, [], []), (71, .iload_n 1, 0, 0, 0, [], []), (72, .iastore, 0, 0, 0, [], []), (73, .aload_n 0, 0, 0, 0, [], []), (74, .getfield 9, 0, 0, 0, [0, 0, 1, 95], []), (77, .iload_n 2, 0, 0, 0, [], []), (78, .dup2, 0, 0, 0, [], []), (79, .iaload, 0, 0, 0, [], []), (80, .iconst 1, 0, 1, 0, [], []), (81, .iadd, 0, 0, 0, [], []), (82, .iastore, 0, 0, 0, [], []), (83, .return_, 0, 0, 0, [], [])]
def zT_A_standsBefore : zT := [(0, .aload_n 0, 0, 0, 0, [], []), (1, .getfield 18, 0, 0, 0, [0, 2, 1, 99], []), (4, .iload_n 1, 0, 0, 0, [], []), (5, .iaload, 0, 0, 0, [], []), (6, .aload_n 0, 0, 0, 0, [], []), (7, .getfield 18, 0, 0, 0, [0, 2, 1, 99], []), (10, .iload_n 2, 0, 0, 0, [], []), (11, .iaload, 0, 0, 0, [], []), (12, .if_icmp .eq 24, 0, 0, 0, [22], []), (15, .aload_n 0, 0, 0, 0, [], []), (16, .getfield 18, 0, 0, 0, [0, 2, 1, 99], []), (19, .iload_n 1, 0, 0, 0, [], []), (20, .iaload, 0, 0, 0, [], []), (21, .aload_n 0, 0, 0, 0, [], []), (22, .getfield 18, 0, 0, 0, [0, 2, 1, 99], []), (25, .iload_n 2, 0, 0, 0, [], []), (26, .iaload, 0, 0, 0, [], []), (27, .if_icmp .ge 7, 0, 0, 0, [20], []), (30, .iconst 1, 0, 1, 0, [], []), (31, .goto 4, 0, 0, 0, [21], []), (34, .iconst 0, 0, 0, 0, [], []), (35, .ireturn, 0, 0, 0, [], []), (36, .aload_n 0, 0, 0, 0, [], []), (37, .getfield 21, 0, 0, 0, [0, 3, 1, 100], []), (40, .iload_n 1, 0, 0, 0, [], []), (41, .iaload, 0, 0, 0, [], []), (42, .aload_n 0, 0, 0, 0, [], []), (43, .getfield 21, 0, 0, 0, [0, 3, 1, 100], []), (46, .iload_n 2, 0, 0, 0, [], []), (47, .iaload, 0, 0, 0, [], []), (48, .if_icmp .ge 7, 0, 0, 0, [33], []), (51, .iconst 1, 0, 1, 0, [], []), (52, .goto 4, 0, 0, 0, [34], []), (55, .iconst 0, 0, 0, 0, [], []), (56, .ireturn, 0, 0, 0, [], [])]
def zT_A_wayAt : zT := [(0, .aload_n 0, 0, 0, 0, [], []), (1, .getfield 15, 0, 0, 0, [0, 1, 1, 98], []), (4, .iload_n 1, 0, 0, 0, [], []), (5, .bipush 32, 0, 32, 0, [], []), (7, .imul, 0, 0, 0, [], []), (8, .iload_n 2, 0, 0, 0, [], []), (9, .iadd, 0, 0, 0, [], []), (10, .iaload, 0, 0, 0, [], []), (11, .ireturn, 0, 0, 0, [], [])]
def zT_A_isTied : zT := [(0, .aload_n 0, 0, 0, 0, [], []), (1, .getfield 9, 0, 0, 0, [0, 0, 1, 95], []), (4, .iconst 0, 0, 0, 0, [], []), (5, .iaload, 0, 0, 0, [], []), (6, .iconst 1, 0, 1, 0, [], []), (7, .if_icmp .le 32, 0, 0, 0, [23], []), (10, .aload_n 0, 0, 0, 0, [], []), (11, .getfield 18, 0, 0, 0, [0, 2, 1, 99], []), (14, .aload_n 0, 0, 0, 0, [], []), (15, .iconst 0, 0, 0, 0, [], []), (16, .iconst 0, 0, 0, 0, [], []), (17, .invokevirtual 51, 0, 0, 0, [3, 2, 1, 0, 4, 58], []), (20, .iaload, 0, 0, 0, [], []), (21, .aload_n 0, 0, 0, 0, [], []), (22, .getfield 18, 0, 0, 0, [0, 2, 1, 99], []), (25, .aload_n 0, 0, 0, 0, [], []), (26, .iconst 0, 0, 0, 0, [], []), (27, .iconst 1, 0, 1, 0, [], []), (28, .invokevirtual 51, 0, 0, 0, [3, 2, 1, 0, 4, 58], []), (31, .iaload, 0, 0, 0, [], []), (32, .if_icmp .ne 7, 0, 0, 0, [23], []), (35, .iconst 1, 0, 1, 0, [], []), (36, .goto 4, 0, 0, 0, [24], []), (39, .iconst 0, 0, 0, 0, [], []), (40, .ireturn, 0, 0, 0, [], [])]
def zT_G_tellFirst : zT := [(0, .aload_n 0, 0, 0, 0, [], []), (1, .getfield 9, 0, 0, 0, [1, 0, 1, 202], []), (4, .iconst 0, 0, 0, 0, [], []), (5, .iload_n 2, 0, 0, 0, [], []), (6, .iastore, 0, 0, 0, [], []), (7, .aload_n 0, 0, 0, 0, [], []), (8, .getfield 9, 0, 0, 0, [1, 0, 1, 202], []), (11, .iconst 1, 0, 1, 0, [], []), (12, .iload_n 3, 0, 0, 0, [], []), (13, .iastore, 0, 0, 0, [], []), (14, .aload_n 0, 0, 0, 0, [], []), (15, .getfield 9, 0, 0, 0, [1, 0, 1, 202], []), (18, .iconst 2, 0, 2, 0, [], []), (19, .iload 4, 0, 0, 0, [], []), (21, .iastore, 0, 0, 0, [], []), (22, .aload_n 0, 0, 0, 0, [], []), (23, .iload_n 1, 0, 0, 0, [], []), (24, .putfield 27, 0, 0, 0, [1, 1, 0, 1, 205], []), (27, .return_, 0, 0, 0, [], [])]
def zT_G_tellNone : zT := [(0, .aload_n 0, 0, 0, 0, [], []), (1, .iconst 0, 0, 0, 0, [], []), (2, .putfield 27, 0, 0, 0, [1, 1, 0, 1, 205], []), (5, .return_, 0, 0, 0, [], [])]
def zT_G_tells : zT := [(0, .iconst 0, 0, 0, 0, [], []), (1, .istore_n 2, 0, 0, 0, [], []), (2, .iload_n 2, 3, 0, 0, [], []), (3, .aload_n 0, 0, 0, 0, [], []), (4, .getfield 27, 0, 0, 0, [1, 1, 1, 205], []), (7, .if_icmp .ge 21, 0, 0, 0, [16], []), (10, .aload_n 0, 0, 0, 0, [], []), (11, .getfield 9, 0, 0, 0, [1, 0, 1, 202], []), (14, .iload_n 2, 0, 0, 0, [], []), (15, .iaload, 0, 0, 0, [], []), (16, .iload_n 1, 0, 0, 0, [], []), (17, .if_icmp .ne 5, 0, 0, 0, [14], []), (20, .iconst 1, 0, 1, 0, [], []), (21, .ireturn, 0, 0, 0, [], []), (22, .iinc 2 1, 0, 1, 0, [], []), (25, .goto (-23), 0, 0, 0, [2], []), (28, .iconst 0, 0, 0, 0, [], []), (29, .ireturn, 0, 0, 0, [], [])]
def zT_G_tellOneMore : zT := [(0, .aload_n 0, 0, 0, 0, [], []), (1, .getfield 27, 0, 0, 0, [1, 1, 1, 205], []), (4, .iconst 3, 0, 3, 0, [], []), (5, .if_icmp .ge 23, 0, 0, 0, [16], []), (8, .aload_n 0, 0, 0, 0, [], []), (9, .getfield 9, 0, 0, 0, [1, 0, 1, 202], []), (12, .aload_n 0, 0, 0, 0, [], []), (13, .getfield 27, 0, 0, 0, [1, 1, 1, 205], []), (16, .iload_n 1, 0, 0, 0, [], []), (17, .iastore, 0, 0, 0, [], []), (18, .aload_n 0, 0, 0, 0, [], []), (19, .dup, 0, 0, 0, [], []), (20, .getfield 27, 0, 0, 0, [1, 1, 1, 205], []), (23, .iconst 1, 0, 1, 0, [], []), (24, .iadd, 0, 0, 0, [], []), (25, .putfield 27, 0, 0, 0, [1, 1, 0, 1, 205], []), (28, .return_, 0, 0, 0, [], [])]
def zT_G_standsAhead : zT := [(0, .iconst 0, 0, 0, 0, [], []), (1, .istore_n 2, 0, 0, 0, [], []), (2, .iload_n 2, 3, 0, 0, [], []), (3, .iload_n 1, 0, 0, 0, [], []), (4, .if_icmp .ge 26, 0, 0, 0, [18], []), (7, .aload_n 0, 0, 0, 0, [], []), (8, .getfield 9, 0, 0, 0, [1, 0, 1, 202], []), (11, .iload_n 2, 0, 0, 0, [], []), (12, .iaload, 0, 0, 0, [], []), (13, .aload_n 0, 0, 0, 0, [], []), (14, .getfield 9, 0, 0, 0, [1, 0, 1, 202], []), (17, .iload_n 1, 0, 0, 0, [], []), (18, .iaload, 0, 0, 0, [], []), (19, .if_icmp .ne 5, 0, 0, 0, [16], []), (22, .iconst 1, 0, 1, 0, [], []), (23, .ireturn, 0, 0, 0, [], []), (24, .iinc 2 1, 0, 1, 0, [], []), (27, .goto (-25), 0, 0, 0, [2], []), (30, .iconst 0, 0, 0, 0, [], []), (31, .ireturn, 0, 0, 0, [], [])]
def zT_G_findOrder : zT := [(0, .aload_n 0, 0, 0, 0, [], []), (1, .aload_n 1, 0, 0, 0, [], []), (2, .invokevirtual 31, 0, 0, 0, [11, 1, 0, 1, 2, 230], []), (5, .aload_n 0, 0, 0, 0, [], []), (6, .iconst 0, 0, 0, 0, [], []), (7, .putfield 35, 0, 0, 0, [1, 3, 0, 1, 211], []), (10, .iconst 0, 0, 0, 0, [], []), (11, .istore_n 2, 0, 0, 0, [], []), (12, .iload_n 2, 9, 0, 0, [], [1, 3]), (13, .bipush 16, 0, 16, 0, [], []), (15, .if_icmp .gt 64, 0, 0, 0, [45], []), (18, .aload_n 0, 0, 0, 0, [], []), (19, .invokevirtual 38, 0, 0, 0, [12, 0, 3, 1, 2, 236], []), (22, .ifCond .eq 5, 0, 0, 0, [16], []), (25, .iconst 1, 0, 1, 0, [], []), (26, .ireturn, 0, 0, 0, [], []), (27, .aload_n 0, 0, 0, 0, [], []), (28, .invokevirtual 42, 0, 0, 0, [13, 0, 1, 1, 3, 0], []), (31, .istore_n 3, 0, 0, 0, [], []), (32, .iload_n 3, 0, 0, 0, [], []), (33, .iconst (-1), 0, (-1), 0, [], []), (34, .if_icmp .eq 12, 0, 0, 0, [26], []), (37, .aload_n 0, 0, 0, 0, [], []), (38, .getfield 35, 0, 0, 0, [1, 3, 1, 211], []), (41, .bipush 16, 0, 16, 0, [], []), (43, .if_icmp .lt 5, 0, 0, 0, [28], []), (46, .iconst 0, 0, 0, 0, [], []), (47, .ireturn, 0, 0, 0, [], []), (48, .aload_n 0, 0, 0, 0, [], []), (49, .getfield 15, 0, 0, 0, [1, 2, 1, 207], []), (52, .aload_n 0, 0, 0, 0, [], []), (53, .getfield 35, 0, 0, 0, [1, 3, 1, 211], []), (56, .iload_n 3, 0, 0, 0, [], []), (57, .iastore, 0, 0, 0, [], []), (58, .aload_n 0, 0, 0, 0, [], []), (59, .dup, 0, 0, 0, [], []), (60, .getfield 35, 0, 0, 0, [1, 3, 1, 211], []), (63, .iconst 1, 0, 1, 0, [], []), (64, .iadd, 0, 0, 0, [], []), (65, .putfield 35, 0, 0, 0, [1, 3, 0, 1, 211], []), (68, .aload_n 0, 0, 0, 0, [], []), (69, .iload_n 3, 0, 0, 0, [], []), (70, .invokevirtual 46, 0, 0, 0, [15, 1, 0, 1, 3, 8], []), (73, .iinc 2 1, 0, 1, 0, [], []), (76, .goto (-64), 0, 0, 0, [8], []), (79, .iconst 0, 0, 0, 0, [], []), (80, .ireturn, 0, 0, 0, [], [])]
def zT_G_layRows : zT := [(0, .aload_n 0, 0, 0, 0, [], []), (1, .getfield 21, 0, 0, 0, [1, 5, 1, 214], []), (4, .iconst 0, 0, 0, 0, [], []), (5, .invokestatic 50, 0, 0, 0, [220, 2, 0, 0, 2, 234], []), (8, .aload_n 0, 0, 0, 0, [], []), (9, .getfield 24, 0, 0, 0, [1, 6, 1, 215], []), (12, .iconst 0, 0, 0, 0, [], []), (13, .invokestatic 50, 0, 0, 0, [220, 2, 0, 0, 2, 234], []), (16, .iconst 0, 0, 0, 0, [], []), (17, .istore_n 2, 0, 0, 0, [], []), (18, .iload_n 2, 11, 0, 0, [], [3]), (19, .aload_n 0, 0, 0, 0, [], []), (20, .getfield 27, 0, 0, 0, [1, 1, 1, 205], []), (23, .if_icmp .ge 53, 0, 0, 0, [44], []), (26, .aload_n 0, 0, 0, 0, [], []), (27, .getfield 9, 0, 0, 0, [1, 0, 1, 202], []), (30, .iload_n 2, 0, 0, 0, [], []), (31, .iaload, 0, 0, 0, [], []), (32, .istore_n 3, 0, 0, 0, [], []), (33, .aload_n 0, 0, 0, 0, [], []), (34, .getfield 24, 0, 0, 0, [1, 6, 1, 215], []), (37, .iload_n 2, 0, 0, 0, [], []), (38, .aload_n 1, 0, 0, 0, [], []), (39, .getfield 56, 0, 0, 0, [5, 6, 1, 48], []), (42, .iload_n 3, 0, 0, 0, [], []), (43, .iaload, 0, 0, 0, [], []), (44, .iastore, 0, 0, 0, [], []), (45, .aload_n 1, 0, 0, 0, [], []), (46, .getfield 61, 0, 0, 0, [5, 7, 1, 51], []), (49, .iload_n 3, 0, 0, 0, [], []), (50, .bipush 16, 0, 16, 0, [], []), (52, .imul, 0, 0, 0, [], []), (53, .aload_n 0, 0, 0, 0, [], []), (54, .getfield 18, 0, 0, 0, [1, 4, 1, 213], []), (57, .iload_n 2, 0, 0, 0, [], []), (58, .bipush 16, 0, 16, 0, [], []), (60, .imul, 0, 0, 0, [], []), (61, .aload_n 0, 0, 0, 0, [], []), (62, .getfield 24, 0, 0, 0, [1, 6, 1, 215], []), (65, .iload_n 2, 0, 0, 0, [], []), (66, .iaload, 0, 0, 0, [], []), (67, .invokestatic 64, 0, 0, 0, [2, 235], []), (70, .iinc 2 1, 0, 1, 0, [], []), (73, .goto (-55), 0, 0, 0, [10], []), (76, .aload_n 0, 0, 0, 0, [], []), (77, .getfield 24, 0, 0, 0, [1, 6, 1, 215], []), (80, .iconst 3, 0, 3, 0, [], []), (81, .aload_n 0, 0, 0, 0, [], []), (82, .getfield 27, 0, 0, 0, [1, 1, 1, 205], []), (85, .iastore, 0, 0, 0, [], []), (86, .aload_n 0, 0, 0, 0, [], []), (87, .getfield 9, 0, 0, 0, [1, 0, 1, 202], []), (90, .iconst 0, 0, 0, 0, [], []), (91, .aload_n 0, 0, 0, 0, [], []), (92, .getfield 18, 0, 0, 0, [1, 4, 1, 213], []), (95, .bipush 48, 0, 48, 0, [], []), (97, .aload_n 0, 0, 0, 0, [], []), (98, .getfield 27, 0, 0, 0, [1, 1, 1, 205], []), (101, .invokestatic 64, 0, 0, 0, [2, 235], []), (104, .return_, 0, 0, 0, [], [])]
def zT_G_areAllEmpty : zT := [(0, .iconst 0, 0, 0, 0, [], []), (1, .istore_n 1, 0, 0, 0, [], []), (2, .iload_n 1, 3, 0, 0, [], []), (3, .iconst 4, 0, 4, 0, [], []), (4, .if_icmp .ge 26, 0, 0, 0, [18], []), (7, .aload_n 0, 0, 0, 0, [], []), (8, .getfield 21, 0, 0, 0, [1, 5, 1, 214], []), (11, .iload_n 1, 0, 0, 0, [], []), (12, .iaload, 0, 0, 0, [], []), (13, .aload_n 0, 0, 0, 0, [], []), (14, .getfield 24, 0, 0, 0, [1, 6, 1, 215], []), (17, .iload_n 1, 0, 0, 0, [], []), (18, .iaload, 0, 0, 0, [], []), (19, .if_icmp .ge 5, 0, 0, 0, [16], []), (22, .iconst 0, 0, 0, 0, [], []), (23, .ireturn, 0, 0, 0, [], []), (24, .iinc 1 1, 0, 1, 0, [], []), (27, .goto (-25), 0, 0, 0, [2], []), (30, .iconst 1, 0, 1, 0, [], []), (31, .ireturn, 0, 0, 0, [], [])]
def zT_G_findNext : zT := [(0, .iconst 0, 0, 0, 0, [], []), (1, .istore_n 1, 0, 0, 0, [], []), (2, .iload_n 1, 3, 0, 0, [], [2]), (3, .iconst 4, 0, 4, 0, [], []), (4, .if_icmp .ge 51, 0, 0, 0, [34], []), (7, .aload_n 0, 0, 0, 0, [], []), (8, .getfield 21, 0, 0, 0, [1, 5, 1, 214], []), (11, .iload_n 1, 0, 0, 0, [], []), (12, .iaload, 0, 0, 0, [], []), (13, .aload_n 0, 0, 0, 0, [], []), (14, .getfield 24, 0, 0, 0, [1, 6, 1, 215], []), (17, .iload_n 1, 0, 0, 0, [], []), (18, .iaload, 0, 0, 0, [], []), (19, .if_icmp .ge 30, 0, 0, 0, [32], []), (22, .aload_n 0, 0, 0, 0, [], []), (23, .getfield 18, 0, 0, 0, [1, 4, 1, 213], []), (26, .iload_n 1, 0, 0, 0, [], []), (27, .bipush 16, 0, 16, 0, [], []), (29, .imul, 0, 0, 0, [], []), (30, .aload_n 0, 0, 0, 0, [], []), (31, .getfield 21, 0, 0, 0, [1, 5, 1, 214], []), (34, .iload_n 1, 0, 0, 0, [], []), (35, .iaload, 0, 0, 0, [], []), (36, .iadd, 0, 0, 0, [], []), (37, .iaload, 0, 0, 0, [], []), (38, .istore_n 2, 0, 0, 0, [], []), (39, .aload_n 0, 0, 0, 0, [], []), (40, .iload_n 2, 0, 0, 0, [], []), (41, .invokevirtual 70, 0, 0, 0, [14, 1, 3, 1, 3, 4], []), (44, .ifCond .ne 5, 0, 0, 0, [32], []), (47, .iload_n 2, 0, 0, 0, [], []), (48, .ireturn, 0, 0, 0, [], []), (49, .iinc 1 1, 0, 1, 0, [], []), (52, .goto (-50), 0, 0, 0, [2], []), (55, .iconst (-1), 0, (-1), 0, [], []), (56, .ireturn, 0, 0, 0, [], [])]
def zT_G_standsBehindAFirst : zT := [(0, .iconst 0, 0, 0, 0, [], []), (1, .istore_n 2, 0, 0, 0, [], []), (2, .iload_n 2, 3, 0, 0, [], [3]), (3, .iconst 4, 0, 4, 0, [], []), (4, .if_icmp .ge 51, 0, 0, 0, [34], []), (7, .aload_n 0, 0, 0, 0, [], []), (8, .getfield 21, 0, 0, 0, [1, 5, 1, 214], []), (11, .iload_n 2, 0, 0, 0, [], []), (12, .iaload, 0, 0, 0, [], []), (13, .iconst 1, 0, 1, 0, [], []), (14, .iadd, 0, 0, 0, [], []), (15, .istore_n 3, 0, 0, 0, [], []), (16, .iload_n 3, 13, 0, 0, [], []), (17, .aload_n 0, 0, 0, 0, [], []), (18, .getfield 24, 0, 0, 0, [1, 6, 1, 215], []), (21, .iload_n 2, 0, 0, 0, [], []), (22, .iaload, 0, 0, 0, [], []), (23, .if_icmp .ge 26, 0, 0, 0, [32], []), (26, .aload_n 0, 0, 0, 0, [], []), (27, .getfield 18, 0, 0, 0, [1, 4, 1, 213], []), (30, .iload_n 2, 0, 0, 0, [], []), (31, .bipush 16, 0, 16, 0, [], []), (33, .imul, 0, 0, 0, [], []), (34, .iload_n 3, 0, 0, 0, [], []), (35, .iadd, 0, 0, 0, [], []), (36, .iaload, 0, 0, 0, [], []), (37, .iload_n 1, 0, 0, 0, [], []), (38, .if_icmp .ne 5, 0, 0, 0, [30], []), (41, .iconst 1, 0, 1, 0, [], []), (42, .ireturn, 0, 0, 0, [], []), (43, .iinc 3 1, 0, 1, 0, [], []), (46, .goto (-30), 0, 0, 0, [12], []), (49, .iinc 2 1, 0, 1, 0, [], []), (52, .goto (-50), 0, 0, 0, [2], []), (55, .iconst 0, 0, 0, 0, [], []), (56, .ireturn, 0, 0, 0, [], [])]
def zT_G_takeOut : zT := [(0, .iconst 0, 0, 0, 0, [], []), (1, .istore_n 2, 0, 0, 0, [], []), (2, .iload_n 2, 3, 0, 0, [], []), (3, .iconst 4, 0, 4, 0, [], []), (4, .if_icmp .ge 54, 0, 0, 0, [37], []), (7, .aload_n 0, 0, 0, 0, [], []), (8, .getfield 21, 0, 0, 0, [1, 5, 1, 214], []), (11, .iload_n 2, 0, 0, 0, [], []), (12, .iaload, 0, 0, 0, [], []), (13, .aload_n 0, 0, 0, 0, [], []), (14, .getfield 24, 0, 0, 0, [1, 6, 1, 215], []), (17, .iload_n 2, 0, 0, 0, [], []), (18, .iaload, 0, 0, 0, [], []), (19, .if_icmp .ge 33, 0, 0, 0, [35], []), (22, .aload_n 0, 0, 0, 0, [], []), (23, .getfield 18, 0, 0, 0, [1, 4, 1, 213], []), (26, .iload_n 2, 0, 0, 0, [], []), (27, .bipush 16, 0, 16, 0, [], []), (29, .imul, 0, 0, 0, [], []), (30, .aload_n 0, 0, 0, 0, [], []), (31, .getfield 21, 0, 0, 0, [1, 5, 1, 214], []), (34, .iload_n 2, 0, 0, 0, [], []), (35, .iaload, 0, 0, 0, [], []), (36, .iadd, 0, 0, 0, [], []), (37, .iaload, 0, 0, 0, [], []), (38, .iload_n 1, 0, 0, 0, [], []), (39, .if_icmp .ne 13, 0, 0, 0, [35], []), (42, .aload_n 0, 0, 0, 0, [], []), (43, .getfield 21, 0, 0, 0, [1, 5, 1, 214], []), (46, .iload_n 2, 0, 0, 0, [], []), (47, .dup2, 0, 0, 0, [], []), (48, .iaload, 0, 0, 0, [], []), (49, .iconst 1, 0, 1, 0, [], []), (50, .iadd, 0, 0, 0, [], []), (51, .iastore, 0, 0, 0, [], []), (52, .iinc 2 1, 0, 1, 0, [], []), (55, .goto (-53), 0, 0, 0, [2], []), (58, .return_, 0, 0, 0, [], [])]
def zT_D_lay : zT := [(0, .aload_n 0, 0, 0, 0, [], []), (1, .aload_n 1, 0, 0, 0, [], []), (2, .getfield 15, 0, 0, 0, [4, 1, 1, 185], []), (5, .iload_n 2, 0, 0, 0, [], []), (6, .iaload, 0, 0, 0, [], []), (7, .putfield 20, 0, 0, 0, [2, 2, 0, 2, 0], []), (10, .iconst 0, 0, 0, 0, [], []), (11, .istore_n 3, 0, 0, 0, [], []), (12, .iload_n 3, 9, 0, 0, [], []), (13, .aload_n 0, 0, 0, 0, [], []), (14, .getfield 20, 0, 0, 0, [2, 2, 2, 0], []), (17, .if_icmp .ge 21, 0, 0, 0, [22], []), (20, .aload_n 0, 0, 0, 0, [], []), (21, .getfield 9, 0, 0, 0, [2, 1, 1, 239], []), (24, .iload_n 3, 0, 0, 0, [], []), (25, .aload_n 1, 0, 0, 0, [], []), (26, .iload_n 2, 0, 0, 0, [], []), (27, .iload_n 3, 0, 0, 0, [], []), (28, .invokevirtual 24, 0, 0, 0, [58, 2, 1, 4, 2, 172], []), (31, .iastore, 0, 0, 0, [], []), (32, .iinc 3 1, 0, 1, 0, [], []), (35, .goto (-23), 0, 0, 0, [8], []), (38, .return_, 0, 0, 0, [], [])]
def zT_D_readText : zT := [(0, .aload_n 1, 0, 0, 0, [], []), (1, .getfield 28, 0, 0, 0, [5, 0, 1, 34], []), (4, .istore_n 3, 0, 0, 0, [], []), (5, .aload_n 0, 0, 0, 0, [], []), (6, .iconst 0, 0, 0, 0, [], []), (7, .putfield 33, 0, 0, 0, [2, 3, 0, 2, 1], []), (10, .aload_n 0, 0, 0, 0, [], []), (11, .iconst 0, 0, 0, 0, [], []), (12, .putfield 36, 0, 0, 0, [2, 0, 0, 1, 237], []), (15, .aload_n 0, 0, 0, 0, [], []), (16, .iconst (-1), 0, (-1), 0, [], []), (17, .putfield 39, 0, 0, 0, [2, 4, 0, 2, 2], []), (20, .iconst 1, 0, 1, 0, [], []), (21, .istore 4, 0, 0, 0, [], []), (23, .iconst 0, 0, 0, 0, [], []), (24, .istore 5, 0, 0, 0, [], []), (26, .iload 5, 17, 0, 0, [], []), (28, .sipush 160, 0, 160, 0, [], []), (31, .if_icmp .gt 50, 0, 0, 0, [41], []), (34, .iload 4, 0, 0, 0, [], []), (36, .ifCond .eq 45, 0, 0, 0, [41], []), (39, .aload_n 0, 0, 0, 0, [], []), (40, .aload_n 1, 0, 0, 0, [], []), (41, .aload_n 2, 0, 0, 0, [], []), (42, .invokevirtual 42, 0, 0, 0, [18, 2, 3, 2, 2, 180], []), (45, .ifCond .eq 27, 0, 0, 0, [37], []), (48, .aload_n 0, 0, 0, 0, [], []), (49, .getfield 33, 0, 0, 0, [2, 3, 2, 1], []), (52, .aload_n 0, 0, 0, 0, [], []), (53, .getfield 20, 0, 0, 0, [2, 2, 2, 0], []), (56, .if_icmp .ge 16, 0, 0, 0, [37], []), (59, .aload_n 0, 0, 0, 0, [], []), (60, .bipush 59, 0, 59, 0, [], []), (62, .invokevirtual 46, 0, 0, 0, [24, 1, 3, 2, 2, 184], []), (65, .ifCond .eq 7, 0, 0, 0, [37], []), (68, .iconst 1, 0, 1, 0, [], []), (69, .goto 4, 0, 0, 0, [38], []), (72, .iconst 0, 0, 0, 0, [], []), (73, .istore 4, 0, 0, 0, [], []), (75, .iinc 5 1, 0, 1, 0, [], []), (78, .goto (-52), 0, 0, 0, [16], []), (81, .aload_n 0, 0, 0, 0, [], []), (82, .getfield 39, 0, 0, 0, [2, 4, 2, 2], []), (85, .iconst (-1), 0, (-1), 0, [], []), (86, .if_icmp .eq 8, 0, 0, 0, [48], []), (89, .aload_n 1, 0, 0, 0, [], []), (90, .iload_n 3, 0, 0, 0, [], []), (91, .putfield 28, 0, 0, 0, [5, 0, 0, 1, 34], []), (94, .aload_n 0, 0, 0, 0, [], []), (95, .getfield 39, 0, 0, 0, [2, 4, 2, 2], []), (98, .ireturn, 0, 0, 0, [], [])]
def zT_D_readItem : zT := [(0, .aload_n 0, 0, 0, 0, [], []), (1, .getfield 33, 0, 0, 0, [2, 3, 2, 1], []), (4, .istore_n 3, 0, 0, 0, [], []), (5, .aload_n 0, 0, 0, 0, [], []), (6, .bipush 110, 0, 110, 0, [], []), (8, .invokevirtual 46, 0, 0, 0, [24, 1, 3, 2, 2, 184], []), (11, .ifCond .eq 30, 0, 0, 0, [19], []), (14, .aload_n 0, 0, 0, 0, [], []), (15, .bipush 101, 0, 101, 0, [], []), (17, .invokevirtual 46, 0, 0, 0, [24, 1, 3, 2, 2, 184], []), (20, .ifCond .eq 21, 0, 0, 0, [19], []), (23, .aload_n 0, 0, 0, 0, [], []), (24, .bipush 119, 0, 119, 0, [], []), (26, .invokevirtual 46, 0, 0, 0, [24, 1, 3, 2, 2, 184], []), (29, .ifCond .eq 12, 0, 0, 0, [19], []), (32, .aload_n 0, 0, 0, 0, [], []), (33, .bipush 32, 0, 32, 0, [], []), (35, .invokevirtual 46, 0, 0, 0, [24, 1, 3, 2, 2, 184], []), (38, .ifCond .ne 5, 0, 0, 0, [21], []), (41, .iconst 0, 0, 0, 0, [], []), (42, .ireturn, 0, 0, 0, [], []), (43, .aload_n 0, 0, 0, 0, [], []), (44, .invokevirtual 50, 0, 0, 0, [26, 0, 3, 2, 2, 196], []), (47, .ifCond .eq 21, 0, 0, 0, [33], []), (50, .aload_n 0, 0, 0, 0, [], []), (51, .getfield 9, 0, 0, 0, [2, 1, 1, 239], []), (54, .aload_n 0, 0, 0, 0, [], []), (55, .getfield 33, 0, 0, 0, [2, 3, 2, 1], []), (58, .iaload, 0, 0, 0, [], []), (59, .bipush 48, 0, 48, 0, [], []), (61, .isub, 0, 0, 0, [], []), (62, .invokestatic 54, 0, 0, 0, [121, 1, 3, 1, 2, 200], []), (65, .ifCond .ne 12, 0, 0, 0, [38], []), (68, .aload_n 0, 0, 0, 0, [], []), (69, .aload_n 0, 0, 0, 0, [], []), (70, .getfield 33, 0, 0, 0, [2, 3, 2, 1], []), (73, .invokevirtual 57, 0, 0, 0, [27, 1, 3, 2, 2, 192], []), (76, .ireturn, 0, 0, 0, [], []), (77, .aload_n 0, 0, 0, 0, [], []), (78, .getfield 9, 0, 0, 0, [2, 1, 1, 239], []), (81, .aload_n 0, 0, 0, 0, [], []), (82, .getfield 33, 0, 0, 0, [2, 3, 2, 1], []), (85, .iaload, 0, 0, 0, [], []), (86, .bipush 48, 0, 48, 0, [], []), (88, .isub, 0, 0, 0, [], []), (89, .istore 4, 0, 0, 0, [], []), (91, .aload_n 0, 0, 0, 0, [], []), (92, .dup, 0, 0, 0, [], []), (93, .getfield 33, 0, 0, 0, [2, 3, 2, 1], []), (96, .iconst 1, 0, 1, 0, [], []), (97, .iadd, 0, 0, 0, [], []), (98, .putfield 33, 0, 0, 0, [2, 3, 0, 2, 1], []), (101, .aload_n 2, 0, 0, 0, [], []), (102, .invokevirtual 60, 0, 0, 0, [6, 0, 0, 1, 2, 201], []), (105, .aload_n 0, 0, 0, 0, [], []), (106, .bipush 60, 0, 60, 0, [], []), (108, .invokevirtual 65, 0, 0, 0, [25, 1, 3, 2, 2, 188], []), (111, .ifCond .eq 14, 0, 0, 0, [65], []), (114, .aload_n 0, 0, 0, 0, [], []), (115, .aload_n 1, 0, 0, 0, [], []), (116, .aload_n 2, 0, 0, 0, [], []), (117, .invokevirtual 68, 0, 0, 0, [19, 2, 3, 2, 2, 205], []), (120, .ifCond .ne 5, 0, 0, 0, [65], []), (123, .iconst 0, 0, 0, 0, [], []), (124, .ireturn, 0, 0, 0, [], []), (125, .aload_n 1, 0, 0, 0, [], []), (126, .invokevirtual 71, 0, 0, 0, [61, 0, 3, 5, 2, 222], []), (129, .ifCond .ne 11, 0, 0, 0, [72], []), (132, .aload_n 2, 0, 0, 0, [], []), (133, .aload_n 1, 0, 0, 0, [], []), (134, .invokevirtual 74, 0, 0, 0, [10, 1, 3, 1, 2, 226], []), (137, .ifCond .ne 9, 0, 0, 0, [76], []), (140, .aload_n 0, 0, 0, 0, [], []), (141, .iload_n 3, 0, 0, 0, [], []), (142, .invokevirtual 57, 0, 0, 0, [27, 1, 3, 2, 2, 192], []), (145, .ireturn, 0, 0, 0, [], []), (146, .aload_n 0, 0, 0, 0, [], []), (147, .dup, 0, 0, 0, [], []), (148, .getfield 36, 0, 0, 0, [2, 0, 1, 237], []), (151, .iconst 1, 0, 1, 0, [], []), (152, .iadd, 0, 0, 0, [], []), (153, .putfield 36, 0, 0, 0, [2, 0, 0, 1, 237], []), (156, .aload_n 0, 0, 0, 0, [], []), (157, .aload_n 1, 0, 0, 0, [], []), (158, .aload_n 1, 0, 0, 0, [], []), (159, .iload 4, 0, 0, 0, [], []), (161, .aload_n 2, 0, 0, 0, [], []), (162, .invokevirtual 78, 0, 0, 0, [62, 2, 1, 5, 3, 12], []), (165, .invokevirtual 82, 0, 0, 0, [20, 2, 3, 2, 3, 21], []), (168, .ireturn, 0, 0, 0, [], [])]
def zT_D_readParents : zT := [(0, .iconst 0, 0, 0, 0, [], []), (1, .istore_n 3, 0, 0, 0, [], []), (2, .iload_n 3, 3, 0, 0, [], [4]), (3, .iconst 3, 0, 3, 0, [], []), (4, .if_icmp .ge 96, 0, 0, 0, [53], []), (7, .aload_n 0, 0, 0, 0, [], []), (8, .dup, 0, 0, 0, [], []), (9, .getfield 33, 0, 0, 0, [2, 3, 2, 1], []), (12, .iconst 1, 0, 1, 0, [], []), (13, .iadd, 0, 0, 0, [], []), (14, .putfield 33, 0, 0, 0, [2, 3, 0, 2, 1], []), (17, .aload_n 0, 0, 0, 0, [], []), (18, .getfield 33, 0, 0, 0, [2, 3, 2, 1], []), (21, .istore 4, 0, 0, 0, [], []), (23, .aload_n 0, 0, 0, 0, [], []), (24, .iconst 0, 0, 0, 0, [], []), (25, .invokevirtual 86, 0, 0, 0, [23, 1, 3, 2, 2, 209], []), (28, .ifCond .ne 5, 0, 0, 0, [20], []), (31, .iconst 0, 0, 0, 0, [], []), (32, .ireturn, 0, 0, 0, [], []), (33, .aload_n 1, 0, 0, 0, [], []), (34, .aload_n 0, 0, 0, 0, [], []), (35, .getfield 90, 0, 0, 0, [2, 5, 2, 3], []), (38, .invokevirtual 93, 0, 0, 0, [60, 1, 3, 5, 2, 213], []), (41, .ifCond .eq 27, 0, 0, 0, [37], []), (44, .aload_n 1, 0, 0, 0, [], []), (45, .getfield 96, 0, 0, 0, [5, 3, 1, 42], []), (48, .aload_n 0, 0, 0, 0, [], []), (49, .getfield 90, 0, 0, 0, [2, 5, 2, 3], []), (52, .iaload, 0, 0, 0, [], []), (53, .iconst 2, 0, 2, 0, [], []), (54, .if_icmp .eq 14, 0, 0, 0, [37], []), (57, .aload_n 2, 0, 0, 0, [], []), (58, .aload_n 0, 0, 0, 0, [], []), (59, .getfield 90, 0, 0, 0, [2, 5, 2, 3], []), (62, .invokevirtual 99, 0, 0, 0, [7, 1, 3, 1, 2, 214], []), (65, .ifCond .eq 10, 0, 0, 0, [41], []), (68, .aload_n 0, 0, 0, 0, [], []), (69, .iload 4, 0, 0, 0, [], []), (71, .invokevirtual 57, 0, 0, 0, [27, 1, 3, 2, 2, 192], []), (74, .ireturn, 0, 0, 0, [], []), (75, .aload_n 2, 0, 0, 0, [], []), (76, .aload_n 0, 0, 0, 0, [], []), (77, .getfield 90, 0, 0, 0, [2, 5, 2, 3], []), (80, .invokevirtual 102, 0, 0, 0, [8, 1, 0, 1, 2, 218], []), (83, .aload_n 0, 0, 0, 0, [], []), (84, .bipush 44, 0, 44, 0, [], []), (86, .invokevirtual 65, 0, 0, 0, [25, 1, 3, 2, 2, 188], []), (89, .ifCond .ne 5, 0, 0, 0, [51], []), (92, .iconst 1, 0, 1, 0, [], []), (93, .ireturn, 0, 0, 0, [], []), (94, .iinc 3 1, 0, 1, 0, [], []), (97, .goto (-95), 0, 0, 0, [2], []), (100, .aload_n 0, 0, 0, 0, [], []), (101, .aload_n 0, 0, 0, 0, [], []), (102, .getfield 33, 0, 0, 0, [2, 3, 2, 1], []), (105, .invokevirtual 57, 0, 0, 0, [27, 1, 3, 2, 2, 192], []), (108, .ireturn, 0, 0, 0, [], [])]
def zT_D_readSlots : zT := [(0, .iconst 0, 0, 0, 0, [], []), (1, .istore_n 3, 0, 0, 0, [], []), (2, .iload_n 3, 3, 0, 0, [], [4]), (3, .sipush 160, 0, 160, 0, [], []), (6, .if_icmp .ge 136, 0, 0, 0, [74], []), (9, .aload_n 0, 0, 0, 0, [], []), (10, .bipush 32, 0, 32, 0, [], []), (12, .invokevirtual 65, 0, 0, 0, [25, 1, 3, 2, 2, 188], []), (15, .ifCond .eq 127, 0, 0, 0, [74], []), (18, .aload_n 0, 0, 0, 0, [], []), (19, .dup, 0, 0, 0, [], []), (20, .getfield 33, 0, 0, 0, [2, 3, 2, 1], []), (23, .iconst 1, 0, 1, 0, [], []), (24, .iadd, 0, 0, 0, [], []), (25, .putfield 33, 0, 0, 0, [2, 3, 0, 2, 1], []), (28, .aload_n 0, 0, 0, 0, [], []), (29, .getfield 33, 0, 0, 0, [2, 3, 2, 1], []), (32, .aload_n 0, 0, 0, 0, [], []), (33, .getfield 20, 0, 0, 0, [2, 2, 2, 0], []), (36, .if_icmp .ge 31, 0, 0, 0, [34], []), (39, .aload_n 0, 0, 0, 0, [], []), (40, .getfield 9, 0, 0, 0, [2, 1, 1, 239], []), (43, .aload_n 0, 0, 0, 0, [], []), (44, .getfield 33, 0, 0, 0, [2, 3, 2, 1], []), (47, .iaload, 0, 0, 0, [], []), (48, .bipush 97, 0, 97, 0, [], []), (50, .if_icmp .lt 17, 0, 0, 0, [34], []), (53, .aload_n 0, 0, 0, 0, [], []), (54, .getfield 9, 0, 0, 0, [2, 1, 1, 239], []), (57, .aload_n 0, 0, 0, 0, [], []), (58, .getfield 33, 0, 0, 0, [2, 3, 2, 1], []), (61, .iaload, 0, 0, 0, [], []), (62, .bipush 113, 0, 113, 0, [], []), (64, .if_icmp .lt 12, 0, 0, 0, [39], []), (67, .aload_n 0, 0, 0, 0, [], []), (68, .aload_n 0, 0, 0, 0, [], []), (69, .getfield 33, 0, 0, 0, [2, 3, 2, 1], []), (72, .invokevirtual 57, 0, 0, 0, [27, 1, 3, 2, 2, 192], []), (75, .ireturn, 0, 0, 0, [], []), (76, .aload_n 0, 0, 0, 0, [], []), (77, .getfield 9, 0, 0, 0, [2, 1, 1, 239], []), (80, .aload_n 0, 0, 0, 0, [], []), (81, .getfield 33, 0, 0, 0, [2, 3, 2, 1], []), (84, .iaload, 0, 0, 0, [], []), (85, .bipush 97, 0, 97, 0, [], []), (87, .isub, 0, 0, 0, [], []), (88, .istore 4, 0, 0, 0, [], []), (90, .aload_n 0, 0, 0, 0, [], []), (91, .dup, 0, 0, 0, [], []), (92, .getfield 33, 0, 0, 0, [2, 3, 2, 1], []), (95, .iconst 1, 0, 1, 0, [], []), (96, .iadd, 0, 0, 0, [], []), (97, .putfield 33, 0, 0, 0, [2, 3, 0, 2, 1], []), (100, .aload_n 0, 0, 0, 0, [], []), (101, .bipush 58, 0, 58, 0, [], []), (103, .invokevirtual 65, 0, 0, 0, [25, 1, 3, 2, 2, 188], []), (106, .ifCond .eq 17, 0, 0, 0, [64], []), (109, .aload_n 0, 0, 0, 0, [], []), (110, .aload_n 1, 0, 0, 0, [], []), (111, .iload_n 2, 0, 0, 0, [], []), (112, .iload 4, 0, 0, 0, [], []), (114, .invokevirtual 106, 0, 0, 0, [22, 3, 3, 2, 3, 25], []), (117, .ifCond .eq 17, 0, 0, 0, [70], []), (120, .goto 16, 0, 0, 0, [72], []), (123, .aload_n 0, 0, 0, 0, [], []), (124, .aload_n 1, 0, 0, 0, [], []), (125, .iload_n 2, 0, 0, 0, [], []), (126, .iload 4, 0, 0, 0, [], []), (128, .invokevirtual 110, 0, 0, 0, [21, 3, 3, 2, 3, 33], []), (131, .ifCond .ne 5, 0, 0, 0, [72], []), (134, .iconst 0, 0, 0, 0, [], []), (135, .ireturn, 0, 0, 0, [], []), (136, .iinc 3 1, 0, 1, 0, [], []), (139, .goto (-137), 0, 0, 0, [2], []), (142, .iconst 1, 0, 1, 0, [], []), (143, .ireturn, 0, 0, 0, [], [])]
def zT_D_readValue : zT := [(0, .aload_n 0, 0, 0, 0, [], []), (1, .bipush 61, 0, 61, 0, [], []), (3, .invokevirtual 46, 0, 0, 0, [24, 1, 3, 2, 2, 184], []), (6, .ifCond .eq 11, 0, 0, 0, [8], []), (9, .aload_n 0, 0, 0, 0, [], []), (10, .iconst 1, 0, 1, 0, [], []), (11, .invokevirtual 86, 0, 0, 0, [23, 1, 3, 2, 2, 209], []), (14, .ifCond .ne 5, 0, 0, 0, [10], []), (17, .iconst 0, 0, 0, 0, [], []), (18, .ireturn, 0, 0, 0, [], []), (19, .aload_n 1, 0, 0, 0, [], []), (20, .iload_n 2, 0, 0, 0, [], []), (21, .iload_n 3, 0, 0, 0, [], []), (22, .aload_n 0, 0, 0, 0, [], []), (23, .getfield 90, 0, 0, 0, [2, 5, 2, 3], []), (26, .invokevirtual 113, 0, 0, 0, [69, 3, 0, 5, 3, 37], []), (29, .iconst 1, 0, 1, 0, [], []), (30, .ireturn, 0, 0, 0, [], [])]
def zT_D_readMethod : zT := [(0, .aload_n 0, 0, 0, 0, [], []), (1, .dup, 0, 0, 0, [], []), (2, .getfield 33, 0, 0, 0, [2, 3, 2, 1], []), (5, .iconst 1, 0, 1, 0, [], []), (6, .iadd, 0, 0, 0, [], []), (7, .putfield 33, 0, 0, 0, [2, 3, 0, 2, 1], []), (10, .aload_n 0, 0, 0, 0, [], []), (11, .invokevirtual 50, 0, 0, 0, [26, 0, 3, 2, 2, 196], []), (14, .ifCond .ne 12, 0, 0, 0, [14], []), (17, .aload_n 0, 0, 0, 0, [], []), (18, .aload_n 0, 0, 0, 0, [], []), (19, .getfield 33, 0, 0, 0, [2, 3, 2, 1], []), (22, .invokevirtual 57, 0, 0, 0, [27, 1, 3, 2, 2, 192], []), (25, .ireturn, 0, 0, 0, [], []), (26, .aload_n 0, 0, 0, 0, [], []), (27, .getfield 9, 0, 0, 0, [2, 1, 1, 239], []), (30, .aload_n 0, 0, 0, 0, [], []), (31, .getfield 33, 0, 0, 0, [2, 3, 2, 1], []), (34, .iaload, 0, 0, 0, [], []), (35, .bipush 48, 0, 48, 0, [], []), (37, .isub, 0, 0, 0, [], []), (38, .istore 4, 0, 0, 0, [], []), (40, .aload_n 0, 0, 0, 0, [], []), (41, .dup, 0, 0, 0, [], []), (42, .getfield 33, 0, 0, 0, [2, 3, 2, 1], []), (45, .iconst 1, 0, 1, 0, [], []), (46, .iadd, 0, 0, 0, [], []), (47, .putfield 33, 0, 0, 0, [2, 3, 0, 2, 1], []), (50, .aload_n 0, 0, 0, 0, [], []), (51, .bipush 46, 0, 46, 0, [], []), (53, .invokevirtual 46, 0, 0, 0, [24, 1, 3, 2, 2, 184], []), (56, .ifCond .eq 11, 0, 0, 0, [36], []), (59, .aload_n 0, 0, 0, 0, [], []), (60, .iconst 1, 0, 1, 0, [], []), (61, .invokevirtual 86, 0, 0, 0, [23, 1, 3, 2, 2, 209], []), (64, .ifCond .ne 5, 0, 0, 0, [38], []), (67, .iconst 0, 0, 0, 0, [], []), (68, .ireturn, 0, 0, 0, [], []), (69, .aload_n 1, 0, 0, 0, [], []), (70, .iload_n 2, 0, 0, 0, [], []), (71, .iload_n 3, 0, 0, 0, [], []), (72, .iload 4, 0, 0, 0, [], []), (74, .aload_n 0, 0, 0, 0, [], []), (75, .getfield 90, 0, 0, 0, [2, 5, 2, 3], []), (78, .invokevirtual 117, 0, 0, 0, [70, 4, 0, 5, 3, 29], []), (81, .iconst 1, 0, 1, 0, [], []), (82, .ireturn, 0, 0, 0, [], [])]
def zT_D_readNumber : zT := [(0, .iload_n 1, 0, 0, 0, [], []), (1, .ifCond .eq 16, 0, 0, 0, [8], []), (4, .aload_n 0, 0, 0, 0, [], []), (5, .bipush 45, 0, 45, 0, [], []), (7, .invokevirtual 65, 0, 0, 0, [25, 1, 3, 2, 2, 188], []), (10, .ifCond .eq 7, 0, 0, 0, [8], []), (13, .iconst 1, 0, 1, 0, [], []), (14, .goto 4, 0, 0, 0, [9], []), (17, .iconst 0, 9, 0, 0, [], [1, 2]), (18, .istore_n 2, 0, 0, 0, [], []), (19, .iload_n 2, 0, 0, 0, [], []), (20, .ifCond .eq 13, 0, 0, 0, [18], []), (23, .aload_n 0, 0, 0, 0, [], []), (24, .dup, 0, 0, 0, [], []), (25, .getfield 33, 0, 0, 0, [2, 3, 2, 1], []), (28, .iconst 1, 0, 1, 0, [], []), (29, .iadd, 0, 0, 0, [], []), (30, .putfield 33, 0, 0, 0, [2, 3, 0, 2, 1], []), (33, .aload_n 0, 0, 0, 0, [], []), (34, .invokevirtual 50, 0, 0, 0, [26, 0, 3, 2, 2, 196], []), (37, .ifCond .ne 12, 0, 0, 0, [26], []), (40, .aload_n 0, 0, 0, 0, [], []), (41, .aload_n 0, 0, 0, 0, [], []), (42, .getfield 33, 0, 0, 0, [2, 3, 2, 1], []), (45, .invokevirtual 57, 0, 0, 0, [27, 1, 3, 2, 2, 192], []), (48, .ireturn, 0, 0, 0, [], []), (49, .aload_n 0, 0, 0, 0, [], []), (50, .aload_n 0, 0, 0, 0, [], []), (51, .getfield 9, 0, 0, 0, [2, 1, 1, 239], []), (54, .aload_n 0, 0, 0, 0, [], []), (55, .getfield 33, 0, 0, 0, [2, 3, 2, 1], []), (58, .iaload, 0, 0, 0, [], []), (59, .bipush 48, 0, 48, 0, [], []), (61, .isub, 0, 0, 0, [], []), (62, .putfield 90, 0, 0, 0, [2, 5, 0, 2, 3], []), (65, .aload_n 0, 0, 0, 0, [], []), (66, .dup, 0, 0, 0, [], []), (67, .getfield 33, 0, 0, 0, [2, 3, 2, 1], []), (70, .iconst 1, 0, 1, 0, [], []), (71, .iadd, 0, 0, 0, [], []), (72, .putfield 33, 0, 0, 0, [2, 3, 0, 2, 1], []), (75, .aload_n 0, 0, 0, 0, [], []), (76, .invokevirtual 50, 0, 0, 0, [26, 0, 3, 2, 2, 196], []), (79, .ifCond .eq 37, 0, 0, 0, [64], []), (82, .aload_n 0, 0, 0, 0, [], []), (83, .aload_n 0, 0, 0, 0, [], []), (84, .getfield 90, 0, 0, 0, [2, 5, 2, 3], []), (87, .bipush 10, 0, 10, 0, [], []), (89, .imul, 0, 0, 0, [], []), (90, .aload_n 0, 0, 0, 0, [], []), (91, .getfield 9, 0, 0, 0, [2, 1, 1, 239], []), (94, .aload_n 0, 0, 0, 0, [], []), (95, .getfield 33, 0, 0, 0, [2, 3, 2, 1], []), (98, .iaload, 0, 0, 0, [], []), (99, .iadd, 0, 0, 0, [], []), (100, .bipush 48, 0, 48, 0, [], []), (102, .isub, 0, 0, 0, [], []), (103, .putfield 90, 0, 0, 0, [2, 5, 0, 2, 3], []), (106, .aload_n 0, 0, 0, 0, [], []), (107, .dup, 0, 0, 0, [], []), (108, .getfield 33, 0, 0, 0, [2, 3, 2, 1], []), (111, .iconst 1, 0, 1, 0, [], []), (112, .iadd, 0, 0, 0, [], []), (113, .putfield 33, 0, 0, 0, [2, 3, 0, 2, 1], []), (116, .iload_n 2, 0, 0, 0, [], []), (117, .ifCond .eq 12, 0, 0, 0, [71], []), (120, .aload_n 0, 0, 0, 0, [], []), (121, .aload_n 0, 0, 0, 0, [], []), (122, .getfield 90, 0, 0, 0, [2, 5, 2, 3], []), (125, .ineg, 0, 0, 0, [], []), (126, .putfield 90, 0, 0, 0, [2, 5, 0, 2, 3], []), (129, .iconst 1, 0, 1, 0, [], []), (130, .ireturn, 0, 0, 0, [], [])]
def zT_D_pass : zT := [(0, .aload_n 0, 0, 0, 0, [], []), (1, .iload_n 1, 0, 0, 0, [], []), (2, .invokevirtual 65, 0, 0, 0, [25, 1, 3, 2, 2, 188], []), (5, .ifCond .ne 12, 0, 0, 0, [9], []), (8, .aload_n 0, 0, 0, 0, [], []), (9, .aload_n 0, 0, 0, 0, [], []), (10, .getfield 33, 0, 0, 0, [2, 3, 2, 1], []), (13, .invokevirtual 57, 0, 0, 0, [27, 1, 3, 2, 2, 192], []), (16, .ireturn, 0, 0, 0, [], []), (17, .aload_n 0, 0, 0, 0, [], []), (18, .dup, 0, 0, 0, [], []), (19, .getfield 33, 0, 0, 0, [2, 3, 2, 1], []), (22, .iconst 1, 0, 1, 0, [], []), (23, .iadd, 0, 0, 0, [], []), (24, .putfield 33, 0, 0, 0, [2, 3, 0, 2, 1], []), (27, .iconst 1, 0, 1, 0, [], []), (28, .ireturn, 0, 0, 0, [], [])]
def zT_D_stands : zT := [(0, .aload_n 0, 0, 0, 0, [], []), (1, .getfield 33, 0, 0, 0, [2, 3, 2, 1], []), (4, .aload_n 0, 0, 0, 0, [], []), (5, .getfield 20, 0, 0, 0, [2, 2, 2, 0], []), (8, .if_icmp .ge 20, 0, 0, 0, [14], []), (11, .aload_n 0, 0, 0, 0, [], []), (12, .getfield 9, 0, 0, 0, [2, 1, 1, 239], []), (15, .aload_n 0, 0, 0, 0, [], []), (16, .getfield 33, 0, 0, 0, [2, 3, 2, 1], []), (19, .iaload, 0, 0, 0, [], []), (20, .iload_n 1, 0, 0, 0, [], []), (21, .if_icmp .ne 7, 0, 0, 0, [14], []), (24, .iconst 1, 0, 1, 0, [], []), (25, .goto 4, 0, 0, 0, [15], []), (28, .iconst 0, 0, 0, 0, [], []), (29, .ireturn, 0, 0, 0, [], [])]
def zT_D_digitStands : zT := [(0, .aload_n 0, 0, 0, 0, [], []), (1, .getfield 33, 0, 0, 0, [2, 3, 2, 1], []), (4, .aload_n 0, 0, 0, 0, [], []), (5, .getfield 20, 0, 0, 0, [2, 2, 2, 0], []), (8, .if_icmp .ge 35, 0, 0, 0, [21], []), (11, .aload_n 0, 0, 0, 0, [], []), (12, .getfield 9, 0, 0, 0, [2, 1, 1, 239], []), (15, .aload_n 0, 0, 0, 0, [], []), (16, .getfield 33, 0, 0, 0, [2, 3, 2, 1], []), (19, .iaload, 0, 0, 0, [], []), (20, .bipush 48, 0, 48, 0, [], []), (22, .if_icmp .lt 21, 0, 0, 0, [21], []), (25, .aload_n 0, 0, 0, 0, [], []), (26, .getfield 9, 0, 0, 0, [2, 1, 1, 239], []), (29, .aload_n 0, 0, 0, 0, [], []), (30, .getfield 33, 0, 0, 0, [2, 3, 2, 1], []), (33, .iaload, 0, 0, 0, [], []), (34, .bipush 57, 0, 57, 0, [], []), (36, .if_icmp .gt 7, 0, 0, 0, [21], []), (39, .iconst 1, 0, 1, 0, [], []), (40, .goto 4, 0, 0, 0, [22], []), (43, .iconst 0, 0, 0, 0, [], []), (44, .ireturn, 0, 0, 0, [], [])]
def zT_D_markFault : zT := [(0, .aload_n 0, 0, 0, 0, [], []), (1, .iload_n 1, 0, 0, 0, [], []), (2, .putfield 39, 0, 0, 0, [2, 4, 0, 2, 2], []), (5, .iconst 0, 0, 0, 0, [], []), (6, .ireturn, 0, 0, 0, [], [])]
def zT_U_beginAct : zT := [(0, .aload_n 0, 0, 0, 0, [], []), (1, .iconst 0, 0, 0, 0, [], []), (2, .putfield 41, 0, 0, 0, [3, 4, 0, 1, 118], []), (5, .return_, 0, 0, 0, [], [])]
def zT_U_sendSlot : zT := [(0, .aload_n 0, 0, 0, 0, [], []), (1, .iconst 4, 0, 4, 0, [], []), (2, .iload_n 2, 0, 0, 0, [], []), (3, .iconst 0, 0, 0, 0, [], []), (4, .iload_n 3, 0, 0, 0, [], []), (5, .invokevirtual 45, 0, 0, 0, [35, 4, 0, 3, 3, 166], []), (8, .aload_n 0, 0, 0, 0, [], []), (9, .iload_n 1, 0, 0, 0, [], []), (10, .invokevirtual 49, 0, 0, 0, [33, 1, 1, 3, 3, 170], []), (13, .ireturn, 0, 0, 0, [], [])]
def zT_U_callGeneric : zT := [(0, .aload_n 0, 0, 0, 0, [], []), (1, .getfield 21, 0, 0, 0, [3, 1, 1, 112], []), (4, .aload_n 0, 0, 0, 0, [], []), (5, .getfield 14, 0, 0, 0, [3, 0, 1, 110], []), (8, .iload_n 1, 0, 0, 0, [], []), (9, .iload_n 2, 0, 0, 0, [], []), (10, .iload_n 3, 0, 0, 0, [], []), (11, .invokevirtual 53, 0, 0, 0, [0, 4, 0, 0, 4, 67], []), (14, .aload_n 0, 0, 0, 0, [], []), (15, .iconst 0, 0, 0, 0, [], []), (16, .putfield 57, 0, 0, 0, [3, 3, 0, 1, 116], []), (19, .aload_n 0, 0, 0, 0, [], []), (20, .iconst 3, 0, 3, 0, [], []), (21, .iconst 0, 0, 0, 0, [], []), (22, .iconst 0, 0, 0, 0, [], []), (23, .iload 4, 0, 0, 0, [], []), (25, .invokevirtual 45, 0, 0, 0, [35, 4, 0, 3, 3, 166], []), (28, .aload_n 0, 0, 0, 0, [], []), (29, .iload_n 2, 0, 0, 0, [], []), (30, .invokevirtual 49, 0, 0, 0, [33, 1, 1, 3, 3, 170], []), (33, .ireturn, 0, 0, 0, [], [])]
def zT_U_undo : zT := [(0, .aload_n 0, 0, 0, 0, [], []), (1, .getfield 32, 0, 0, 0, [3, 15, 1, 131], []), (4, .iconst 0, 0, 0, 0, [], []), (5, .aload_n 0, 0, 0, 0, [], []), (6, .getfield 14, 0, 0, 0, [3, 0, 1, 110], []), (9, .getfield 60, 0, 0, 0, [5, 8, 1, 53], []), (12, .aload_n 0, 0, 0, 0, [], []), (13, .getfield 63, 0, 0, 0, [3, 7, 1, 123], []), (16, .bipush 16, 0, 16, 0, [], []), (18, .imul, 0, 0, 0, [], []), (19, .bipush 16, 0, 16, 0, [], []), (21, .invokestatic 66, 0, 0, 0, [3, 178], []), (24, .aload_n 0, 0, 0, 0, [], []), (25, .getfield 35, 0, 0, 0, [3, 16, 1, 132], []), (28, .iconst 0, 0, 0, 0, [], []), (29, .aload_n 0, 0, 0, 0, [], []), (30, .getfield 14, 0, 0, 0, [3, 0, 1, 110], []), (33, .getfield 72, 0, 0, 0, [5, 9, 1, 56], []), (36, .aload_n 0, 0, 0, 0, [], []), (37, .getfield 63, 0, 0, 0, [3, 7, 1, 123], []), (40, .bipush 16, 0, 16, 0, [], []), (42, .imul, 0, 0, 0, [], []), (43, .bipush 16, 0, 16, 0, [], []), (45, .invokestatic 66, 0, 0, 0, [3, 178], []), (48, .aload_n 0, 0, 0, 0, [], []), (49, .getfield 38, 0, 0, 0, [3, 17, 1, 133], []), (52, .iconst 0, 0, 0, 0, [], []), (53, .aload_n 0, 0, 0, 0, [], []), (54, .getfield 14, 0, 0, 0, [3, 0, 1, 110], []), (57, .getfield 75, 0, 0, 0, [5, 10, 1, 59], []), (60, .aload_n 0, 0, 0, 0, [], []), (61, .getfield 63, 0, 0, 0, [3, 7, 1, 123], []), (64, .bipush 16, 0, 16, 0, [], []), (66, .imul, 0, 0, 0, [], []), (67, .bipush 16, 0, 16, 0, [], []), (69, .invokestatic 66, 0, 0, 0, [3, 178], []), (72, .return_, 0, 0, 0, [], [])]
def zT_U_save : zT := [(0, .aload_n 0, 0, 0, 0, [], []), (1, .getfield 14, 0, 0, 0, [3, 0, 1, 110], []), (4, .getfield 60, 0, 0, 0, [5, 8, 1, 53], []), (7, .aload_n 0, 0, 0, 0, [], []), (8, .getfield 63, 0, 0, 0, [3, 7, 1, 123], []), (11, .bipush 16, 0, 16, 0, [], []), (13, .imul, 0, 0, 0, [], []), (14, .aload_n 0, 0, 0, 0, [], []), (15, .getfield 32, 0, 0, 0, [3, 15, 1, 131], []), (18, .iconst 0, 0, 0, 0, [], []), (19, .bipush 16, 0, 16, 0, [], []), (21, .invokestatic 66, 0, 0, 0, [3, 178], []), (24, .aload_n 0, 0, 0, 0, [], []), (25, .getfield 14, 0, 0, 0, [3, 0, 1, 110], []), (28, .getfield 72, 0, 0, 0, [5, 9, 1, 56], []), (31, .aload_n 0, 0, 0, 0, [], []), (32, .getfield 63, 0, 0, 0, [3, 7, 1, 123], []), (35, .bipush 16, 0, 16, 0, [], []), (37, .imul, 0, 0, 0, [], []), (38, .aload_n 0, 0, 0, 0, [], []), (39, .getfield 35, 0, 0, 0, [3, 16, 1, 132], []), (42, .iconst 0, 0, 0, 0, [], []), (43, .bipush 16, 0, 16, 0, [], []), (45, .invokestatic 66, 0, 0, 0, [3, 178], []), (48, .aload_n 0, 0, 0, 0, [], []), (49, .getfield 14, 0, 0, 0, [3, 0, 1, 110], []), (52, .getfield 75, 0, 0, 0, [5, 10, 1, 59], []), (55, .aload_n 0, 0, 0, 0, [], []), (56, .getfield 63, 0, 0, 0, [3, 7, 1, 123], []), (59, .bipush 16, 0, 16, 0, [], []), (61, .imul, 0, 0, 0, [], []), (62, .aload_n 0, 0, 0, 0, [], []), (63, .getfield 38, 0, 0, 0, [3, 17, 1, 133], []), (66, .iconst 0, 0, 0, 0, [], []), (67, .bipush 16, 0, 16, 0, [], []), (69, .invokestatic 66, 0, 0, 0, [3, 178], []), (72, .return_, 0, 0, 0, [], [])]
def zT_U_carryOut : zT := [(0, .aload_n 0, 0, 0, 0, [], []), (1, .iload_n 1, 0, 0, 0, [], []), (2, .putfield 63, 0, 0, 0, [3, 7, 0, 1, 123], []), (5, .aload_n 0, 0, 0, 0, [], []), (6, .iconst 0, 0, 0, 0, [], []), (7, .putfield 78, 0, 0, 0, [3, 14, 0, 1, 130], []), (10, .aload_n 0, 0, 0, 0, [], []), (11, .invokevirtual 81, 0, 0, 0, [32, 0, 0, 3, 3, 174], []), (14, .iconst 1, 0, 1, 0, [], []), (15, .istore_n 2, 0, 0, 0, [], []), (16, .iconst 0, 0, 0, 0, [], []), (17, .istore_n 3, 0, 0, 0, [], []), (18, .iload_n 3, 13, 0, 0, [], [1]), (19, .sipush 10000, 0, 10000, 0, [], []), (22, .if_icmp .ge 18, 0, 0, 0, [22], []), (25, .iload_n 2, 0, 0, 0, [], []), (26, .ifCond .eq 14, 0, 0, 0, [22], []), (29, .aload_n 0, 0, 0, 0, [], []), (30, .invokevirtual 84, 0, 0, 0, [34, 0, 3, 3, 3, 179], []), (33, .istore_n 2, 0, 0, 0, [], []), (34, .iinc 3 1, 0, 1, 0, [], []), (37, .goto (-19), 0, 0, 0, [12], []), (40, .aload_n 0, 0, 0, 0, [], []), (41, .getfield 88, 0, 0, 0, [3, 6, 1, 122], []), (44, .iconst 2, 0, 2, 0, [], []), (45, .if_icmp .ne 5, 0, 0, 0, [28], []), (48, .iconst 0, 0, 0, 0, [], []), (49, .ireturn, 0, 0, 0, [], []), (50, .aload_n 0, 0, 0, 0, [], []), (51, .invokevirtual 91, 0, 0, 0, [31, 0, 0, 3, 4, 2], []), (54, .aload_n 0, 0, 0, 0, [], []), (55, .iconst 0, 0, 0, 0, [], []), (56, .putfield 94, 0, 0, 0, [3, 5, 0, 1, 120], []), (59, .aload_n 0, 0, 0, 0, [], []), (60, .getfield 88, 0, 0, 0, [3, 6, 1, 122], []), (63, .iconst 3, 0, 3, 0, [], []), (64, .if_icmp .ne 7, 0, 0, 0, [39], []), (67, .iconst 1, 0, 1, 0, [], []), (68, .goto 4, 0, 0, 0, [40], []), (71, .iconst 2, 0, 2, 0, [], []), (72, .ireturn, 0, 0, 0, [], [])]
def zT_U_takeStep : zT := [(0, .aload_n 0, 0, 0, 0, [], []), (1, .getfield 88, 0, 0, 0, [3, 6, 1, 122], []), (4, .ifCond .ne 25, 0, 0, 0, [13], []), (7, .aload_n 0, 0, 0, 0, [], []), (8, .getfield 97, 0, 0, 0, [3, 8, 1, 124], []), (11, .iconst 4, 0, 4, 0, [], []), (12, .if_icmp .ne 10, 0, 0, 0, [10], []), (15, .aload_n 0, 0, 0, 0, [], []), (16, .invokevirtual 100, 0, 0, 0, [37, 0, 0, 3, 3, 183], []), (19, .goto 61, 0, 0, 0, [38], []), (22, .aload_n 0, 0, 0, 0, [], []), (23, .invokevirtual 103, 0, 0, 0, [38, 0, 0, 3, 3, 197], []), (26, .goto 54, 0, 0, 0, [38], []), (29, .aload_n 0, 0, 0, 0, [], []), (30, .getfield 88, 0, 0, 0, [3, 6, 1, 122], []), (33, .iconst 1, 0, 1, 0, [], []), (34, .if_icmp .ne 10, 0, 0, 0, [20], []), (37, .aload_n 0, 0, 0, 0, [], []), (38, .invokevirtual 106, 0, 0, 0, [41, 0, 0, 3, 3, 221], []), (41, .goto 39, 0, 0, 0, [38], []), (44, .aload_n 0, 0, 0, 0, [], []), (45, .getfield 88, 0, 0, 0, [3, 6, 1, 122], []), (48, .iconst 4, 0, 4, 0, [], []), (49, .if_icmp .eq 10, 0, 0, 0, [27], []), (52, .aload_n 0, 0, 0, 0, [], []), (53, .getfield 78, 0, 0, 0, [3, 14, 1, 130], []), (56, .ifCond .ne 5, 0, 0, 0, [29], []), (59, .iconst 0, 0, 0, 0, [], []), (60, .ireturn, 0, 0, 0, [], []), (61, .aload_n 0, 0, 0, 0, [], []), (62, .getfield 88, 0, 0, 0, [3, 6, 1, 122], []), (65, .iconst 2, 0, 2, 0, [], []), (66, .if_icmp .ne 10, 0, 0, 0, [36], []), (69, .aload_n 0, 0, 0, 0, [], []), (70, .invokevirtual 109, 0, 0, 0, [44, 0, 0, 3, 3, 234], []), (73, .goto 7, 0, 0, 0, [38], []), (76, .aload_n 0, 0, 0, 0, [], []), (77, .invokevirtual 112, 0, 0, 0, [46, 0, 0, 3, 3, 238], []), (80, .iconst 1, 0, 1, 0, [], []), (81, .ireturn, 0, 0, 0, [], [])]
def zT_U_comeNextTo : zT := [(0, .aload_n 0, 0, 0, 0, [], []), (1, .iload_n 1, 0, 0, 0, [], []), (2, .putfield 97, 0, 0, 0, [3, 8, 0, 1, 124], []), (5, .aload_n 0, 0, 0, 0, [], []), (6, .iload_n 2, 0, 0, 0, [], []), (7, .putfield 115, 0, 0, 0, [3, 9, 0, 1, 125], []), (10, .aload_n 0, 0, 0, 0, [], []), (11, .iload_n 3, 0, 0, 0, [], []), (12, .putfield 118, 0, 0, 0, [3, 10, 0, 1, 126], []), (15, .aload_n 0, 0, 0, 0, [], []), (16, .iload 4, 0, 0, 0, [], []), (18, .putfield 94, 0, 0, 0, [3, 5, 0, 1, 120], []), (21, .aload_n 0, 0, 0, 0, [], []), (22, .iconst 0, 0, 0, 0, [], []), (23, .putfield 88, 0, 0, 0, [3, 6, 0, 1, 122], []), (26, .return_, 0, 0, 0, [], [])]
def zT_U_give : zT := [(0, .aload_n 0, 0, 0, 0, [], []), (1, .iload_n 1, 0, 0, 0, [], []), (2, .putfield 94, 0, 0, 0, [3, 5, 0, 1, 120], []), (5, .aload_n 0, 0, 0, 0, [], []), (6, .iconst 2, 0, 2, 0, [], []), (7, .putfield 88, 0, 0, 0, [3, 6, 0, 1, 122], []), (10, .return_, 0, 0, 0, [], [])]
def zT_U_comeToSlot : zT := [(0, .aload_n 0, 0, 0, 0, [], []), (1, .getfield 14, 0, 0, 0, [3, 0, 1, 110], []), (4, .aload_n 0, 0, 0, 0, [], []), (5, .getfield 63, 0, 0, 0, [3, 7, 1, 123], []), (8, .aload_n 0, 0, 0, 0, [], []), (9, .getfield 115, 0, 0, 0, [3, 9, 1, 125], []), (12, .aload_n 0, 0, 0, 0, [], []), (13, .getfield 118, 0, 0, 0, [3, 10, 1, 126], []), (16, .invokevirtual 121, 0, 0, 0, [72, 3, 1, 5, 3, 187], []), (19, .istore_n 1, 0, 0, 0, [], []), (20, .iload_n 1, 0, 0, 0, [], []), (21, .iconst (-1), 0, (-1), 0, [], []), (22, .if_icmp .ne 9, 0, 0, 0, [17], []), (25, .aload_n 0, 0, 0, 0, [], []), (26, .iconst 3, 0, 3, 0, [], []), (27, .putfield 88, 0, 0, 0, [3, 6, 0, 1, 122], []), (30, .return_, 0, 0, 0, [], []), (31, .aload_n 0, 0, 0, 0, [], []), (32, .getfield 14, 0, 0, 0, [3, 0, 1, 110], []), (35, .aload_n 0, 0, 0, 0, [], []), (36, .getfield 63, 0, 0, 0, [3, 7, 1, 123], []), (39, .iload_n 1, 0, 0, 0, [], []), (40, .invokevirtual 125, 0, 0, 0, [64, 2, 1, 5, 3, 188], []), (43, .bipush 16, 0, 16, 0, [], []), (45, .imul, 0, 0, 0, [], []), (46, .aload_n 0, 0, 0, 0, [], []), (47, .getfield 115, 0, 0, 0, [3, 9, 1, 125], []), (50, .iadd, 0, 0, 0, [], []), (51, .istore_n 2, 0, 0, 0, [], []), (52, .aload_n 0, 0, 0, 0, [], []), (53, .getfield 14, 0, 0, 0, [3, 0, 1, 110], []), (56, .getfield 60, 0, 0, 0, [5, 8, 1, 53], []), (59, .iload_n 2, 0, 0, 0, [], []), (60, .iaload, 0, 0, 0, [], []), (61, .iconst 1, 0, 1, 0, [], []), (62, .if_icmp .ne 17, 0, 0, 0, [44], []), (65, .aload_n 0, 0, 0, 0, [], []), (66, .aload_n 0, 0, 0, 0, [], []), (67, .getfield 14, 0, 0, 0, [3, 0, 1, 110], []), (70, .getfield 75, 0, 0, 0, [5, 10, 1, 59], []), (73, .iload_n 2, 0, 0, 0, [], []), (74, .iaload, 0, 0, 0, [], []), (75, .invokevirtual 129, 0, 0, 0, [36, 1, 0, 3, 3, 189], []), (78, .return_, 0, 0, 0, [], []), (79, .aload_n 0, 0, 0, 0, [], []), (80, .iload_n 1, 0, 0, 0, [], []), (81, .iconst 1, 0, 1, 0, [], []), (82, .iadd, 0, 0, 0, [], []), (83, .putfield 118, 0, 0, 0, [3, 10, 0, 1, 126], []), (86, .aload_n 0, 0, 0, 0, [], []), (87, .aload_n 0, 0, 0, 0, [], []), (88, .getfield 14, 0, 0, 0, [3, 0, 1, 110], []), (91, .getfield 72, 0, 0, 0, [5, 9, 1, 56], []), (94, .iload_n 2, 0, 0, 0, [], []), (95, .iaload, 0, 0, 0, [], []), (96, .aload_n 0, 0, 0, 0, [], []), (97, .getfield 14, 0, 0, 0, [3, 0, 1, 110], []), (100, .getfield 75, 0, 0, 0, [5, 10, 1, 59], []), (103, .iload_n 2, 0, 0, 0, [], []), (104, .iaload, 0, 0, 0, [], []), (105, .invokevirtual 133, 0, 0, 0, [40, 2, 0, 3, 3, 193], []), (108, .return_, 0, 0, 0, [], [])]
def zT_U_comeToWay : zT := [(0, .aload_n 0, 0, 0, 0, [], []), (1, .getfield 97, 0, 0, 0, [3, 8, 1, 124], []), (4, .iconst 5, 0, 5, 0, [], []), (5, .if_icmp .eq 44, 0, 0, 0, [23], []), (8, .aload_n 0, 0, 0, 0, [], []), (9, .getfield 118, 0, 0, 0, [3, 10, 1, 126], []), (12, .aload_n 0, 0, 0, 0, [], []), (13, .getfield 21, 0, 0, 0, [3, 1, 1, 112], []), (16, .getfield 137, 0, 0, 0, [0, 0, 1, 96], []), (19, .aload_n 0, 0, 0, 0, [], []), (20, .getfield 97, 0, 0, 0, [3, 8, 1, 124], []), (23, .iaload, 0, 0, 0, [], []), (24, .if_icmp .ge 25, 0, 0, 0, [23], []), (27, .aload_n 0, 0, 0, 0, [], []), (28, .aload_n 0, 0, 0, 0, [], []), (29, .getfield 21, 0, 0, 0, [3, 1, 1, 112], []), (32, .aload_n 0, 0, 0, 0, [], []), (33, .getfield 97, 0, 0, 0, [3, 8, 1, 124], []), (36, .aload_n 0, 0, 0, 0, [], []), (37, .getfield 118, 0, 0, 0, [3, 10, 1, 126], []), (40, .invokevirtual 140, 0, 0, 0, [3, 2, 1, 0, 3, 201], []), (43, .invokevirtual 143, 0, 0, 0, [39, 1, 0, 3, 3, 205], []), (46, .goto 46, 0, 0, 0, [46], []), (49, .aload_n 0, 0, 0, 0, [], []), (50, .getfield 97, 0, 0, 0, [3, 8, 1, 124], []), (53, .iconst 3, 0, 3, 0, [], []), (54, .if_icmp .ne 33, 0, 0, 0, [43], []), (57, .aload_n 0, 0, 0, 0, [], []), (58, .getfield 21, 0, 0, 0, [3, 1, 1, 112], []), (61, .getfield 137, 0, 0, 0, [0, 0, 1, 96], []), (64, .iconst 0, 0, 0, 0, [], []), (65, .iaload, 0, 0, 0, [], []), (66, .ifCond .le 21, 0, 0, 0, [43], []), (69, .aload_n 0, 0, 0, 0, [], []), (70, .iconst 3, 0, 3, 0, [], []), (71, .aload_n 0, 0, 0, 0, [], []), (72, .getfield 94, 0, 0, 0, [3, 5, 1, 120], []), (75, .iconst 1, 0, 1, 0, [], []), (76, .iconst 0, 0, 0, 0, [], []), (77, .invokevirtual 146, 0, 0, 0, [43, 4, 0, 3, 3, 213], []), (80, .aload_n 0, 0, 0, 0, [], []), (81, .invokevirtual 149, 0, 0, 0, [45, 0, 0, 3, 3, 217], []), (84, .goto 8, 0, 0, 0, [46], []), (87, .aload_n 0, 0, 0, 0, [], []), (88, .iconst 3, 0, 3, 0, [], []), (89, .putfield 88, 0, 0, 0, [3, 6, 0, 1, 122], []), (92, .return_, 0, 0, 0, [], [])]
def zT_U_startWay : zT := [(0, .aload_n 0, 0, 0, 0, [], []), (1, .getfield 41, 0, 0, 0, [3, 4, 1, 118], []), (4, .sipush 200, 0, 200, 0, [], []), (7, .if_icmp .ge 32, 0, 0, 0, [20], []), (10, .aload_n 0, 0, 0, 0, [], []), (11, .getfield 57, 0, 0, 0, [3, 3, 1, 116], []), (14, .bipush 30, 0, 30, 0, [], []), (16, .if_icmp .ge 13, 0, 0, 0, [14], []), (19, .aload_n 0, 0, 0, 0, [], []), (20, .getfield 25, 0, 0, 0, [3, 2, 1, 114], []), (23, .aload_n 0, 0, 0, 0, [], []), (24, .getfield 57, 0, 0, 0, [3, 3, 1, 116], []), (27, .iload_n 1, 0, 0, 0, [], []), (28, .iastore, 0, 0, 0, [], []), (29, .aload_n 0, 15, 0, 0, [], []), (30, .dup, 0, 0, 0, [], []), (31, .getfield 57, 0, 0, 0, [3, 3, 1, 116], []), (34, .iconst 1, 0, 1, 0, [], []), (35, .iadd, 0, 0, 0, [], []), (36, .putfield 57, 0, 0, 0, [3, 3, 0, 1, 116], []), (39, .aload_n 0, 0, 0, 0, [], []), (40, .getfield 97, 0, 0, 0, [3, 8, 1, 124], []), (43, .ifCond .eq 11, 0, 0, 0, [27], []), (46, .aload_n 0, 0, 0, 0, [], []), (47, .getfield 97, 0, 0, 0, [3, 8, 1, 124], []), (50, .iconst 3, 0, 3, 0, [], []), (51, .if_icmp .ne 16, 0, 0, 0, [34], []), (54, .aload_n 0, 0, 0, 0, [], []), (55, .dup, 0, 0, 0, [], []), (56, .getfield 118, 0, 0, 0, [3, 10, 1, 126], []), (59, .iconst 1, 0, 1, 0, [], []), (60, .iadd, 0, 0, 0, [], []), (61, .putfield 118, 0, 0, 0, [3, 10, 0, 1, 126], []), (64, .goto 8, 0, 0, 0, [37], []), (67, .aload_n 0, 0, 0, 0, [], []), (68, .iconst 5, 0, 5, 0, [], []), (69, .putfield 97, 0, 0, 0, [3, 8, 0, 1, 124], []), (72, .aload_n 0, 0, 0, 0, [], []), (73, .aload_n 0, 0, 0, 0, [], []), (74, .getfield 14, 0, 0, 0, [3, 0, 1, 110], []), (77, .iload_n 1, 0, 0, 0, [], []), (78, .iconst 4, 0, 4, 0, [], []), (79, .invokevirtual 152, 0, 0, 0, [65, 2, 1, 5, 3, 209], []), (82, .aload_n 0, 0, 0, 0, [], []), (83, .getfield 14, 0, 0, 0, [3, 0, 1, 110], []), (86, .iload_n 1, 0, 0, 0, [], []), (87, .iconst 5, 0, 5, 0, [], []), (88, .invokevirtual 152, 0, 0, 0, [65, 2, 1, 5, 3, 209], []), (91, .invokevirtual 133, 0, 0, 0, [40, 2, 0, 3, 3, 193], []), (94, .return_, 0, 0, 0, [], [])]
def zT_U_startMethod : zT := [(0, .aload_n 0, 0, 0, 0, [], []), (1, .getfield 41, 0, 0, 0, [3, 4, 1, 118], []), (4, .sipush 200, 0, 200, 0, [], []), (7, .if_icmp .lt 9, 0, 0, 0, [8], []), (10, .aload_n 0, 0, 0, 0, [], []), (11, .iconst 4, 0, 4, 0, [], []), (12, .putfield 88, 0, 0, 0, [3, 6, 0, 1, 122], []), (15, .return_, 0, 0, 0, [], []), (16, .aload_n 0, 0, 0, 0, [], []), (17, .dup, 0, 0, 0, [], []), (18, .getfield 41, 0, 0, 0, [3, 4, 1, 118], []), (21, .iconst 1, 0, 1, 0, [], []), (22, .iadd, 0, 0, 0, [], []), (23, .putfield 41, 0, 0, 0, [3, 4, 0, 1, 118], []), (26, .aload_n 0, 0, 0, 0, [], []), (27, .iload_n 1, 0, 0, 0, [], []), (28, .putfield 155, 0, 0, 0, [3, 11, 0, 1, 127], []), (31, .aload_n 0, 0, 0, 0, [], []), (32, .iload_n 2, 0, 0, 0, [], []), (33, .putfield 158, 0, 0, 0, [3, 12, 0, 1, 128], []), (36, .aload_n 0, 0, 0, 0, [], []), (37, .iconst 1, 0, 1, 0, [], []), (38, .putfield 88, 0, 0, 0, [3, 6, 0, 1, 122], []), (41, .return_, 0, 0, 0, [], [])]
def zT_U_run : zT := [(0, .aload_n 0, 0, 0, 0, [], []), (1, .getfield 155, 0, 0, 0, [3, 11, 1, 127], []), (4, .tableswitch 278 0 8 #[52, 68, 84, 112, 152, 174, 204, 220, 262], 0, 0, 0, [52, 116, 3, 11, 19, 33, 53, 64, 81, 88, 108], []), (56, .aload_n 0, 0, 0, 0, [], []), (57, .aload_n 0, 0, 0, 0, [], []), (58, .getfield 94, 0, 0, 0, [3, 5, 1, 120], []), (61, .aload_n 0, 0, 0, 0, [], []), (62, .getfield 158, 0, 0, 0, [3, 12, 1, 128], []), (65, .iadd, 0, 0, 0, [], []), (66, .invokevirtual 129, 0, 0, 0, [36, 1, 0, 3, 3, 189], []), (69, .goto 244, 0, 0, 0, [133], []), (72, .aload_n 0, 0, 0, 0, [], []), (73, .aload_n 0, 0, 0, 0, [], []), (74, .getfield 94, 0, 0, 0, [3, 5, 1, 120], []), (77, .aload_n 0, 0, 0, 0, [], []), (78, .getfield 158, 0, 0, 0, [3, 12, 1, 128], []), (81, .imul, 0, 0, 0, [], []), (82, .invokevirtual 129, 0, 0, 0, [36, 1, 0, 3, 3, 189], []), (85, .goto 228, 0, 0, 0, [133], []), (88, .aload_n 0, 0, 0, 0, [], []), (89, .aload_n 0, 0, 0, 0, [], []), (90, .getfield 97, 0, 0, 0, [3, 8, 1, 124], []), (93, .aload_n 0, 0, 0, 0, [], []), (94, .getfield 115, 0, 0, 0, [3, 9, 1, 125], []), (97, .aload_n 0, 0, 0, 0, [], []), (98, .getfield 118, 0, 0, 0, [3, 10, 1, 126], []), (101, .aload_n 0, 0, 0, 0, [], []), (102, .getfield 94, 0, 0, 0, [3, 5, 1, 120], []), (105, .aload_n 0, 0, 0, 0, [], []), (106, .getfield 158, 0, 0, 0, [3, 12, 1, 128], []), (109, .iadd, 0, 0, 0, [], []), (110, .invokevirtual 45, 0, 0, 0, [35, 4, 0, 3, 3, 166], []), (113, .goto 200, 0, 0, 0, [133], []), (116, .aload_n 0, 0, 0, 0, [], []), (117, .iconst 0, 0, 0, 0, [], []), (118, .aload_n 0, 0, 0, 0, [], []), (119, .getfield 97, 0, 0, 0, [3, 8, 1, 124], []), (122, .aload_n 0, 0, 0, 0, [], []), (123, .getfield 115, 0, 0, 0, [3, 9, 1, 125], []), (126, .aload_n 0, 0, 0, 0, [], []), (127, .getfield 118, 0, 0, 0, [3, 10, 1, 126], []), (130, .invokevirtual 146, 0, 0, 0, [43, 4, 0, 3, 3, 213], []), (133, .aload_n 0, 0, 0, 0, [], []), (134, .aload_n 0, 0, 0, 0, [], []), (135, .getfield 97, 0, 0, 0, [3, 8, 1, 124], []), (138, .aload_n 0, 0, 0, 0, [], []), (139, .getfield 115, 0, 0, 0, [3, 9, 1, 125], []), (142, .aload_n 0, 0, 0, 0, [], []), (143, .getfield 118, 0, 0, 0, [3, 10, 1, 126], []), (146, .aload_n 0, 0, 0, 0, [], []), (147, .getfield 94, 0, 0, 0, [3, 5, 1, 120], []), (150, .invokevirtual 45, 0, 0, 0, [35, 4, 0, 3, 3, 166], []), (153, .goto 160, 0, 0, 0, [133], []), (156, .aload_n 0, 0, 0, 0, [], []), (157, .iconst 4, 0, 4, 0, [], []), (158, .aload_n 0, 0, 0, 0, [], []), (159, .getfield 158, 0, 0, 0, [3, 12, 1, 128], []), (162, .bipush 16, 0, 16, 0, [], []), (164, .invokestatic 161, 0, 0, 0, [216, 2, 1, 0, 3, 225], []), (167, .iconst 0, 0, 0, 0, [], []), (168, .aload_n 0, 0, 0, 0, [], []), (169, .getfield 94, 0, 0, 0, [3, 5, 1, 120], []), (172, .invokevirtual 45, 0, 0, 0, [35, 4, 0, 3, 3, 166], []), (175, .goto 138, 0, 0, 0, [133], []), (178, .aload_n 0, 0, 0, 0, [], []), (179, .iconst 1, 0, 1, 0, [], []), (180, .aload_n 0, 0, 0, 0, [], []), (181, .getfield 94, 0, 0, 0, [3, 5, 1, 120], []), (184, .iconst 0, 0, 0, 0, [], []), (185, .iconst 0, 0, 0, 0, [], []), (186, .invokevirtual 146, 0, 0, 0, [43, 4, 0, 3, 3, 213], []), (189, .aload_n 0, 0, 0, 0, [], []), (190, .iconst 4, 0, 4, 0, [], []), (191, .aload_n 0, 0, 0, 0, [], []), (192, .getfield 158, 0, 0, 0, [3, 12, 1, 128], []), (195, .bipush 16, 0, 16, 0, [], []), (197, .invokestatic 161, 0, 0, 0, [216, 2, 1, 0, 3, 225], []), (200, .iconst 0, 0, 0, 0, [], []), (201, .iconst 0, 0, 0, 0, [], []), (202, .invokevirtual 45, 0, 0, 0, [35, 4, 0, 3, 3, 166], []), (205, .goto 108, 0, 0, 0, [133], []), (208, .aload_n 0, 0, 0, 0, [], []), (209, .aload_n 0, 0, 0, 0, [], []), (210, .getfield 158, 0, 0, 0, [3, 12, 1, 128], []), (213, .bipush 16, 0, 16, 0, [], []), (215, .invokestatic 161, 0, 0, 0, [216, 2, 1, 0, 3, 225], []), (218, .invokevirtual 166, 0, 0, 0, [42, 1, 0, 3, 3, 228], []), (221, .goto 92, 0, 0, 0, [133], []), (224, .aload_n 0, 0, 0, 0, [], []), (225, .aload_n 0, 0, 0, 0, [], []), (226, .getfield 97, 0, 0, 0, [3, 8, 1, 124], []), (229, .aload_n 0, 0, 0, 0, [], []), (230, .getfield 115, 0, 0, 0, [3, 9, 1, 125], []), (233, .aload_n 0, 0, 0, 0, [], []), (234, .getfield 118, 0, 0, 0, [3, 10, 1, 126], []), (237, .aload_n 0, 0, 0, 0, [], []), (238, .getfield 94, 0, 0, 0, [3, 5, 1, 120], []), (241, .invokevirtual 45, 0, 0, 0, [35, 4, 0, 3, 3, 166], []), (244, .aload_n 0, 0, 0, 0, [], []), (245, .getfield 94, 0, 0, 0, [3, 5, 1, 120], []), (248, .aload_n 0, 0, 0, 0, [], []), (249, .getfield 158, 0, 0, 0, [3, 12, 1, 128], []), (252, .if_icmp .lt 61, 0, 0, 0, [133], []), (255, .aload_n 0, 0, 0, 0, [], []), (256, .aload_n 0, 0, 0, 0, [], []), (257, .getfield 94, 0, 0, 0, [3, 5, 1, 120], []), (260, .invokevirtual 129, 0, 0, 0, [36, 1, 0, 3, 3, 189], []), (263, .goto 50, 0, 0, 0, [133], []), (266, .aload_n 0, 0, 0, 0, [], []), (267, .aload_n 0, 0, 0, 0, [], []), (268, .getfield 41, 0, 0, 0, [3, 4, 1, 118], []), (271, .aload_n 0, 0, 0, 0, [], []), (272, .getfield 94, 0, 0, 0, [3, 5, 1, 120], []), (275, .iadd, 0, 0, 0, [], []), (276, .invokevirtual 129, 0, 0, 0, [36, 1, 0, 3, 3, 189], []), (279, .goto 34, 0, 0, 0, [133], []), (282, .aload_n 0, 0, 0, 0, [], []), (283, .iconst 2, 0, 2, 0, [], []), (284, .aload_n 0, 0, 0, 0, [], []), (285, .getfield 158, 0, 0, 0, [3, 12, 1, 128], []), (288, .iconst 0, 0, 0, 0, [], []), (289, .iconst 0, 0, 0, 0, [], []), (290, .invokevirtual 146, 0, 0, 0, [43, 4, 0, 3, 3, 213], []), (293, .aload_n 0, 0, 0, 0, [], []), (294, .aload_n 0, 0, 0, 0, [], []), (295, .getfield 97, 0, 0, 0, [3, 8, 1, 124], []), (298, .aload_n 0, 0, 0, 0, [], []), (299, .getfield 115, 0, 0, 0, [3, 9, 1, 125], []), (302, .aload_n 0, 0, 0, 0, [], []), (303, .getfield 118, 0, 0, 0, [3, 10, 1, 126], []), (306, .aload_n 0, 0, 0, 0, [], []), (307, .getfield 94, 0, 0, 0, [3, 5, 1, 120], []), (310, .invokevirtual 45, 0, 0, 0, [35, 4, 0, 3, 3, 166], []), (313, .return_, 0, 0, 0, [], [])]
def zT_U_setOwn : zT := [(0, .aload_n 0, 0, 0, 0, [], []), (1, .getfield 14, 0, 0, 0, [3, 0, 1, 110], []), (4, .aload_n 0, 0, 0, 0, [], []), (5, .getfield 63, 0, 0, 0, [3, 7, 1, 123], []), (8, .iconst 1, 0, 1, 0, [], []), (9, .invokevirtual 169, 0, 0, 0, [66, 2, 3, 5, 3, 232], []), (12, .ifCond .eq 9, 0, 0, 0, [11], []), (15, .aload_n 0, 0, 0, 0, [], []), (16, .iconst 3, 0, 3, 0, [], []), (17, .putfield 88, 0, 0, 0, [3, 6, 0, 1, 122], []), (20, .return_, 0, 0, 0, [], []), (21, .aload_n 0, 0, 0, 0, [], []), (22, .getfield 14, 0, 0, 0, [3, 0, 1, 110], []), (25, .aload_n 0, 0, 0, 0, [], []), (26, .getfield 63, 0, 0, 0, [3, 7, 1, 123], []), (29, .iload_n 1, 0, 0, 0, [], []), (30, .aload_n 0, 0, 0, 0, [], []), (31, .getfield 94, 0, 0, 0, [3, 5, 1, 120], []), (34, .invokevirtual 173, 0, 0, 0, [69, 3, 0, 5, 3, 233], []), (37, .aload_n 0, 0, 0, 0, [], []), (38, .aload_n 0, 0, 0, 0, [], []), (39, .getfield 94, 0, 0, 0, [3, 5, 1, 120], []), (42, .invokevirtual 129, 0, 0, 0, [36, 1, 0, 3, 3, 189], []), (45, .return_, 0, 0, 0, [], [])]
def zT_U_leave : zT := [(0, .aload_n 0, 0, 0, 0, [], []), (1, .getfield 78, 0, 0, 0, [3, 14, 1, 130], []), (4, .sipush 201, 0, 201, 0, [], []), (7, .if_icmp .ge 60, 0, 0, 0, [41], []), (10, .aload_n 0, 0, 0, 0, [], []), (11, .getfield 78, 0, 0, 0, [3, 14, 1, 130], []), (14, .iconst 4, 0, 4, 0, [], []), (15, .imul, 0, 0, 0, [], []), (16, .istore 5, 0, 0, 0, [], []), (18, .aload_n 0, 0, 0, 0, [], []), (19, .getfield 29, 0, 0, 0, [3, 13, 1, 129], []), (22, .iload 5, 0, 0, 0, [], []), (24, .iload_n 1, 0, 0, 0, [], []), (25, .iastore, 0, 0, 0, [], []), (26, .aload_n 0, 0, 0, 0, [], []), (27, .getfield 29, 0, 0, 0, [3, 13, 1, 129], []), (30, .iload 5, 0, 0, 0, [], []), (32, .iconst 1, 0, 1, 0, [], []), (33, .iadd, 0, 0, 0, [], []), (34, .iload_n 2, 0, 0, 0, [], []), (35, .iastore, 0, 0, 0, [], []), (36, .aload_n 0, 0, 0, 0, [], []), (37, .getfield 29, 0, 0, 0, [3, 13, 1, 129], []), (40, .iload 5, 0, 0, 0, [], []), (42, .iconst 2, 0, 2, 0, [], []), (43, .iadd, 0, 0, 0, [], []), (44, .iload_n 3, 0, 0, 0, [], []), (45, .iastore, 0, 0, 0, [], []), (46, .aload_n 0, 0, 0, 0, [], []), (47, .getfield 29, 0, 0, 0, [3, 13, 1, 129], []), (50, .iload 5, 0, 0, 0, [], []), (52, .iconst 3, 0, 3, 0, [], []), (53, .iadd, 0, 0, 0, [], []), (54, .iload 4, 0, 0, 0, [], []), (56, .iastore, 0, 0, 0, [], []), (57, .aload_n 0, 0, 0, 0, [], []), (58, .dup, 0, 0, 0, [], []), (59, .getfield 78, 0, 0, 0, [3, 14, 1, 130], []), (62, .iconst 1, 0, 1, 0, [], []), (63, .iadd, 0, 0, 0, [], []), (64, .putfield 78, 0, 0, 0, [3, 14, 0, 1, 130], []), (67, .return_, 0, 0, 0, [], [])]
def zT_U_giveToFrame : zT := [(0, .aload_n 0, 0, 0, 0, [], []), (1, .getfield 78, 0, 0, 0, [3, 14, 1, 130], []), (4, .iconst 1, 0, 1, 0, [], []), (5, .isub, 0, 0, 0, [], []), (6, .iconst 4, 0, 4, 0, [], []), (7, .imul, 0, 0, 0, [], []), (8, .istore_n 1, 0, 0, 0, [], []), (9, .aload_n 0, 0, 0, 0, [], []), (10, .getfield 29, 0, 0, 0, [3, 13, 1, 129], []), (13, .iload_n 1, 0, 0, 0, [], []), (14, .iaload, 0, 0, 0, [], []), (15, .tableswitch 113 0 2 #[25, 70, 100], 0, 0, 0, [25, 66, 12, 41, 59], []), (40, .aload_n 0, 0, 0, 0, [], []), (41, .dup, 0, 0, 0, [], []), (42, .getfield 78, 0, 0, 0, [3, 14, 1, 130], []), (45, .iconst 1, 0, 1, 0, [], []), (46, .isub, 0, 0, 0, [], []), (47, .putfield 78, 0, 0, 0, [3, 14, 0, 1, 130], []), (50, .aload_n 0, 0, 0, 0, [], []), (51, .aload_n 0, 0, 0, 0, [], []), (52, .getfield 29, 0, 0, 0, [3, 13, 1, 129], []), (55, .iload_n 1, 0, 0, 0, [], []), (56, .iconst 1, 0, 1, 0, [], []), (57, .iadd, 0, 0, 0, [], []), (58, .iaload, 0, 0, 0, [], []), (59, .aload_n 0, 0, 0, 0, [], []), (60, .getfield 29, 0, 0, 0, [3, 13, 1, 129], []), (63, .iload_n 1, 0, 0, 0, [], []), (64, .iconst 2, 0, 2, 0, [], []), (65, .iadd, 0, 0, 0, [], []), (66, .iaload, 0, 0, 0, [], []), (67, .aload_n 0, 0, 0, 0, [], []), (68, .getfield 29, 0, 0, 0, [3, 13, 1, 129], []), (71, .iload_n 1, 0, 0, 0, [], []), (72, .iconst 3, 0, 3, 0, [], []), (73, .iadd, 0, 0, 0, [], []), (74, .iaload, 0, 0, 0, [], []), (75, .aload_n 0, 0, 0, 0, [], []), (76, .getfield 94, 0, 0, 0, [3, 5, 1, 120], []), (79, .invokevirtual 45, 0, 0, 0, [35, 4, 0, 3, 3, 166], []), (82, .goto 101, 0, 0, 0, [103], []), (85, .aload_n 0, 0, 0, 0, [], []), (86, .dup, 0, 0, 0, [], []), (87, .getfield 78, 0, 0, 0, [3, 14, 1, 130], []), (90, .iconst 1, 0, 1, 0, [], []), (91, .isub, 0, 0, 0, [], []), (92, .putfield 78, 0, 0, 0, [3, 14, 0, 1, 130], []), (95, .aload_n 0, 0, 0, 0, [], []), (96, .aload_n 0, 0, 0, 0, [], []), (97, .getfield 29, 0, 0, 0, [3, 13, 1, 129], []), (100, .iload_n 1, 0, 0, 0, [], []), (101, .iconst 1, 0, 1, 0, [], []), (102, .iadd, 0, 0, 0, [], []), (103, .iaload, 0, 0, 0, [], []), (104, .aload_n 0, 0, 0, 0, [], []), (105, .getfield 94, 0, 0, 0, [3, 5, 1, 120], []), (108, .iadd, 0, 0, 0, [], []), (109, .invokevirtual 129, 0, 0, 0, [36, 1, 0, 3, 3, 189], []), (112, .goto 71, 0, 0, 0, [103], []), (115, .aload_n 0, 0, 0, 0, [], []), (116, .dup, 0, 0, 0, [], []), (117, .getfield 78, 0, 0, 0, [3, 14, 1, 130], []), (120, .iconst 1, 0, 1, 0, [], []), (121, .isub, 0, 0, 0, [], []), (122, .putfield 78, 0, 0, 0, [3, 14, 0, 1, 130], []), (125, .goto 58, 0, 0, 0, [103], []), (128, .aload_n 0, 0, 0, 0, [], []), (129, .getfield 29, 0, 0, 0, [3, 13, 1, 129], []), (132, .iload_n 1, 0, 0, 0, [], []), (133, .iconst 2, 0, 2, 0, [], []), (134, .iadd, 0, 0, 0, [], []), (135, .iaload, 0, 0, 0, [], []), (136, .ifCond .ne 43, 0, 0, 0, [101], []), (139, .aload_n 0, 0, 0, 0, [], []), (140, .getfield 29, 0, 0, 0, [3, 13, 1, 129], []), (143, .iload_n 1, 0, 0, 0, [], []), (144, .iconst 1, 0, 1, 0, [], []), (145, .iadd, 0, 0, 0, [], []), (146, .aload_n 0, 0, 0, 0, [], []), (147, .getfield 94, 0, 0, 0, [3, 5, 1, 120], []), (150, .iastore, 0, 0, 0, [], []), (151, .aload_n 0, 0, 0, 0, [], []), (152, .getfield 29, 0, 0, 0, [3, 13, 1, 129], []), (155, .iload_n 1, 0, 0, 0, [], []), (156, .iconst 2, 0, 2, 0, [], []), (157, .iadd, 0, 0, 0, [], []), (158, .iconst 2, 0, 2, 0, [], []), (159, .iastore, 0, 0, 0, [], []), (160, .aload_n 0, 0, 0, 0, [], []), (161, .getfield 29, 0, 0, 0, [3, 13, 1, 129], []), (164, .iload_n 1, 0, 0, 0, [], []), (165, .iconst 3, 0, 3, 0, [], []), (166, .iadd, 0, 0, 0, [], []), (167, .aload_n 0, 0, 0, 0, [], []), (168, .getfield 21, 0, 0, 0, [3, 1, 1, 112], []), (171, .getfield 137, 0, 0, 0, [0, 0, 1, 96], []), (174, .iconst 2, 0, 2, 0, [], []), (175, .iaload, 0, 0, 0, [], []), (176, .iconst 1, 0, 1, 0, [], []), (177, .isub, 0, 0, 0, [], []), (178, .iastore, 0, 0, 0, [], []), (179, .aload_n 0, 0, 0, 0, [], []), (180, .invokevirtual 149, 0, 0, 0, [45, 0, 0, 3, 3, 217], []), (183, .return_, 0, 0, 0, [], [])]
def zT_U_goOnInCore : zT := [(0, .aload_n 0, 0, 0, 0, [], []), (1, .getfield 78, 0, 0, 0, [3, 14, 1, 130], []), (4, .iconst 1, 0, 1, 0, [], []), (5, .isub, 0, 0, 0, [], []), (6, .iconst 4, 0, 4, 0, [], []), (7, .imul, 0, 0, 0, [], []), (8, .istore_n 1, 0, 0, 0, [], []), (9, .aload_n 0, 0, 0, 0, [], []), (10, .getfield 29, 0, 0, 0, [3, 13, 1, 129], []), (13, .iload_n 1, 0, 0, 0, [], []), (14, .iconst 3, 0, 3, 0, [], []), (15, .iadd, 0, 0, 0, [], []), (16, .iaload, 0, 0, 0, [], []), (17, .istore_n 2, 0, 0, 0, [], []), (18, .aload_n 0, 0, 0, 0, [], []), (19, .getfield 29, 0, 0, 0, [3, 13, 1, 129], []), (22, .iload_n 1, 0, 0, 0, [], []), (23, .iconst 2, 0, 2, 0, [], []), (24, .iadd, 0, 0, 0, [], []), (25, .iaload, 0, 0, 0, [], []), (26, .iconst 2, 0, 2, 0, [], []), (27, .if_icmp .ne 61, 0, 0, 0, [60], []), (30, .iload_n 2, 0, 0, 0, [], []), (31, .ifCond .ge 28, 0, 0, 0, [39], []), (34, .aload_n 0, 0, 0, 0, [], []), (35, .dup, 0, 0, 0, [], []), (36, .getfield 78, 0, 0, 0, [3, 14, 1, 130], []), (39, .iconst 1, 0, 1, 0, [], []), (40, .isub, 0, 0, 0, [], []), (41, .putfield 78, 0, 0, 0, [3, 14, 0, 1, 130], []), (44, .aload_n 0, 0, 0, 0, [], []), (45, .aload_n 0, 0, 0, 0, [], []), (46, .getfield 29, 0, 0, 0, [3, 13, 1, 129], []), (49, .iload_n 1, 0, 0, 0, [], []), (50, .iconst 1, 0, 1, 0, [], []), (51, .iadd, 0, 0, 0, [], []), (52, .iaload, 0, 0, 0, [], []), (53, .invokevirtual 129, 0, 0, 0, [36, 1, 0, 3, 3, 189], []), (56, .goto 98, 0, 0, 0, [106], []), (59, .aload_n 0, 0, 0, 0, [], []), (60, .getfield 29, 0, 0, 0, [3, 13, 1, 129], []), (63, .iload_n 1, 0, 0, 0, [], []), (64, .iconst 3, 0, 3, 0, [], []), (65, .iadd, 0, 0, 0, [], []), (66, .iload_n 2, 0, 0, 0, [], []), (67, .iconst 1, 0, 1, 0, [], []), (68, .isub, 0, 0, 0, [], []), (69, .iastore, 0, 0, 0, [], []), (70, .aload_n 0, 0, 0, 0, [], []), (71, .iconst 2, 0, 2, 0, [], []), (72, .iconst 0, 0, 0, 0, [], []), (73, .iload_n 2, 0, 0, 0, [], []), (74, .aload_n 0, 0, 0, 0, [], []), (75, .getfield 29, 0, 0, 0, [3, 13, 1, 129], []), (78, .iload_n 1, 0, 0, 0, [], []), (79, .iconst 1, 0, 1, 0, [], []), (80, .iadd, 0, 0, 0, [], []), (81, .iaload, 0, 0, 0, [], []), (82, .invokevirtual 45, 0, 0, 0, [35, 4, 0, 3, 3, 166], []), (85, .goto 69, 0, 0, 0, [106], []), (88, .iload_n 2, 61, 0, 0, [], []), (89, .aload_n 0, 0, 0, 0, [], []), (90, .getfield 21, 0, 0, 0, [3, 1, 1, 112], []), (93, .getfield 137, 0, 0, 0, [0, 0, 1, 96], []), (96, .iconst 1, 0, 1, 0, [], []), (97, .iaload, 0, 0, 0, [], []), (98, .if_icmp .ge 32, 0, 0, 0, [88], []), (101, .aload_n 0, 68, 0, 0, [], []), (102, .getfield 29, 0, 0, 0, [3, 13, 1, 129], []), (105, .iload_n 1, 0, 0, 0, [], []), (106, .iconst 3, 0, 3, 0, [], []), (107, .iadd, 0, 0, 0, [], []), (108, .iload_n 2, 0, 0, 0, [], []), (109, .iconst 1, 0, 1, 0, [], []), (110, .iadd, 0, 0, 0, [], []), (111, .iastore, 0, 0, 0, [], []), (112, .aload_n 0, 0, 0, 0, [], []), (113, .iconst 1, 0, 1, 0, [], []), (114, .iconst 0, 0, 0, 0, [], []), (115, .iload_n 2, 0, 0, 0, [], []), (116, .aload_n 0, 0, 0, 0, [], []), (117, .getfield 29, 0, 0, 0, [3, 13, 1, 129], []), (120, .iload_n 1, 0, 0, 0, [], []), (121, .iconst 1, 0, 1, 0, [], []), (122, .iadd, 0, 0, 0, [], []), (123, .iaload, 0, 0, 0, [], []), (124, .invokevirtual 45, 0, 0, 0, [35, 4, 0, 3, 3, 166], []), (127, .goto 27, 0, 0, 0, [106], []), (130, .aload_n 0, 89, 0, 0, [], [2]), (131, .getfield 29, 0, 0, 0, [3, 13, 1, 129], []), (134, .iload_n 1, 0, 0, 0, [], []), (135, .iconst 2, 0, 2, 0, [], []), (136, .iadd, 0, 0, 0, [], []), (137, .iconst 0, 0, 0, 0, [], []), (138, .iastore, 0, 0, 0, [], []), (139, .aload_n 0, 0, 0, 0, [], []), (140, .iconst 0, 0, 0, 0, [], []), (141, .iconst 0, 0, 0, 0, [], []), (142, .iconst 0, 0, 0, 0, [], []), (143, .aload_n 0, 0, 0, 0, [], []), (144, .getfield 29, 0, 0, 0, [3, 13, 1, 129], []), (147, .iload_n 1, 0, 0, 0, [], []), (148, .iconst 1, 0, 1, 0, [], []), (149, .iadd, 0, 0, 0, [], []), (150, .iaload, 0, 0, 0, [], []), (151, .invokevirtual 45, 0, 0, 0, [35, 4, 0, 3, 3, 166], []), (154, .return_, 0, 0, 0, [], [])]
def zT_U_failFrame : zT := [(0, .aload_n 0, 0, 0, 0, [], []), (1, .dup, 0, 0, 0, [], []), (2, .getfield 78, 0, 0, 0, [3, 14, 1, 130], []), (5, .iconst 1, 0, 1, 0, [], []), (6, .isub, 0, 0, 0, [], []), (7, .putfield 78, 0, 0, 0, [3, 14, 0, 1, 130], []), (10, .aload_n 0, 0, 0, 0, [], []), (11, .getfield 78, 0, 0, 0, [3, 14, 1, 130], []), (14, .iconst 4, 0, 4, 0, [], []), (15, .imul, 0, 0, 0, [], []), (16, .istore_n 1, 0, 0, 0, [], []), (17, .aload_n 0, 0, 0, 0, [], []), (18, .getfield 29, 0, 0, 0, [3, 13, 1, 129], []), (21, .iload_n 1, 0, 0, 0, [], []), (22, .iaload, 0, 0, 0, [], []), (23, .iconst 2, 0, 2, 0, [], []), (24, .if_icmp .ne 15, 0, 0, 0, [25], []), (27, .aload_n 0, 0, 0, 0, [], []), (28, .aload_n 0, 0, 0, 0, [], []), (29, .getfield 29, 0, 0, 0, [3, 13, 1, 129], []), (32, .iload_n 1, 0, 0, 0, [], []), (33, .iconst 1, 0, 1, 0, [], []), (34, .iadd, 0, 0, 0, [], []), (35, .iaload, 0, 0, 0, [], []), (36, .invokevirtual 129, 0, 0, 0, [36, 1, 0, 3, 3, 189], []), (39, .return_, 0, 0, 0, [], [])]
def zT_H_isShelf : zT := [(0, .iload_n 1, 0, 0, 0, [], []), (1, .ifCond .lt 13, 0, 0, 0, [7], []), (4, .iload_n 1, 0, 0, 0, [], []), (5, .bipush 8, 0, 8, 0, [], []), (7, .if_icmp .ge 7, 0, 0, 0, [7], []), (10, .iconst 1, 0, 1, 0, [], []), (11, .goto 4, 0, 0, 0, [8], []), (14, .iconst 0, 0, 0, 0, [], []), (15, .ireturn, 0, 0, 0, [], [])]
def zT_H_holdsRow : zT := [(0, .aload_n 0, 0, 0, 0, [], []), (1, .getfield 9, 0, 0, 0, [4, 0, 1, 182], []), (4, .iload_n 1, 0, 0, 0, [], []), (5, .iaload, 0, 0, 0, [], []), (6, .bipush 100, 0, 100, 0, [], []), (8, .if_icmp .lt 7, 0, 0, 0, [8], []), (11, .iconst 1, 0, 1, 0, [], []), (12, .goto 4, 0, 0, 0, [9], []), (15, .iconst 0, 0, 0, 0, [], []), (16, .ireturn, 0, 0, 0, [], [])]
def zT_H_holdsObject : zT := [(0, .aload_n 0, 0, 0, 0, [], []), (1, .getfield 9, 0, 0, 0, [4, 0, 1, 182], []), (4, .iload_n 1, 0, 0, 0, [], []), (5, .iaload, 0, 0, 0, [], []), (6, .iconst (-1), 0, (-1), 0, [], []), (7, .if_icmp .eq 18, 0, 0, 0, [14], []), (10, .aload_n 0, 0, 0, 0, [], []), (11, .getfield 9, 0, 0, 0, [4, 0, 1, 182], []), (14, .iload_n 1, 0, 0, 0, [], []), (15, .iaload, 0, 0, 0, [], []), (16, .bipush 100, 0, 100, 0, [], []), (18, .if_icmp .ge 7, 0, 0, 0, [14], []), (21, .iconst 1, 0, 1, 0, [], []), (22, .goto 4, 0, 0, 0, [15], []), (25, .iconst 0, 0, 0, 0, [], []), (26, .ireturn, 0, 0, 0, [], [])]
def zT_H_areOfTwoSorts : zT := [(0, .aload_n 0, 0, 0, 0, [], []), (1, .iload_n 1, 0, 0, 0, [], []), (2, .invokevirtual 28, 0, 0, 0, [48, 1, 3, 4, 2, 86], []), (5, .ifCond .eq 30, 0, 0, 0, [19], []), (8, .aload_n 0, 0, 0, 0, [], []), (9, .iload_n 2, 0, 0, 0, [], []), (10, .invokevirtual 28, 0, 0, 0, [48, 1, 3, 4, 2, 86], []), (13, .ifCond .eq 22, 0, 0, 0, [19], []), (16, .aload_n 0, 0, 0, 0, [], []), (17, .getfield 9, 0, 0, 0, [4, 0, 1, 182], []), (20, .iload_n 1, 0, 0, 0, [], []), (21, .iaload, 0, 0, 0, [], []), (22, .aload_n 0, 0, 0, 0, [], []), (23, .getfield 9, 0, 0, 0, [4, 0, 1, 182], []), (26, .iload_n 2, 0, 0, 0, [], []), (27, .iaload, 0, 0, 0, [], []), (28, .if_icmp .eq 7, 0, 0, 0, [19], []), (31, .iconst 1, 0, 1, 0, [], []), (32, .goto 4, 0, 0, 0, [20], []), (35, .iconst 0, 0, 0, 0, [], []), (36, .ireturn, 0, 0, 0, [], [])]
def zT_H_whyNoRow : zT := [(0, .aload_n 0, 0, 0, 0, [], []), (1, .iload_n 1, 0, 0, 0, [], []), (2, .invokevirtual 32, 0, 0, 0, [47, 1, 3, 4, 2, 81], []), (5, .ifCond .ne 5, 0, 0, 0, [6], []), (8, .iconst (-1), 0, (-1), 0, [], []), (9, .ireturn, 0, 0, 0, [], []), (10, .aload_n 0, 0, 0, 0, [], []), (11, .iload_n 1, 0, 0, 0, [], []), (12, .invokevirtual 35, 0, 0, 0, [49, 1, 3, 4, 2, 82], []), (15, .ifCond .eq 6, 0, 0, 0, [12], []), (18, .bipush (-2), 0, (-2), 0, [], []), (20, .ireturn, 0, 0, 0, [], []), (21, .aload_n 0, 0, 0, 0, [], []), (22, .iload_n 1, 0, 0, 0, [], []), (23, .invokevirtual 28, 0, 0, 0, [48, 1, 3, 4, 2, 86], []), (26, .ifCond .eq 7, 0, 0, 0, [18], []), (29, .iconst 0, 0, 0, 0, [], []), (30, .goto 5, 0, 0, 0, [19], []), (33, .bipush (-3), 0, (-3), 0, [], []), (35, .ireturn, 0, 0, 0, [], [])]
def zT_H_lay : zT := [(0, .aload_n 0, 0, 0, 0, [], []), (1, .getfield 9, 0, 0, 0, [4, 0, 1, 182], []), (4, .iload_n 1, 0, 0, 0, [], []), (5, .bipush 100, 0, 100, 0, [], []), (7, .iload_n 2, 0, 0, 0, [], []), (8, .iadd, 0, 0, 0, [], []), (9, .iastore, 0, 0, 0, [], []), (10, .aload_n 0, 0, 0, 0, [], []), (11, .getfield 15, 0, 0, 0, [4, 1, 1, 184], []), (14, .iload_n 1, 0, 0, 0, [], []), (15, .iload_n 3, 0, 0, 0, [], []), (16, .iastore, 0, 0, 0, [], []), (17, .aload_n 0, 0, 0, 0, [], []), (18, .getfield 18, 0, 0, 0, [4, 2, 1, 187], []), (21, .iload_n 1, 0, 0, 0, [], []), (22, .sipush 160, 0, 160, 0, [], []), (25, .imul, 0, 0, 0, [], []), (26, .iload_n 1, 0, 0, 0, [], []), (27, .sipush 160, 0, 160, 0, [], []), (30, .imul, 0, 0, 0, [], []), (31, .iload_n 3, 0, 0, 0, [], []), (32, .iadd, 0, 0, 0, [], []), (33, .lconst 0, 0, 0, 0, [], []), (34, .invokestatic 38, 0, 0, 0, [219, 4, 0, 0, 2, 67], []), (37, .return_, 0, 0, 0, [], [])]
def zT_H_hasElement : zT := [(0, .aload_n 0, 0, 0, 0, [], []), (1, .iload_n 1, 0, 0, 0, [], []), (2, .invokevirtual 32, 0, 0, 0, [47, 1, 3, 4, 2, 81], []), (5, .ifCond .eq 29, 0, 0, 0, [18], []), (8, .aload_n 0, 0, 0, 0, [], []), (9, .iload_n 1, 0, 0, 0, [], []), (10, .invokevirtual 28, 0, 0, 0, [48, 1, 3, 4, 2, 86], []), (13, .ifCond .eq 21, 0, 0, 0, [18], []), (16, .iload_n 2, 0, 0, 0, [], []), (17, .ifCond .lt 17, 0, 0, 0, [18], []), (20, .iload_n 2, 0, 0, 0, [], []), (21, .aload_n 0, 0, 0, 0, [], []), (22, .getfield 15, 0, 0, 0, [4, 1, 1, 184], []), (25, .iload_n 1, 0, 0, 0, [], []), (26, .iaload, 0, 0, 0, [], []), (27, .if_icmp .ge 7, 0, 0, 0, [18], []), (30, .iconst 1, 0, 1, 0, [], []), (31, .goto 4, 0, 0, 0, [19], []), (34, .iconst 0, 0, 0, 0, [], []), (35, .ireturn, 0, 0, 0, [], [])]
def zT_H_hasStretch : zT := [(0, .iload_n 2, 0, 0, 0, [], []), (1, .ifCond .lt 23, 0, 0, 0, [16], []), (4, .iload_n 2, 0, 0, 0, [], []), (5, .i2l, 0, 0, 0, [], []), (6, .iload_n 3, 0, 0, 0, [], []), (7, .i2l, 0, 0, 0, [], []), (8, .ladd, 0, 0, 0, [], []), (9, .aload_n 0, 0, 0, 0, [], []), (10, .getfield 15, 0, 0, 0, [4, 1, 1, 184], []), (13, .iload_n 1, 0, 0, 0, [], []), (14, .iaload, 0, 0, 0, [], []), (15, .i2l, 0, 0, 0, [], []), (16, .lcmp, 0, 0, 0, [], []), (17, .ifCond .gt 7, 0, 0, 0, [16], []), (20, .iconst 1, 0, 1, 0, [], []), (21, .goto 4, 0, 0, 0, [17], []), (24, .iconst 0, 0, 0, 0, [], []), (25, .ireturn, 0, 0, 0, [], [])]
def zT_H_put : zT := [(0, .iload_n 1, 0, 0, 0, [], []), (1, .sipush 160, 0, 160, 0, [], []), (4, .imul, 0, 0, 0, [], []), (5, .iload_n 2, 0, 0, 0, [], []), (6, .iadd, 0, 0, 0, [], []), (7, .istore 5, 0, 0, 0, [], []), (9, .aload_n 0, 0, 0, 0, [], []), (10, .getfield 9, 0, 0, 0, [4, 0, 1, 182], []), (13, .iload_n 1, 0, 0, 0, [], []), (14, .iaload, 0, 0, 0, [], []), (15, .bipush 100, 0, 100, 0, [], []), (17, .isub, 0, 0, 0, [], []), (18, .tableswitch 67 0 2 #[26, 40, 54], 0, 0, 0, [26, 39, 13, 22, 31], []), (44, .aload_n 0, 0, 0, 0, [], []), (45, .getfield 18, 0, 0, 0, [4, 2, 1, 187], []), (48, .iload 5, 0, 0, 0, [], []), (50, .lload_n 3, 0, 0, 0, [], []), (51, .l2i, 0, 0, 0, [], []), (52, .i2b, 0, 0, 0, [], []), (53, .i2l, 0, 0, 0, [], []), (54, .lastore, 0, 0, 0, [], []), (55, .goto 38, 0, 0, 0, [44], []), (58, .aload_n 0, 0, 0, 0, [], []), (59, .getfield 18, 0, 0, 0, [4, 2, 1, 187], []), (62, .iload 5, 0, 0, 0, [], []), (64, .lload_n 3, 0, 0, 0, [], []), (65, .l2i, 0, 0, 0, [], []), (66, .i2s, 0, 0, 0, [], []), (67, .i2l, 0, 0, 0, [], []), (68, .lastore, 0, 0, 0, [], []), (69, .goto 24, 0, 0, 0, [44], []), (72, .aload_n 0, 0, 0, 0, [], []), (73, .getfield 18, 0, 0, 0, [4, 2, 1, 187], []), (76, .iload 5, 0, 0, 0, [], []), (78, .lload_n 3, 0, 0, 0, [], []), (79, .l2i, 0, 0, 0, [], []), (80, .i2l, 0, 0, 0, [], []), (81, .lastore, 0, 0, 0, [], []), (82, .goto 11, 0, 0, 0, [44], []), (85, .aload_n 0, 0, 0, 0, [], []), (86, .getfield 18, 0, 0, 0, [4, 2, 1, 187], []), (89, .iload 5, 0, 0, 0, [], []), (91, .lload_n 3, 0, 0, 0, [], []), (92, .lastore, 0, 0, 0, [], []), (93, .return_, 0, 0, 0, [], [])]
def zT_H_move : zT := [(0, .aload_n 0, 0, 0, 0, [], []), (1, .getfield 18, 0, 0, 0, [4, 2, 1, 187], []), (4, .iload_n 1, 0, 0, 0, [], []), (5, .sipush 160, 0, 160, 0, [], []), (8, .imul, 0, 0, 0, [], []), (9, .iload_n 3, 0, 0, 0, [], []), (10, .iadd, 0, 0, 0, [], []), (11, .aload_n 0, 0, 0, 0, [], []), (12, .getfield 18, 0, 0, 0, [4, 2, 1, 187], []), (15, .iload_n 2, 0, 0, 0, [], []), (16, .sipush 160, 0, 160, 0, [], []), (19, .imul, 0, 0, 0, [], []), (20, .iload 4, 0, 0, 0, [], []), (22, .iadd, 0, 0, 0, [], []), (23, .iload 5, 0, 0, 0, [], []), (25, .invokestatic 41, 0, 0, 0, [2, 116], []), (28, .return_, 0, 0, 0, [], [])]
def zT_H_longAt : zT := [(0, .aload_n 0, 0, 0, 0, [], []), (1, .getfield 18, 0, 0, 0, [4, 2, 1, 187], []), (4, .iload_n 1, 0, 0, 0, [], []), (5, .sipush 160, 0, 160, 0, [], []), (8, .imul, 0, 0, 0, [], []), (9, .iload_n 2, 0, 0, 0, [], []), (10, .iadd, 0, 0, 0, [], []), (11, .laload, 0, 0, 0, [], []), (12, .lreturn, 0, 0, 0, [], [])]
def zT_H_intAt : zT := [(0, .aload_n 0, 0, 0, 0, [], []), (1, .getfield 18, 0, 0, 0, [4, 2, 1, 187], []), (4, .iload_n 1, 0, 0, 0, [], []), (5, .sipush 160, 0, 160, 0, [], []), (8, .imul, 0, 0, 0, [], []), (9, .iload_n 2, 0, 0, 0, [], []), (10, .iadd, 0, 0, 0, [], []), (11, .laload, 0, 0, 0, [], []), (12, .l2i, 0, 0, 0, [], []), (13, .ireturn, 0, 0, 0, [], [])]
def zT_H_dropObjectsFrom : zT := [(0, .iconst 0, 0, 0, 0, [], []), (1, .istore_n 2, 0, 0, 0, [], []), (2, .iload_n 2, 3, 0, 0, [], []), (3, .bipush 8, 0, 8, 0, [], []), (5, .if_icmp .ge 34, 0, 0, 0, [22], []), (8, .aload_n 0, 0, 0, 0, [], []), (9, .iload_n 2, 0, 0, 0, [], []), (10, .invokevirtual 35, 0, 0, 0, [49, 1, 3, 4, 2, 82], []), (13, .ifCond .eq 20, 0, 0, 0, [20], []), (16, .aload_n 0, 0, 0, 0, [], []), (17, .getfield 9, 0, 0, 0, [4, 0, 1, 182], []), (20, .iload_n 2, 0, 0, 0, [], []), (21, .iaload, 0, 0, 0, [], []), (22, .iload_n 1, 0, 0, 0, [], []), (23, .if_icmp .lt 10, 0, 0, 0, [20], []), (26, .aload_n 0, 0, 0, 0, [], []), (27, .getfield 9, 0, 0, 0, [4, 0, 1, 182], []), (30, .iload_n 2, 0, 0, 0, [], []), (31, .iconst (-1), 0, (-1), 0, [], []), (32, .iastore, 0, 0, 0, [], []), (33, .iinc 2 1, 0, 1, 0, [], []), (36, .goto (-34), 0, 0, 0, [2], []), (39, .return_, 0, 0, 0, [], [])]
def zT_W_hasObject : zT := [(0, .iload_n 1, 0, 0, 0, [], []), (1, .ifCond .lt 15, 0, 0, 0, [8], []), (4, .iload_n 1, 0, 0, 0, [], []), (5, .aload_n 0, 0, 0, 0, [], []), (6, .getfield 43, 0, 0, 0, [5, 0, 1, 33], []), (9, .if_icmp .ge 7, 0, 0, 0, [8], []), (12, .iconst 1, 0, 1, 0, [], []), (13, .goto 4, 0, 0, 0, [9], []), (16, .iconst 0, 0, 0, 0, [], []), (17, .ireturn, 0, 0, 0, [], [])]
def zT_W_isFull : zT := [(0, .aload_n 0, 0, 0, 0, [], []), (1, .getfield 43, 0, 0, 0, [5, 0, 1, 33], []), (4, .bipush 16, 0, 16, 0, [], []), (6, .if_icmp .lt 7, 0, 0, 0, [6], []), (9, .iconst 1, 0, 1, 0, [], []), (10, .goto 4, 0, 0, 0, [7], []), (13, .iconst 0, 0, 0, 0, [], []), (14, .ireturn, 0, 0, 0, [], [])]
def zT_W_addObject : zT := [(0, .aload_n 0, 0, 0, 0, [], []), (1, .getfield 43, 0, 0, 0, [5, 0, 1, 33], []), (4, .istore_n 3, 0, 0, 0, [], []), (5, .aload_n 0, 0, 0, 0, [], []), (6, .getfield 15, 0, 0, 0, [5, 3, 1, 41], []), (9, .iload_n 3, 0, 0, 0, [], []), (10, .iload_n 1, 0, 0, 0, [], []), (11, .iastore, 0, 0, 0, [], []), (12, .aload_n 0, 0, 0, 0, [], []), (13, .getfield 19, 0, 0, 0, [5, 4, 1, 44], []), (16, .iload_n 3, 0, 0, 0, [], []), (17, .aload_n 2, 0, 0, 0, [], []), (18, .getfield 46, 0, 0, 0, [1, 1, 1, 206], []), (21, .iastore, 0, 0, 0, [], []), (22, .aload_n 2, 0, 0, 0, [], []), (23, .getfield 51, 0, 0, 0, [1, 0, 1, 203], []), (26, .iconst 0, 0, 0, 0, [], []), (27, .aload_n 0, 0, 0, 0, [], []), (28, .getfield 22, 0, 0, 0, [5, 5, 1, 46], []), (31, .iload_n 3, 0, 0, 0, [], []), (32, .iconst 3, 0, 3, 0, [], []), (33, .imul, 0, 0, 0, [], []), (34, .aload_n 2, 0, 0, 0, [], []), (35, .getfield 46, 0, 0, 0, [1, 1, 1, 206], []), (38, .invokestatic 52, 0, 0, 0, [3, 16], []), (41, .aload_n 0, 0, 0, 0, [], []), (42, .getfield 28, 0, 0, 0, [5, 7, 1, 50], []), (45, .iload_n 3, 0, 0, 0, [], []), (46, .bipush 16, 0, 16, 0, [], []), (48, .imul, 0, 0, 0, [], []), (49, .iload_n 3, 0, 0, 0, [], []), (50, .iastore, 0, 0, 0, [], []), (51, .aload_n 2, 0, 0, 0, [], []), (52, .getfield 58, 0, 0, 0, [1, 2, 1, 208], []), (55, .iconst 0, 0, 0, 0, [], []), (56, .aload_n 0, 0, 0, 0, [], []), (57, .getfield 28, 0, 0, 0, [5, 7, 1, 50], []), (60, .iload_n 3, 0, 0, 0, [], []), (61, .bipush 16, 0, 16, 0, [], []), (63, .imul, 0, 0, 0, [], []), (64, .iconst 1, 0, 1, 0, [], []), (65, .iadd, 0, 0, 0, [], []), (66, .aload_n 2, 0, 0, 0, [], []), (67, .getfield 61, 0, 0, 0, [1, 3, 1, 210], []), (70, .invokestatic 52, 0, 0, 0, [3, 16], []), (73, .aload_n 0, 0, 0, 0, [], []), (74, .getfield 25, 0, 0, 0, [5, 6, 1, 47], []), (77, .iload_n 3, 0, 0, 0, [], []), (78, .aload_n 2, 0, 0, 0, [], []), (79, .getfield 61, 0, 0, 0, [1, 3, 1, 210], []), (82, .iconst 1, 0, 1, 0, [], []), (83, .iadd, 0, 0, 0, [], []), (84, .iastore, 0, 0, 0, [], []), (85, .iconst 0, 0, 0, 0, [], []), (86, .istore 4, 0, 0, 0, [], []), (88, .iload 4, 56, 0, 0, [], [1, 2]), (90, .bipush 16, 0, 16, 0, [], []), (92, .if_icmp .ge 16, 0, 0, 0, [64], []), (95, .aload_n 0, 0, 0, 0, [], []), (96, .iload_n 3, 0, 0, 0, [], []), (97, .iload 4, 0, 0, 0, [], []), (99, .invokevirtual 64, 0, 0, 0, [71, 2, 0, 5, 3, 17], []), (102, .iinc 4 1, 0, 1, 0, [], []), (105, .goto (-17), 0, 0, 0, [55], []), (108, .aload_n 0, 0, 0, 0, [], []), (109, .iload_n 3, 0, 0, 0, [], []), (110, .iconst 1, 0, 1, 0, [], []), (111, .iadd, 0, 0, 0, [], []), (112, .putfield 43, 0, 0, 0, [5, 0, 0, 1, 33], []), (115, .iload_n 3, 0, 0, 0, [], []), (116, .ireturn, 0, 0, 0, [], [])]
def zT_W_parentAt : zT := [(0, .iload_n 2, 0, 0, 0, [], []), (1, .aload_n 0, 0, 0, 0, [], []), (2, .getfield 19, 0, 0, 0, [5, 4, 1, 44], []), (5, .iload_n 1, 0, 0, 0, [], []), (6, .iaload, 0, 0, 0, [], []), (7, .if_icmp .ge 16, 0, 0, 0, [15], []), (10, .aload_n 0, 0, 0, 0, [], []), (11, .getfield 22, 0, 0, 0, [5, 5, 1, 46], []), (14, .iload_n 1, 0, 0, 0, [], []), (15, .iconst 3, 0, 3, 0, [], []), (16, .imul, 0, 0, 0, [], []), (17, .iload_n 2, 0, 0, 0, [], []), (18, .iadd, 0, 0, 0, [], []), (19, .iaload, 0, 0, 0, [], []), (20, .goto 4, 0, 0, 0, [16], []), (23, .iconst (-1), 0, (-1), 0, [], []), (24, .ireturn, 0, 0, 0, [], [])]
def zT_W_orderAt : zT := [(0, .aload_n 0, 0, 0, 0, [], []), (1, .getfield 28, 0, 0, 0, [5, 7, 1, 50], []), (4, .iload_n 1, 0, 0, 0, [], []), (5, .bipush 16, 0, 16, 0, [], []), (7, .imul, 0, 0, 0, [], []), (8, .iload_n 2, 0, 0, 0, [], []), (9, .iadd, 0, 0, 0, [], []), (10, .iaload, 0, 0, 0, [], []), (11, .ireturn, 0, 0, 0, [], [])]
def zT_W_wayPart : zT := [(0, .aload_n 0, 0, 0, 0, [], []), (1, .getfield 40, 0, 0, 0, [5, 11, 1, 61], []), (4, .iload_n 1, 0, 0, 0, [], []), (5, .bipush 6, 0, 6, 0, [], []), (7, .imul, 0, 0, 0, [], []), (8, .iload_n 2, 0, 0, 0, [], []), (9, .iadd, 0, 0, 0, [], []), (10, .iaload, 0, 0, 0, [], []), (11, .ireturn, 0, 0, 0, [], [])]
def zT_W_isOfKind : zT := [(0, .iload_n 2, 0, 0, 0, [], []), (1, .ifCond .eq 28, 0, 0, 0, [17], []), (4, .aload_n 0, 0, 0, 0, [], []), (5, .getfield 15, 0, 0, 0, [5, 3, 1, 41], []), (8, .iload_n 1, 0, 0, 0, [], []), (9, .iaload, 0, 0, 0, [], []), (10, .iload_n 2, 0, 0, 0, [], []), (11, .if_icmp .eq 18, 0, 0, 0, [17], []), (14, .iload_n 2, 0, 0, 0, [], []), (15, .iconst 1, 0, 1, 0, [], []), (16, .if_icmp .ne 17, 0, 0, 0, [19], []), (19, .aload_n 0, 0, 0, 0, [], []), (20, .getfield 15, 0, 0, 0, [5, 3, 1, 41], []), (23, .iload_n 1, 0, 0, 0, [], []), (24, .iaload, 0, 0, 0, [], []), (25, .iconst 3, 0, 3, 0, [], []), (26, .if_icmp .ne 7, 0, 0, 0, [19], []), (29, .iconst 1, 0, 1, 0, [], []), (30, .goto 4, 0, 0, 0, [20], []), (33, .iconst 0, 0, 0, 0, [], []), (34, .ireturn, 0, 0, 0, [], [])]
def zT_W_distanceTo : zT := [(0, .iconst 0, 0, 0, 0, [], []), (1, .istore_n 3, 0, 0, 0, [], []), (2, .iload_n 3, 3, 0, 0, [], []), (3, .aload_n 0, 0, 0, 0, [], []), (4, .getfield 25, 0, 0, 0, [5, 6, 1, 47], []), (7, .iload_n 1, 0, 0, 0, [], []), (8, .iaload, 0, 0, 0, [], []), (9, .if_icmp .ge 21, 0, 0, 0, [18], []), (12, .aload_n 0, 0, 0, 0, [], []), (13, .iload_n 1, 0, 0, 0, [], []), (14, .iload_n 3, 0, 0, 0, [], []), (15, .invokevirtual 68, 0, 0, 0, [64, 2, 1, 5, 3, 106], []), (18, .iload_n 2, 0, 0, 0, [], []), (19, .if_icmp .ne 5, 0, 0, 0, [16], []), (22, .iload_n 3, 0, 0, 0, [], []), (23, .ireturn, 0, 0, 0, [], []), (24, .iinc 3 1, 0, 1, 0, [], []), (27, .goto (-25), 0, 0, 0, [2], []), (30, .iconst (-1), 0, (-1), 0, [], []), (31, .ireturn, 0, 0, 0, [], [])]
def zT_W_hasOwn : zT := [(0, .aload_n 0, 0, 0, 0, [], []), (1, .getfield 31, 0, 0, 0, [5, 8, 1, 52], []), (4, .iload_n 1, 0, 0, 0, [], []), (5, .bipush 16, 0, 16, 0, [], []), (7, .imul, 0, 0, 0, [], []), (8, .iload_n 2, 0, 0, 0, [], []), (9, .iadd, 0, 0, 0, [], []), (10, .iaload, 0, 0, 0, [], []), (11, .ifCond .eq 7, 0, 0, 0, [11], []), (14, .iconst 1, 0, 1, 0, [], []), (15, .goto 4, 0, 0, 0, [12], []), (18, .iconst 0, 0, 0, 0, [], []), (19, .ireturn, 0, 0, 0, [], [])]
def zT_W_putValue : zT := [(0, .aload_n 0, 0, 0, 0, [], []), (1, .getfield 31, 0, 0, 0, [5, 8, 1, 52], []), (4, .iload_n 1, 0, 0, 0, [], []), (5, .bipush 16, 0, 16, 0, [], []), (7, .imul, 0, 0, 0, [], []), (8, .iload_n 2, 0, 0, 0, [], []), (9, .iadd, 0, 0, 0, [], []), (10, .iconst 1, 0, 1, 0, [], []), (11, .iastore, 0, 0, 0, [], []), (12, .aload_n 0, 0, 0, 0, [], []), (13, .getfield 34, 0, 0, 0, [5, 9, 1, 55], []), (16, .iload_n 1, 0, 0, 0, [], []), (17, .bipush 16, 0, 16, 0, [], []), (19, .imul, 0, 0, 0, [], []), (20, .iload_n 2, 0, 0, 0, [], []), (21, .iadd, 0, 0, 0, [], []), (22, .iconst 0, 0, 0, 0, [], []), (23, .iastore, 0, 0, 0, [], []), (24, .aload_n 0, 0, 0, 0, [], []), (25, .getfield 37, 0, 0, 0, [5, 10, 1, 58], []), (28, .iload_n 1, 0, 0, 0, [], []), (29, .bipush 16, 0, 16, 0, [], []), (31, .imul, 0, 0, 0, [], []), (32, .iload_n 2, 0, 0, 0, [], []), (33, .iadd, 0, 0, 0, [], []), (34, .iload_n 3, 0, 0, 0, [], []), (35, .iastore, 0, 0, 0, [], []), (36, .return_, 0, 0, 0, [], [])]
def zT_W_putMethod : zT := [(0, .aload_n 0, 0, 0, 0, [], []), (1, .getfield 31, 0, 0, 0, [5, 8, 1, 52], []), (4, .iload_n 1, 0, 0, 0, [], []), (5, .bipush 16, 0, 16, 0, [], []), (7, .imul, 0, 0, 0, [], []), (8, .iload_n 2, 0, 0, 0, [], []), (9, .iadd, 0, 0, 0, [], []), (10, .iconst 2, 0, 2, 0, [], []), (11, .iastore, 0, 0, 0, [], []), (12, .aload_n 0, 0, 0, 0, [], []), (13, .getfield 34, 0, 0, 0, [5, 9, 1, 55], []), (16, .iload_n 1, 0, 0, 0, [], []), (17, .bipush 16, 0, 16, 0, [], []), (19, .imul, 0, 0, 0, [], []), (20, .iload_n 2, 0, 0, 0, [], []), (21, .iadd, 0, 0, 0, [], []), (22, .iload_n 3, 0, 0, 0, [], []), (23, .iastore, 0, 0, 0, [], []), (24, .aload_n 0, 0, 0, 0, [], []), (25, .getfield 37, 0, 0, 0, [5, 10, 1, 58], []), (28, .iload_n 1, 0, 0, 0, [], []), (29, .bipush 16, 0, 16, 0, [], []), (31, .imul, 0, 0, 0, [], []), (32, .iload_n 2, 0, 0, 0, [], []), (33, .iadd, 0, 0, 0, [], []), (34, .iload 4, 0, 0, 0, [], []), (36, .iastore, 0, 0, 0, [], []), (37, .return_, 0, 0, 0, [], [])]
def zT_W_drop : zT := [(0, .aload_n 0, 0, 0, 0, [], []), (1, .getfield 31, 0, 0, 0, [5, 8, 1, 52], []), (4, .iload_n 1, 0, 0, 0, [], []), (5, .bipush 16, 0, 16, 0, [], []), (7, .imul, 0, 0, 0, [], []), (8, .iload_n 2, 0, 0, 0, [], []), (9, .iadd, 0, 0, 0, [], []), (10, .iconst 0, 0, 0, 0, [], []), (11, .iastore, 0, 0, 0, [], []), (12, .return_, 0, 0, 0, [], [])]
def zT_W_placeFrom : zT := [(0, .iload_n 3, 0, 0, 0, [], []), (1, .istore 4, 0, 0, 0, [], []), (3, .iload 4, 3, 0, 0, [], [3]), (5, .aload_n 0, 0, 0, 0, [], []), (6, .getfield 25, 0, 0, 0, [5, 6, 1, 47], []), (9, .iload_n 1, 0, 0, 0, [], []), (10, .iaload, 0, 0, 0, [], []), (11, .if_icmp .ge 27, 0, 0, 0, [20], []), (14, .aload_n 0, 0, 0, 0, [], []), (15, .aload_n 0, 0, 0, 0, [], []), (16, .iload_n 1, 0, 0, 0, [], []), (17, .iload 4, 0, 0, 0, [], []), (19, .invokevirtual 68, 0, 0, 0, [64, 2, 1, 5, 3, 106], []), (22, .iload_n 2, 0, 0, 0, [], []), (23, .invokevirtual 72, 0, 0, 0, [68, 2, 3, 5, 2, 154], []), (26, .ifCond .eq 6, 0, 0, 0, [18], []), (29, .iload 4, 0, 0, 0, [], []), (31, .ireturn, 0, 0, 0, [], []), (32, .iinc 4 1, 0, 1, 0, [], []), (35, .goto (-32), 0, 0, 0, [2], []), (38, .iconst (-1), 0, (-1), 0, [], []), (39, .ireturn, 0, 0, 0, [], [])]
def zT_W_foundIn : zT := [(0, .aload_n 0, 0, 0, 0, [], []), (1, .iload_n 1, 0, 0, 0, [], []), (2, .iload_n 2, 0, 0, 0, [], []), (3, .iconst 0, 0, 0, 0, [], []), (4, .invokevirtual 76, 0, 0, 0, [72, 3, 1, 5, 3, 137], []), (7, .istore_n 3, 0, 0, 0, [], []), (8, .iload_n 3, 0, 0, 0, [], []), (9, .iconst (-1), 0, (-1), 0, [], []), (10, .if_icmp .ne 7, 0, 0, 0, [11], []), (13, .iconst (-1), 0, (-1), 0, [], []), (14, .goto 9, 0, 0, 0, [15], []), (17, .aload_n 0, 0, 0, 0, [], []), (18, .iload_n 1, 0, 0, 0, [], []), (19, .iload_n 3, 0, 0, 0, [], []), (20, .invokevirtual 68, 0, 0, 0, [64, 2, 1, 5, 3, 106], []), (23, .ireturn, 0, 0, 0, [], [])]
def zT_W_ownSlots : zT := [(0, .iconst 0, 0, 0, 0, [], []), (1, .istore_n 2, 0, 0, 0, [], []), (2, .iconst 0, 0, 0, 0, [], []), (3, .istore_n 3, 0, 0, 0, [], []), (4, .iload_n 3, 5, 0, 0, [], []), (5, .bipush 16, 0, 16, 0, [], []), (7, .if_icmp .ge 24, 0, 0, 0, [20], []), (10, .aload_n 0, 0, 0, 0, [], []), (11, .iload_n 1, 0, 0, 0, [], []), (12, .iload_n 3, 0, 0, 0, [], []), (13, .invokevirtual 72, 0, 0, 0, [68, 2, 3, 5, 2, 154], []), (16, .ifCond .eq 9, 0, 0, 0, [18], []), (19, .iload_n 2, 0, 0, 0, [], []), (20, .iconst 1, 0, 1, 0, [], []), (21, .iload_n 3, 0, 0, 0, [], []), (22, .ishl, 0, 0, 0, [], []), (23, .ior, 0, 0, 0, [], []), (24, .istore_n 2, 0, 0, 0, [], []), (25, .iinc 3 1, 0, 1, 0, [], []), (28, .goto (-24), 0, 0, 0, [4], []), (31, .iload_n 2, 0, 0, 0, [], []), (32, .ireturn, 0, 0, 0, [], [])]
def zT_W_foundSlots : zT := [(0, .iconst 0, 0, 0, 0, [], []), (1, .istore_n 2, 0, 0, 0, [], []), (2, .iconst 0, 0, 0, 0, [], []), (3, .istore_n 3, 0, 0, 0, [], []), (4, .iload_n 3, 5, 0, 0, [], []), (5, .aload_n 0, 0, 0, 0, [], []), (6, .getfield 25, 0, 0, 0, [5, 6, 1, 47], []), (9, .iload_n 1, 0, 0, 0, [], []), (10, .iaload, 0, 0, 0, [], []), (11, .if_icmp .ge 22, 0, 0, 0, [21], []), (14, .iload_n 2, 0, 0, 0, [], []), (15, .aload_n 0, 0, 0, 0, [], []), (16, .aload_n 0, 0, 0, 0, [], []), (17, .iload_n 1, 0, 0, 0, [], []), (18, .iload_n 3, 0, 0, 0, [], []), (19, .invokevirtual 68, 0, 0, 0, [64, 2, 1, 5, 3, 106], []), (22, .invokevirtual 80, 0, 0, 0, [74, 1, 1, 5, 3, 110], []), (25, .ior, 0, 0, 0, [], []), (26, .istore_n 2, 0, 0, 0, [], []), (27, .iinc 3 1, 0, 1, 0, [], []), (30, .goto (-26), 0, 0, 0, [4], []), (33, .iload_n 2, 0, 0, 0, [], []), (34, .ireturn, 0, 0, 0, [], [])]
def zT_W_hiddenSlots : zT := [(0, .iconst 0, 0, 0, 0, [], []), (1, .istore_n 3, 0, 0, 0, [], []), (2, .iconst 0, 0, 0, 0, [], []), (3, .istore 4, 0, 0, 0, [], []), (5, .iload 4, 5, 0, 0, [], []), (7, .bipush 16, 0, 16, 0, [], []), (9, .if_icmp .ge 37, 0, 0, 0, [26], []), (12, .aload_n 0, 0, 0, 0, [], []), (13, .iload_n 2, 0, 0, 0, [], []), (14, .iload 4, 0, 0, 0, [], []), (16, .invokevirtual 72, 0, 0, 0, [68, 2, 3, 5, 2, 154], []), (19, .ifCond .eq 21, 0, 0, 0, [24], []), (22, .aload_n 0, 0, 0, 0, [], []), (23, .iload_n 1, 0, 0, 0, [], []), (24, .iload 4, 0, 0, 0, [], []), (26, .invokevirtual 84, 0, 0, 0, [73, 2, 1, 5, 3, 149], []), (29, .iload_n 2, 0, 0, 0, [], []), (30, .if_icmp .eq 10, 0, 0, 0, [24], []), (33, .iload_n 3, 0, 0, 0, [], []), (34, .iconst 1, 0, 1, 0, [], []), (35, .iload 4, 0, 0, 0, [], []), (37, .ishl, 0, 0, 0, [], []), (38, .ior, 0, 0, 0, [], []), (39, .istore_n 3, 0, 0, 0, [], []), (40, .iinc 4 1, 0, 1, 0, [], []), (43, .goto (-38), 0, 0, 0, [4], []), (46, .iload_n 3, 0, 0, 0, [], []), (47, .ireturn, 0, 0, 0, [], [])]
def zT_W_family : zT := [(0, .iconst 0, 0, 0, 0, [], []), (1, .istore_n 2, 0, 0, 0, [], []), (2, .iconst 0, 0, 0, 0, [], []), (3, .istore_n 3, 0, 0, 0, [], []), (4, .iload_n 3, 5, 0, 0, [], []), (5, .aload_n 0, 0, 0, 0, [], []), (6, .getfield 43, 0, 0, 0, [5, 0, 1, 33], []), (9, .if_icmp .ge 25, 0, 0, 0, [22], []), (12, .aload_n 0, 0, 0, 0, [], []), (13, .iload_n 3, 0, 0, 0, [], []), (14, .iload_n 1, 0, 0, 0, [], []), (15, .invokevirtual 87, 0, 0, 0, [67, 2, 1, 5, 3, 115], []), (18, .iconst (-1), 0, (-1), 0, [], []), (19, .if_icmp .eq 9, 0, 0, 0, [20], []), (22, .iload_n 2, 0, 0, 0, [], []), (23, .iconst 1, 0, 1, 0, [], []), (24, .iload_n 3, 0, 0, 0, [], []), (25, .ishl, 0, 0, 0, [], []), (26, .ior, 0, 0, 0, [], []), (27, .istore_n 2, 0, 0, 0, [], []), (28, .iinc 3 1, 0, 1, 0, [], []), (31, .goto (-27), 0, 0, 0, [4], []), (34, .iload_n 2, 0, 0, 0, [], []), (35, .ireturn, 0, 0, 0, [], [])]
def zT_W_slotsOfAll : zT := [(0, .iconst 0, 0, 0, 0, [], []), (1, .istore_n 1, 0, 0, 0, [], []), (2, .iconst 0, 0, 0, 0, [], []), (3, .istore_n 2, 0, 0, 0, [], []), (4, .iload_n 2, 5, 0, 0, [], []), (5, .aload_n 0, 0, 0, 0, [], []), (6, .getfield 43, 0, 0, 0, [5, 0, 1, 33], []), (9, .if_icmp .ge 20, 0, 0, 0, [17], []), (12, .iload_n 1, 0, 0, 0, [], []), (13, .aload_n 0, 0, 0, 0, [], []), (14, .iload_n 2, 0, 0, 0, [], []), (15, .invokevirtual 80, 0, 0, 0, [74, 1, 1, 5, 3, 110], []), (18, .invokestatic 90, 0, 0, 0, [215, 1, 1, 0, 4, 95], []), (21, .iadd, 0, 0, 0, [], []), (22, .istore_n 1, 0, 0, 0, [], []), (23, .iinc 2 1, 0, 1, 0, [], []), (26, .goto (-22), 0, 0, 0, [4], []), (29, .iload_n 1, 0, 0, 0, [], []), (30, .ireturn, 0, 0, 0, [], [])]
def zT_W_methodsOfAll : zT := [(0, .iconst 0, 0, 0, 0, [], []), (1, .istore_n 1, 0, 0, 0, [], []), (2, .iconst 0, 0, 0, 0, [], []), (3, .istore_n 2, 0, 0, 0, [], []), (4, .iload_n 2, 5, 0, 0, [], []), (5, .aload_n 0, 0, 0, 0, [], []), (6, .getfield 43, 0, 0, 0, [5, 0, 1, 33], []), (9, .bipush 16, 0, 16, 0, [], []), (11, .imul, 0, 0, 0, [], []), (12, .if_icmp .ge 22, 0, 0, 0, [19], []), (15, .aload_n 0, 0, 0, 0, [], []), (16, .getfield 31, 0, 0, 0, [5, 8, 1, 52], []), (19, .iload_n 2, 0, 0, 0, [], []), (20, .iaload, 0, 0, 0, [], []), (21, .iconst 2, 0, 2, 0, [], []), (22, .if_icmp .ne 6, 0, 0, 0, [17], []), (25, .iinc 1 1, 0, 1, 0, [], []), (28, .iinc 2 1, 0, 1, 0, [], []), (31, .goto (-27), 0, 0, 0, [4], []), (34, .iload_n 1, 0, 0, 0, [], []), (35, .ireturn, 0, 0, 0, [], [])]
def zT_W_draw : zT := [(0, .aload_n 0, 0, 0, 0, [], []), (1, .aload_n 0, 0, 0, 0, [], []), (2, .getfield 9, 0, 0, 0, [5, 2, 1, 39], []), (5, .ldc 95, 0, 1103515245, 0, [4, 90], []), (7, .imul, 0, 0, 0, [], []), (8, .sipush 12345, 0, 12345, 0, [], []), (11, .iadd, 0, 0, 0, [], []), (12, .putfield 9, 0, 0, 0, [5, 2, 0, 1, 39], []), (15, .iload_n 1, 0, 0, 0, [], []), (16, .ifCond .le 15, 0, 0, 0, [17], []), (19, .aload_n 0, 0, 0, 0, [], []), (20, .getfield 9, 0, 0, 0, [5, 2, 1, 39], []), (23, .bipush 16, 0, 16, 0, [], []), (25, .iushr, 0, 0, 0, [], []), (26, .iload_n 1, 0, 0, 0, [], []), (27, .irem, 0, 0, 0, [], []), (28, .goto 4, 0, 0, 0, [18], []), (31, .iconst 0, 0, 0, 0, [], []), (32, .ireturn, 0, 0, 0, [], [])]
def zT_W_takeFrom : zT := [(0, .aload_n 0, 0, 0, 0, [], []), (1, .aload_n 1, 0, 0, 0, [], []), (2, .getfield 43, 0, 0, 0, [5, 0, 1, 33], []), (5, .putfield 43, 0, 0, 0, [5, 0, 0, 1, 33], []), (8, .aload_n 0, 0, 0, 0, [], []), (9, .aload_n 1, 0, 0, 0, [], []), (10, .getfield 96, 0, 0, 0, [5, 1, 1, 37], []), (13, .putfield 96, 0, 0, 0, [5, 1, 0, 1, 37], []), (16, .aload_n 0, 0, 0, 0, [], []), (17, .aload_n 1, 0, 0, 0, [], []), (18, .getfield 9, 0, 0, 0, [5, 2, 1, 39], []), (21, .putfield 9, 0, 0, 0, [5, 2, 0, 1, 39], []), (24, .aload_n 1, 0, 0, 0, [], []), (25, .getfield 15, 0, 0, 0, [5, 3, 1, 41], []), (28, .iconst 0, 0, 0, 0, [], []), (29, .aload_n 0, 0, 0, 0, [], []), (30, .getfield 15, 0, 0, 0, [5, 3, 1, 41], []), (33, .iconst 0, 0, 0, 0, [], []), (34, .bipush 16, 0, 16, 0, [], []), (36, .invokestatic 52, 0, 0, 0, [3, 16], []), (39, .aload_n 1, 0, 0, 0, [], []), (40, .getfield 19, 0, 0, 0, [5, 4, 1, 44], []), (43, .iconst 0, 0, 0, 0, [], []), (44, .aload_n 0, 0, 0, 0, [], []), (45, .getfield 19, 0, 0, 0, [5, 4, 1, 44], []), (48, .iconst 0, 0, 0, 0, [], []), (49, .bipush 16, 0, 16, 0, [], []), (51, .invokestatic 52, 0, 0, 0, [3, 16], []), (54, .aload_n 1, 0, 0, 0, [], []), (55, .getfield 22, 0, 0, 0, [5, 5, 1, 46], []), (58, .iconst 0, 0, 0, 0, [], []), (59, .aload_n 0, 0, 0, 0, [], []), (60, .getfield 22, 0, 0, 0, [5, 5, 1, 46], []), (63, .iconst 0, 0, 0, 0, [], []), (64, .bipush 48, 0, 48, 0, [], []), (66, .invokestatic 52, 0, 0, 0, [3, 16], []), (69, .aload_n 1, 0, 0, 0, [], []), (70, .getfield 25, 0, 0, 0, [5, 6, 1, 47], []), (73, .iconst 0, 0, 0, 0, [], []), (74, .aload_n 0, 0, 0, 0, [], []), (75, .getfield 25, 0, 0, 0, [5, 6, 1, 47], []), (78, .iconst 0, 0, 0, 0, [], []), (79, .bipush 16, 0, 16, 0, [], []), (81, .invokestatic 52, 0, 0, 0, [3, 16], []), (84, .aload_n 1, 0, 0, 0, [], []), (85, .getfield 28, 0, 0, 0, [5, 7, 1, 50], []), (88, .iconst 0, 0, 0, 0, [], []), (89, .aload_n 0, 0, 0, 0, [], []), (90, .getfield 28, 0, 0, 0, [5, 7, 1, 50], []), (93, .iconst 0, 0, 0, 0, [], []), (94, .sipush 256, 0, 256, 0, [], []), (97, .invokestatic 52, 0, 0, 0, [3, 16], []), (100, .aload_n 1, 0, 0, 0, [], []), (101, .getfield 31, 0, 0, 0, [5, 8, 1, 52], []), (104, .iconst 0, 0, 0, 0, [], []), (105, .aload_n 0, 0, 0, 0, [], []), (106, .getfield 31, 0, 0, 0, [5, 8, 1, 52], []), (109, .iconst 0, 0, 0, 0, [], []), (110, .sipush 256, 0, 256, 0, [], []), (113, .invokestatic 52, 0, 0, 0, [3, 16], []), (116, .aload_n 1, 0, 0, 0, [], []), (117, .getfield 34, 0, 0, 0, [5, 9, 1, 55], []), (120, .iconst 0, 0, 0, 0, [], []), (121, .aload_n 0, 0, 0, 0, [], []), (122, .getfield 34, 0, 0, 0, [5, 9, 1, 55], []), (125, .iconst 0, 0, 0, 0, [], []), (126, .sipush 256, 0, 256, 0, [], []), (129, .invokestatic 52, 0, 0, 0, [3, 16], []), (132, .aload_n 1, 0, 0, 0, [], []), (133, .getfield 37, 0, 0, 0, [5, 10, 1, 58], []), (136, .iconst 0, 0, 0, 0, [], []), (137, .aload_n 0, 0, 0, 0, [], []), (138, .getfield 37, 0, 0, 0, [5, 10, 1, 58], []), (141, .iconst 0, 0, 0, 0, [], []), (142, .sipush 256, 0, 256, 0, [], []), (145, .invokestatic 52, 0, 0, 0, [3, 16], []), (148, .aload_n 1, 0, 0, 0, [], []), (149, .getfield 40, 0, 0, 0, [5, 11, 1, 61], []), (152, .iconst 0, 0, 0, 0, [], []), (153, .aload_n 0, 0, 0, 0, [], []), (154, .getfield 40, 0, 0, 0, [5, 11, 1, 61], []), (157, .iconst 0, 0, 0, 0, [], []), (158, .sipush 192, 0, 192, 0, [], []), (161, .invokestatic 52, 0, 0, 0, [3, 16], []), (164, .return_, 0, 0, 0, [], [])]
def zT_X_row : zT := [(0, .aload_n 0, 0, 0, 0, [], []), (1, .getfield 30, 0, 0, 0, [6, 3, 2, 20], []), (4, .iload_n 1, 0, 0, 0, [], []), (5, .invokevirtual 56, 0, 0, 0, [47, 1, 3, 4, 2, 55], []), (8, .ifCond .ne 9, 0, 0, 0, [9], []), (11, .aload_n 0, 0, 0, 0, [], []), (12, .iconst (-1), 0, (-1), 0, [], []), (13, .invokevirtual 60, 0, 0, 0, [117, 1, 1, 6, 2, 59], []), (16, .ireturn, 0, 0, 0, [], []), (17, .iload_n 3, 0, 0, 0, [], []), (18, .ifCond .ge 10, 0, 0, 0, [15], []), (21, .aload_n 0, 0, 0, 0, [], []), (22, .bipush (-4), 0, (-4), 0, [], []), (24, .invokevirtual 60, 0, 0, 0, [117, 1, 1, 6, 2, 59], []), (27, .ireturn, 0, 0, 0, [], []), (28, .iload_n 2, 0, 0, 0, [], []), (29, .ifCond .lt 8, 0, 0, 0, [20], []), (32, .iload_n 2, 0, 0, 0, [], []), (33, .iconst 4, 0, 4, 0, [], []), (34, .if_icmp .lt 10, 0, 0, 0, [24], []), (37, .aload_n 0, 0, 0, 0, [], []), (38, .bipush (-6), 0, (-6), 0, [], []), (40, .invokevirtual 60, 0, 0, 0, [117, 1, 1, 6, 2, 59], []), (43, .ireturn, 0, 0, 0, [], []), (44, .iload_n 3, 0, 0, 0, [], []), (45, .sipush 160, 0, 160, 0, [], []), (48, .if_icmp .le 10, 0, 0, 0, [31], []), (51, .aload_n 0, 0, 0, 0, [], []), (52, .bipush (-7), 0, (-7), 0, [], []), (54, .invokevirtual 60, 0, 0, 0, [117, 1, 1, 6, 2, 59], []), (57, .ireturn, 0, 0, 0, [], []), (58, .aload_n 0, 0, 0, 0, [], []), (59, .getfield 30, 0, 0, 0, [6, 3, 2, 20], []), (62, .iload_n 1, 0, 0, 0, [], []), (63, .iload_n 2, 0, 0, 0, [], []), (64, .iload_n 3, 0, 0, 0, [], []), (65, .invokevirtual 64, 0, 0, 0, [52, 3, 0, 4, 2, 63], []), (68, .iconst 1, 0, 1, 0, [], []), (69, .ireturn, 0, 0, 0, [], [])]
def zT_X_set : zT := [(0, .aload_n 0, 0, 0, 0, [], []), (1, .getfield 30, 0, 0, 0, [6, 3, 2, 20], []), (4, .iload_n 1, 0, 0, 0, [], []), (5, .invokevirtual 68, 0, 0, 0, [51, 1, 1, 4, 2, 77], []), (8, .istore 5, 0, 0, 0, [], []), (10, .iload 5, 0, 0, 0, [], []), (12, .ifCond .eq 10, 0, 0, 0, [11], []), (15, .aload_n 0, 0, 0, 0, [], []), (16, .iload 5, 0, 0, 0, [], []), (18, .invokevirtual 60, 0, 0, 0, [117, 1, 1, 6, 2, 59], []), (21, .ireturn, 0, 0, 0, [], []), (22, .aload_n 0, 0, 0, 0, [], []), (23, .getfield 30, 0, 0, 0, [6, 3, 2, 20], []), (26, .iload_n 1, 0, 0, 0, [], []), (27, .iload_n 2, 0, 0, 0, [], []), (28, .invokevirtual 71, 0, 0, 0, [53, 2, 3, 4, 2, 90], []), (31, .ifCond .ne 10, 0, 0, 0, [21], []), (34, .aload_n 0, 0, 0, 0, [], []), (35, .bipush (-5), 0, (-5), 0, [], []), (37, .invokevirtual 60, 0, 0, 0, [117, 1, 1, 6, 2, 59], []), (40, .ireturn, 0, 0, 0, [], []), (41, .aload_n 0, 0, 0, 0, [], []), (42, .getfield 30, 0, 0, 0, [6, 3, 2, 20], []), (45, .iload_n 1, 0, 0, 0, [], []), (46, .iload_n 2, 0, 0, 0, [], []), (47, .lload_n 3, 0, 0, 0, [], []), (48, .invokevirtual 75, 0, 0, 0, [55, 3, 0, 4, 2, 94], []), (51, .iconst 1, 0, 1, 0, [], []), (52, .ireturn, 0, 0, 0, [], [])]
def zT_X_copy : zT := [(0, .aload_n 0, 0, 0, 0, [], []), (1, .getfield 30, 0, 0, 0, [6, 3, 2, 20], []), (4, .iload_n 1, 0, 0, 0, [], []), (5, .invokevirtual 56, 0, 0, 0, [47, 1, 3, 4, 2, 55], []), (8, .ifCond .eq 14, 0, 0, 0, [10], []), (11, .aload_n 0, 0, 0, 0, [], []), (12, .getfield 30, 0, 0, 0, [6, 3, 2, 20], []), (15, .iload_n 2, 0, 0, 0, [], []), (16, .invokevirtual 56, 0, 0, 0, [47, 1, 3, 4, 2, 55], []), (19, .ifCond .ne 9, 0, 0, 0, [14], []), (22, .aload_n 0, 0, 0, 0, [], []), (23, .iconst (-1), 0, (-1), 0, [], []), (24, .invokevirtual 60, 0, 0, 0, [117, 1, 1, 6, 2, 59], []), (27, .ireturn, 0, 0, 0, [], []), (28, .aload_n 0, 0, 0, 0, [], []), (29, .getfield 30, 0, 0, 0, [6, 3, 2, 20], []), (32, .iload_n 1, 0, 0, 0, [], []), (33, .invokevirtual 79, 0, 0, 0, [49, 1, 3, 4, 2, 102], []), (36, .ifCond .ne 26, 0, 0, 0, [30], []), (39, .aload_n 0, 0, 0, 0, [], []), (40, .getfield 30, 0, 0, 0, [6, 3, 2, 20], []), (43, .iload_n 2, 0, 0, 0, [], []), (44, .invokevirtual 79, 0, 0, 0, [49, 1, 3, 4, 2, 102], []), (47, .ifCond .ne 15, 0, 0, 0, [30], []), (50, .aload_n 0, 0, 0, 0, [], []), (51, .getfield 30, 0, 0, 0, [6, 3, 2, 20], []), (54, .iload_n 1, 0, 0, 0, [], []), (55, .iload_n 2, 0, 0, 0, [], []), (56, .invokevirtual 82, 0, 0, 0, [50, 2, 3, 4, 2, 103], []), (59, .ifCond .eq 10, 0, 0, 0, [34], []), (62, .aload_n 0, 0, 0, 0, [], []), (63, .bipush (-2), 0, (-2), 0, [], []), (65, .invokevirtual 60, 0, 0, 0, [117, 1, 1, 6, 2, 59], []), (68, .ireturn, 0, 0, 0, [], []), (69, .aload_n 0, 0, 0, 0, [], []), (70, .getfield 30, 0, 0, 0, [6, 3, 2, 20], []), (73, .iload_n 1, 0, 0, 0, [], []), (74, .invokevirtual 85, 0, 0, 0, [48, 1, 3, 4, 2, 107], []), (77, .ifCond .eq 14, 0, 0, 0, [44], []), (80, .aload_n 0, 0, 0, 0, [], []), (81, .getfield 30, 0, 0, 0, [6, 3, 2, 20], []), (84, .iload_n 2, 0, 0, 0, [], []), (85, .invokevirtual 85, 0, 0, 0, [48, 1, 3, 4, 2, 107], []), (88, .ifCond .ne 10, 0, 0, 0, [48], []), (91, .aload_n 0, 0, 0, 0, [], []), (92, .bipush (-3), 0, (-3), 0, [], []), (94, .invokevirtual 60, 0, 0, 0, [117, 1, 1, 6, 2, 59], []), (97, .ireturn, 0, 0, 0, [], []), (98, .iload 5, 0, 0, 0, [], []), (100, .ifCond .ge 10, 0, 0, 0, [54], []), (103, .aload_n 0, 0, 0, 0, [], []), (104, .bipush (-4), 0, (-4), 0, [], []), (106, .invokevirtual 60, 0, 0, 0, [117, 1, 1, 6, 2, 59], []), (109, .ireturn, 0, 0, 0, [], []), (110, .aload_n 0, 0, 0, 0, [], []), (111, .getfield 30, 0, 0, 0, [6, 3, 2, 20], []), (114, .iload_n 1, 0, 0, 0, [], []), (115, .iload_n 3, 0, 0, 0, [], []), (116, .iload 5, 0, 0, 0, [], []), (118, .invokevirtual 88, 0, 0, 0, [54, 3, 3, 4, 2, 108], []), (121, .ifCond .eq 18, 0, 0, 0, [68], []), (124, .aload_n 0, 0, 0, 0, [], []), (125, .getfield 30, 0, 0, 0, [6, 3, 2, 20], []), (128, .iload_n 2, 0, 0, 0, [], []), (129, .iload 4, 0, 0, 0, [], []), (131, .iload 5, 0, 0, 0, [], []), (133, .invokevirtual 88, 0, 0, 0, [54, 3, 3, 4, 2, 108], []), (136, .ifCond .ne 10, 0, 0, 0, [72], []), (139, .aload_n 0, 0, 0, 0, [], []), (140, .bipush (-5), 0, (-5), 0, [], []), (142, .invokevirtual 60, 0, 0, 0, [117, 1, 1, 6, 2, 59], []), (145, .ireturn, 0, 0, 0, [], []), (146, .aload_n 0, 0, 0, 0, [], []), (147, .getfield 30, 0, 0, 0, [6, 3, 2, 20], []), (150, .iload_n 1, 0, 0, 0, [], []), (151, .iload_n 2, 0, 0, 0, [], []), (152, .iload_n 3, 0, 0, 0, [], []), (153, .iload 4, 0, 0, 0, [], []), (155, .iload 5, 0, 0, 0, [], []), (157, .invokevirtual 92, 0, 0, 0, [56, 5, 0, 4, 2, 112], []), (160, .iconst 1, 0, 1, 0, [], []), (161, .ireturn, 0, 0, 0, [], [])]
def zT_X_element : zT := [(0, .aload_n 0, 0, 0, 0, [], []), (1, .getfield 30, 0, 0, 0, [6, 3, 2, 20], []), (4, .iload_n 1, 0, 0, 0, [], []), (5, .iload_n 2, 0, 0, 0, [], []), (6, .invokevirtual 71, 0, 0, 0, [53, 2, 3, 4, 2, 90], []), (9, .ifCond .eq 15, 0, 0, 0, [12], []), (12, .aload_n 0, 0, 0, 0, [], []), (13, .getfield 30, 0, 0, 0, [6, 3, 2, 20], []), (16, .iload_n 1, 0, 0, 0, [], []), (17, .iload_n 2, 0, 0, 0, [], []), (18, .invokevirtual 96, 0, 0, 0, [57, 2, 2, 4, 2, 123], []), (21, .goto 4, 0, 0, 0, [13], []), (24, .lconst 0, 0, 0, 0, [], []), (25, .lreturn, 0, 0, 0, [], [])]
def zT_X_show : zT := [(0, .aload_n 0, 0, 0, 0, [], []), (1, .getfield 30, 0, 0, 0, [6, 3, 2, 20], []), (4, .iload_n 1, 0, 0, 0, [], []), (5, .invokevirtual 56, 0, 0, 0, [47, 1, 3, 4, 2, 55], []), (8, .ifCond .eq 19, 0, 0, 0, [13], []), (11, .iload_n 2, 0, 0, 0, [], []), (12, .iconst (-1), 0, (-1), 0, [], []), (13, .if_icmp .eq 20, 0, 0, 0, [17], []), (16, .aload_n 0, 0, 0, 0, [], []), (17, .getfield 20, 0, 0, 0, [6, 1, 2, 18], []), (20, .iload_n 2, 0, 0, 0, [], []), (21, .invokevirtual 100, 0, 0, 0, [60, 1, 3, 5, 2, 131], []), (24, .ifCond .ne 9, 0, 0, 0, [17], []), (27, .aload_n 0, 0, 0, 0, [], []), (28, .iconst (-1), 0, (-1), 0, [], []), (29, .invokevirtual 60, 0, 0, 0, [117, 1, 1, 6, 2, 59], []), (32, .ireturn, 0, 0, 0, [], []), (33, .aload_n 0, 0, 0, 0, [], []), (34, .getfield 30, 0, 0, 0, [6, 3, 2, 20], []), (37, .getfield 103, 0, 0, 0, [4, 0, 1, 183], []), (40, .iload_n 1, 0, 0, 0, [], []), (41, .iload_n 2, 0, 0, 0, [], []), (42, .iastore, 0, 0, 0, [], []), (43, .iload_n 2, 0, 0, 0, [], []), (44, .iconst (-1), 0, (-1), 0, [], []), (45, .if_icmp .ne 7, 0, 0, 0, [28], []), (48, .iconst 0, 0, 0, 0, [], []), (49, .goto 4, 0, 0, 0, [29], []), (52, .iconst 1, 0, 1, 0, [], []), (53, .ireturn, 0, 0, 0, [], [])]
def zT_X_holds : zT := [(0, .aload_n 0, 0, 0, 0, [], []), (1, .getfield 30, 0, 0, 0, [6, 3, 2, 20], []), (4, .iload_n 1, 0, 0, 0, [], []), (5, .invokevirtual 56, 0, 0, 0, [47, 1, 3, 4, 2, 55], []), (8, .ifCond .eq 15, 0, 0, 0, [11], []), (11, .aload_n 0, 0, 0, 0, [], []), (12, .getfield 30, 0, 0, 0, [6, 3, 2, 20], []), (15, .getfield 103, 0, 0, 0, [4, 0, 1, 183], []), (18, .iload_n 1, 0, 0, 0, [], []), (19, .iaload, 0, 0, 0, [], []), (20, .goto 4, 0, 0, 0, [12], []), (23, .iconst (-1), 0, (-1), 0, [], []), (24, .ireturn, 0, 0, 0, [], [])]
def zT_X_says : zT := [(0, .aload_n 0, 0, 0, 0, [], []), (1, .getfield 30, 0, 0, 0, [6, 3, 2, 20], []), (4, .iload_n 1, 0, 0, 0, [], []), (5, .invokevirtual 56, 0, 0, 0, [47, 1, 3, 4, 2, 55], []), (8, .ifCond .eq 10, 0, 0, 0, [8], []), (11, .iload_n 2, 0, 0, 0, [], []), (12, .invokestatic 106, 0, 0, 0, [121, 1, 3, 0, 2, 143], []), (15, .ifCond .ne 9, 0, 0, 0, [12], []), (18, .aload_n 0, 0, 0, 0, [], []), (19, .iconst (-1), 0, (-1), 0, [], []), (20, .invokevirtual 60, 0, 0, 0, [117, 1, 1, 6, 2, 59], []), (23, .ireturn, 0, 0, 0, [], []), (24, .aload_n 0, 0, 0, 0, [], []), (25, .getfield 30, 0, 0, 0, [6, 3, 2, 20], []), (28, .getfield 103, 0, 0, 0, [4, 0, 1, 183], []), (31, .iload_n 1, 0, 0, 0, [], []), (32, .iaload, 0, 0, 0, [], []), (33, .istore_n 3, 0, 0, 0, [], []), (34, .aload_n 0, 0, 0, 0, [], []), (35, .getfield 30, 0, 0, 0, [6, 3, 2, 20], []), (38, .iload_n 1, 0, 0, 0, [], []), (39, .invokevirtual 85, 0, 0, 0, [48, 1, 3, 4, 2, 107], []), (42, .ifCond .ne 26, 0, 0, 0, [34], []), (45, .aload_n 0, 0, 0, 0, [], []), (46, .getfield 30, 0, 0, 0, [6, 3, 2, 20], []), (49, .iload_n 1, 0, 0, 0, [], []), (50, .invokevirtual 79, 0, 0, 0, [49, 1, 3, 4, 2, 102], []), (53, .ifCond .eq 22, 0, 0, 0, [38], []), (56, .aload_n 0, 0, 0, 0, [], []), (57, .getfield 20, 0, 0, 0, [6, 1, 2, 18], []), (60, .iload_n 3, 0, 0, 0, [], []), (61, .iload_n 2, 0, 0, 0, [], []), (62, .invokevirtual 109, 0, 0, 0, [66, 2, 3, 5, 2, 146], []), (65, .ifCond .ne 10, 0, 0, 0, [38], []), (68, .aload_n 0, 0, 0, 0, [], []), (69, .bipush (-2), 0, (-2), 0, [], []), (71, .invokevirtual 60, 0, 0, 0, [117, 1, 1, 6, 2, 59], []), (74, .ireturn, 0, 0, 0, [], []), (75, .iload_n 3, 0, 0, 0, [], []), (76, .iconst (-1), 0, (-1), 0, [], []), (77, .if_icmp .ne 10, 0, 0, 0, [45], []), (80, .aload_n 0, 0, 0, 0, [], []), (81, .bipush (-3), 0, (-3), 0, [], []), (83, .invokevirtual 60, 0, 0, 0, [117, 1, 1, 6, 2, 59], []), (86, .ireturn, 0, 0, 0, [], []), (87, .iload_n 2, 0, 0, 0, [], []), (88, .tableswitch 60 0 2 #[28, 38, 50], 0, 0, 0, [28, 65, 47, 53, 59], []), (116, .aload_n 0, 0, 0, 0, [], []), (117, .getfield 20, 0, 0, 0, [6, 1, 2, 18], []), (120, .getfield 112, 0, 0, 0, [5, 6, 1, 49], []), (123, .iload_n 3, 0, 0, 0, [], []), (124, .iaload, 0, 0, 0, [], []), (125, .ireturn, 0, 0, 0, [], []), (126, .aload_n 0, 0, 0, 0, [], []), (127, .getfield 20, 0, 0, 0, [6, 1, 2, 18], []), (130, .iload_n 3, 0, 0, 0, [], []), (131, .invokevirtual 115, 0, 0, 0, [74, 1, 1, 5, 2, 150], []), (134, .invokestatic 118, 0, 0, 0, [215, 1, 1, 0, 2, 158], []), (137, .ireturn, 0, 0, 0, [], []), (138, .aload_n 0, 0, 0, 0, [], []), (139, .getfield 20, 0, 0, 0, [6, 1, 2, 18], []), (142, .getfield 123, 0, 0, 0, [5, 4, 1, 45], []), (145, .iload_n 3, 0, 0, 0, [], []), (146, .iaload, 0, 0, 0, [], []), (147, .ireturn, 0, 0, 0, [], []), (148, .aload_n 0, 0, 0, 0, [], []), (149, .getfield 20, 0, 0, 0, [6, 1, 2, 18], []), (152, .iload_n 3, 0, 0, 0, [], []), (153, .invokevirtual 115, 0, 0, 0, [74, 1, 1, 5, 2, 150], []), (156, .ireturn, 0, 0, 0, [], [])]
def zT_X_read : zT := [(0, .aload_n 0, 0, 0, 0, [], []), (1, .getfield 30, 0, 0, 0, [6, 3, 2, 20], []), (4, .iload_n 1, 0, 0, 0, [], []), (5, .invokevirtual 68, 0, 0, 0, [51, 1, 1, 4, 2, 77], []), (8, .istore_n 2, 0, 0, 0, [], []), (9, .iload_n 2, 0, 0, 0, [], []), (10, .ifCond .eq 9, 0, 0, 0, [11], []), (13, .aload_n 0, 0, 0, 0, [], []), (14, .iload_n 2, 0, 0, 0, [], []), (15, .invokevirtual 60, 0, 0, 0, [117, 1, 1, 6, 2, 59], []), (18, .ireturn, 0, 0, 0, [], []), (19, .aload_n 0, 0, 0, 0, [], []), (20, .getfield 44, 0, 0, 0, [6, 5, 2, 22], []), (23, .aload_n 0, 0, 0, 0, [], []), (24, .getfield 30, 0, 0, 0, [6, 3, 2, 20], []), (27, .iload_n 1, 0, 0, 0, [], []), (28, .invokevirtual 126, 0, 0, 0, [16, 2, 0, 2, 2, 168], []), (31, .aload_n 0, 0, 0, 0, [], []), (32, .aload_n 0, 0, 0, 0, [], []), (33, .getfield 44, 0, 0, 0, [6, 5, 2, 22], []), (36, .aload_n 0, 0, 0, 0, [], []), (37, .getfield 20, 0, 0, 0, [6, 1, 2, 18], []), (40, .aload_n 0, 0, 0, 0, [], []), (41, .getfield 37, 0, 0, 0, [6, 4, 2, 21], []), (44, .invokevirtual 129, 0, 0, 0, [17, 2, 1, 2, 2, 176], []), (47, .putfield 52, 0, 0, 0, [6, 8, 0, 2, 25], []), (50, .aload_n 0, 0, 0, 0, [], []), (51, .getfield 52, 0, 0, 0, [6, 8, 2, 25], []), (54, .iconst (-1), 0, (-1), 0, [], []), (55, .if_icmp .ne 13, 0, 0, 0, [34], []), (58, .aload_n 0, 0, 0, 0, [], []), (59, .getfield 44, 0, 0, 0, [6, 5, 2, 22], []), (62, .getfield 133, 0, 0, 0, [2, 0, 1, 238], []), (65, .goto 9, 0, 0, 0, [37], []), (68, .aload_n 0, 0, 0, 0, [], []), (69, .bipush (-6), 0, (-6), 0, [], []), (71, .invokevirtual 60, 0, 0, 0, [117, 1, 1, 6, 2, 59], []), (74, .ireturn, 0, 0, 0, [], [])]
def zT_X_fault : zT := [(0, .aload_n 0, 0, 0, 0, [], []), (1, .getfield 52, 0, 0, 0, [6, 8, 2, 25], []), (4, .ireturn, 0, 0, 0, [], [])]
def zT_X_make : zT := [(0, .iload_n 1, 0, 0, 0, [], []), (1, .invokestatic 106, 0, 0, 0, [121, 1, 3, 0, 2, 143], []), (4, .ifCond .ne 9, 0, 0, 0, [7], []), (7, .aload_n 0, 0, 0, 0, [], []), (8, .iconst (-1), 0, (-1), 0, [], []), (9, .invokevirtual 60, 0, 0, 0, [117, 1, 1, 6, 2, 59], []), (12, .ireturn, 0, 0, 0, [], []), (13, .aload_n 0, 0, 0, 0, [], []), (14, .iload_n 2, 0, 0, 0, [], []), (15, .iload_n 3, 0, 0, 0, [], []), (16, .iload 4, 0, 0, 0, [], []), (18, .iload 5, 0, 0, 0, [], []), (20, .invokevirtual 136, 0, 0, 0, [119, 4, 1, 6, 3, 49], []), (23, .istore 6, 0, 0, 0, [], []), (25, .iload 6, 0, 0, 0, [], []), (27, .ifCond .eq 10, 0, 0, 0, [20], []), (30, .aload_n 0, 0, 0, 0, [], []), (31, .iload 6, 0, 0, 0, [], []), (33, .invokevirtual 60, 0, 0, 0, [117, 1, 1, 6, 2, 59], []), (36, .ireturn, 0, 0, 0, [], []), (37, .aload_n 0, 0, 0, 0, [], []), (38, .getfield 37, 0, 0, 0, [6, 4, 2, 21], []), (41, .aload_n 0, 0, 0, 0, [], []), (42, .getfield 20, 0, 0, 0, [6, 1, 2, 18], []), (45, .invokevirtual 140, 0, 0, 0, [10, 1, 3, 1, 3, 61], []), (48, .ifCond .ne 10, 0, 0, 0, [30], []), (51, .aload_n 0, 0, 0, 0, [], []), (52, .bipush (-6), 0, (-6), 0, [], []), (54, .invokevirtual 60, 0, 0, 0, [117, 1, 1, 6, 2, 59], []), (57, .ireturn, 0, 0, 0, [], []), (58, .aload_n 0, 0, 0, 0, [], []), (59, .getfield 20, 0, 0, 0, [6, 1, 2, 18], []), (62, .invokevirtual 144, 0, 0, 0, [61, 0, 3, 5, 3, 62], []), (65, .ifCond .eq 10, 0, 0, 0, [38], []), (68, .aload_n 0, 0, 0, 0, [], []), (69, .bipush (-7), 0, (-7), 0, [], []), (71, .invokevirtual 60, 0, 0, 0, [117, 1, 1, 6, 2, 59], []), (74, .ireturn, 0, 0, 0, [], []), (75, .aload_n 0, 0, 0, 0, [], []), (76, .getfield 20, 0, 0, 0, [6, 1, 2, 18], []), (79, .iload_n 1, 0, 0, 0, [], []), (80, .aload_n 0, 0, 0, 0, [], []), (81, .getfield 37, 0, 0, 0, [6, 4, 2, 21], []), (84, .invokevirtual 148, 0, 0, 0, [62, 2, 1, 5, 3, 63], []), (87, .ireturn, 0, 0, 0, [], [])]
def zT_X_wouldBe : zT := [(0, .aload_n 0, 0, 0, 0, [], []), (1, .iload_n 1, 0, 0, 0, [], []), (2, .iload_n 2, 0, 0, 0, [], []), (3, .iload_n 3, 0, 0, 0, [], []), (4, .iload 4, 0, 0, 0, [], []), (6, .invokevirtual 136, 0, 0, 0, [119, 4, 1, 6, 3, 49], []), (9, .istore 6, 0, 0, 0, [], []), (11, .iload 6, 0, 0, 0, [], []), (13, .ifCond .eq 10, 0, 0, 0, [13], []), (16, .aload_n 0, 0, 0, 0, [], []), (17, .iload 6, 0, 0, 0, [], []), (19, .invokevirtual 152, 0, 0, 0, [118, 1, 1, 6, 3, 68], []), (22, .ireturn, 0, 0, 0, [], []), (23, .aload_n 0, 0, 0, 0, [], []), (24, .getfield 37, 0, 0, 0, [6, 4, 2, 21], []), (27, .aload_n 0, 0, 0, 0, [], []), (28, .getfield 20, 0, 0, 0, [6, 1, 2, 18], []), (31, .invokevirtual 140, 0, 0, 0, [10, 1, 3, 1, 3, 61], []), (34, .ifCond .ne 6, 0, 0, 0, [21], []), (37, .bipush 99, 0, 99, 0, [], []), (39, .ireturn, 0, 0, 0, [], []), (40, .iload 5, 0, 0, 0, [], []), (42, .iconst (-1), 0, (-1), 0, [], []), (43, .if_icmp .ne 11, 0, 0, 0, [28], []), (46, .aload_n 0, 0, 0, 0, [], []), (47, .getfield 37, 0, 0, 0, [6, 4, 2, 21], []), (50, .getfield 155, 0, 0, 0, [1, 3, 1, 212], []), (53, .ireturn, 0, 0, 0, [], []), (54, .iload 5, 0, 0, 0, [], []), (56, .ifCond .lt 28, 0, 0, 0, [41], []), (59, .iload 5, 0, 0, 0, [], []), (61, .aload_n 0, 0, 0, 0, [], []), (62, .getfield 37, 0, 0, 0, [6, 4, 2, 21], []), (65, .getfield 155, 0, 0, 0, [1, 3, 1, 212], []), (68, .if_icmp .ge 16, 0, 0, 0, [41], []), (71, .aload_n 0, 0, 0, 0, [], []), (72, .getfield 37, 0, 0, 0, [6, 4, 2, 21], []), (75, .getfield 158, 0, 0, 0, [1, 2, 1, 209], []), (78, .iload 5, 0, 0, 0, [], []), (80, .iaload, 0, 0, 0, [], []), (81, .goto 4, 0, 0, 0, [42], []), (84, .iconst (-1), 0, (-1), 0, [], []), (85, .ireturn, 0, 0, 0, [], [])]
def zT_X_value : zT := [(0, .aload_n 0, 0, 0, 0, [], []), (1, .getfield 20, 0, 0, 0, [6, 1, 2, 18], []), (4, .iload_n 1, 0, 0, 0, [], []), (5, .invokevirtual 100, 0, 0, 0, [60, 1, 3, 5, 2, 131], []), (8, .ifCond .eq 10, 0, 0, 0, [8], []), (11, .iload_n 2, 0, 0, 0, [], []), (12, .invokestatic 161, 0, 0, 0, [122, 1, 3, 0, 3, 76], []), (15, .ifCond .ne 9, 0, 0, 0, [12], []), (18, .aload_n 0, 0, 0, 0, [], []), (19, .iconst (-1), 0, (-1), 0, [], []), (20, .invokevirtual 60, 0, 0, 0, [117, 1, 1, 6, 2, 59], []), (23, .ireturn, 0, 0, 0, [], []), (24, .aload_n 0, 0, 0, 0, [], []), (25, .getfield 20, 0, 0, 0, [6, 1, 2, 18], []), (28, .getfield 164, 0, 0, 0, [5, 3, 1, 43], []), (31, .iload_n 1, 0, 0, 0, [], []), (32, .iaload, 0, 0, 0, [], []), (33, .iconst 3, 0, 3, 0, [], []), (34, .if_icmp .ne 10, 0, 0, 0, [23], []), (37, .aload_n 0, 0, 0, 0, [], []), (38, .bipush (-6), 0, (-6), 0, [], []), (40, .invokevirtual 60, 0, 0, 0, [117, 1, 1, 6, 2, 59], []), (43, .ireturn, 0, 0, 0, [], []), (44, .aload_n 0, 0, 0, 0, [], []), (45, .getfield 20, 0, 0, 0, [6, 1, 2, 18], []), (48, .iload_n 1, 0, 0, 0, [], []), (49, .iload_n 2, 0, 0, 0, [], []), (50, .invokevirtual 167, 0, 0, 0, [68, 2, 3, 5, 3, 79], []), (53, .ifCond .eq 7, 0, 0, 0, [31], []), (56, .iconst 1, 0, 1, 0, [], []), (57, .goto 4, 0, 0, 0, [32], []), (60, .iconst 0, 0, 0, 0, [], []), (61, .istore 4, 0, 0, 0, [], []), (63, .aload_n 0, 0, 0, 0, [], []), (64, .getfield 20, 0, 0, 0, [6, 1, 2, 18], []), (67, .iload_n 1, 0, 0, 0, [], []), (68, .iload_n 2, 0, 0, 0, [], []), (69, .iload_n 3, 0, 0, 0, [], []), (70, .invokevirtual 170, 0, 0, 0, [69, 3, 0, 5, 3, 80], []), (73, .iload 4, 0, 0, 0, [], []), (75, .ireturn, 0, 0, 0, [], [])]
def zT_X_method : zT := [(0, .aload_n 0, 0, 0, 0, [], []), (1, .getfield 20, 0, 0, 0, [6, 1, 2, 18], []), (4, .iload_n 1, 0, 0, 0, [], []), (5, .invokevirtual 100, 0, 0, 0, [60, 1, 3, 5, 2, 131], []), (8, .ifCond .eq 10, 0, 0, 0, [8], []), (11, .iload_n 2, 0, 0, 0, [], []), (12, .invokestatic 161, 0, 0, 0, [122, 1, 3, 0, 3, 76], []), (15, .ifCond .ne 9, 0, 0, 0, [12], []), (18, .aload_n 0, 0, 0, 0, [], []), (19, .iconst (-1), 0, (-1), 0, [], []), (20, .invokevirtual 60, 0, 0, 0, [117, 1, 1, 6, 2, 59], []), (23, .ireturn, 0, 0, 0, [], []), (24, .iload_n 3, 0, 0, 0, [], []), (25, .iload 4, 0, 0, 0, [], []), (27, .invokestatic 173, 0, 0, 0, [125, 2, 3, 0, 3, 85], []), (30, .ifCond .eq 16, 0, 0, 0, [23], []), (33, .aload_n 0, 0, 0, 0, [], []), (34, .getfield 20, 0, 0, 0, [6, 1, 2, 18], []), (37, .getfield 164, 0, 0, 0, [5, 3, 1, 43], []), (40, .iload_n 1, 0, 0, 0, [], []), (41, .iaload, 0, 0, 0, [], []), (42, .iconst 3, 0, 3, 0, [], []), (43, .if_icmp .ne 10, 0, 0, 0, [27], []), (46, .aload_n 0, 0, 0, 0, [], []), (47, .bipush (-6), 0, (-6), 0, [], []), (49, .invokevirtual 60, 0, 0, 0, [117, 1, 1, 6, 2, 59], []), (52, .ireturn, 0, 0, 0, [], []), (53, .aload_n 0, 0, 0, 0, [], []), (54, .getfield 20, 0, 0, 0, [6, 1, 2, 18], []), (57, .iload_n 1, 0, 0, 0, [], []), (58, .iload_n 2, 0, 0, 0, [], []), (59, .invokevirtual 167, 0, 0, 0, [68, 2, 3, 5, 3, 79], []), (62, .ifCond .eq 7, 0, 0, 0, [35], []), (65, .iconst 1, 0, 1, 0, [], []), (66, .goto 4, 0, 0, 0, [36], []), (69, .iconst 0, 0, 0, 0, [], []), (70, .istore 5, 0, 0, 0, [], []), (72, .aload_n 0, 0, 0, 0, [], []), (73, .getfield 20, 0, 0, 0, [6, 1, 2, 18], []), (76, .iload_n 1, 0, 0, 0, [], []), (77, .iload_n 2, 0, 0, 0, [], []), (78, .iload_n 3, 0, 0, 0, [], []), (79, .iload 4, 0, 0, 0, [], []), (81, .invokevirtual 176, 0, 0, 0, [70, 4, 0, 5, 3, 88], []), (84, .iload 5, 0, 0, 0, [], []), (86, .ireturn, 0, 0, 0, [], [])]
def zT_X_remove : zT := [(0, .aload_n 0, 0, 0, 0, [], []), (1, .getfield 20, 0, 0, 0, [6, 1, 2, 18], []), (4, .iload_n 1, 0, 0, 0, [], []), (5, .invokevirtual 100, 0, 0, 0, [60, 1, 3, 5, 2, 131], []), (8, .ifCond .eq 10, 0, 0, 0, [8], []), (11, .iload_n 2, 0, 0, 0, [], []), (12, .invokestatic 161, 0, 0, 0, [122, 1, 3, 0, 3, 76], []), (15, .ifCond .ne 9, 0, 0, 0, [12], []), (18, .aload_n 0, 0, 0, 0, [], []), (19, .iconst (-1), 0, (-1), 0, [], []), (20, .invokevirtual 60, 0, 0, 0, [117, 1, 1, 6, 2, 59], []), (23, .ireturn, 0, 0, 0, [], []), (24, .aload_n 0, 0, 0, 0, [], []), (25, .getfield 20, 0, 0, 0, [6, 1, 2, 18], []), (28, .iload_n 1, 0, 0, 0, [], []), (29, .iload_n 2, 0, 0, 0, [], []), (30, .invokevirtual 167, 0, 0, 0, [68, 2, 3, 5, 3, 79], []), (33, .ifCond .ne 10, 0, 0, 0, [22], []), (36, .aload_n 0, 0, 0, 0, [], []), (37, .bipush (-5), 0, (-5), 0, [], []), (39, .invokevirtual 60, 0, 0, 0, [117, 1, 1, 6, 2, 59], []), (42, .ireturn, 0, 0, 0, [], []), (43, .aload_n 0, 0, 0, 0, [], []), (44, .getfield 20, 0, 0, 0, [6, 1, 2, 18], []), (47, .getfield 164, 0, 0, 0, [5, 3, 1, 43], []), (50, .iload_n 1, 0, 0, 0, [], []), (51, .iaload, 0, 0, 0, [], []), (52, .iconst 3, 0, 3, 0, [], []), (53, .if_icmp .ne 10, 0, 0, 0, [33], []), (56, .aload_n 0, 0, 0, 0, [], []), (57, .bipush (-6), 0, (-6), 0, [], []), (59, .invokevirtual 60, 0, 0, 0, [117, 1, 1, 6, 2, 59], []), (62, .ireturn, 0, 0, 0, [], []), (63, .aload_n 0, 0, 0, 0, [], []), (64, .getfield 20, 0, 0, 0, [6, 1, 2, 18], []), (67, .iload_n 1, 0, 0, 0, [], []), (68, .iload_n 2, 0, 0, 0, [], []), (69, .invokevirtual 180, 0, 0, 0, [71, 2, 0, 5, 3, 93], []), (72, .iconst 1, 0, 1, 0, [], []), (73, .ireturn, 0, 0, 0, [], [])]
def zT_X_objectOf : zT := [(0, .aload_n 0, 0, 0, 0, [], []), (1, .getfield 20, 0, 0, 0, [6, 1, 2, 18], []), (4, .iload_n 1, 0, 0, 0, [], []), (5, .invokevirtual 100, 0, 0, 0, [60, 1, 3, 5, 2, 131], []), (8, .ifCond .ne 10, 0, 0, 0, [9], []), (11, .aload_n 0, 0, 0, 0, [], []), (12, .bipush (-5), 0, (-5), 0, [], []), (14, .invokevirtual 60, 0, 0, 0, [117, 1, 1, 6, 2, 59], []), (17, .ireturn, 0, 0, 0, [], []), (18, .iload_n 2, 0, 0, 0, [], []), (19, .tableswitch 118 0 8 #[49, 59, 69, 69, 69, 81, 90, 99, 109], 0, 0, 0, [49, 52, 11, 17, 23, 23, 23, 31, 36, 41, 47], []), (68, .aload_n 0, 0, 0, 0, [], []), (69, .getfield 20, 0, 0, 0, [6, 1, 2, 18], []), (72, .getfield 164, 0, 0, 0, [5, 3, 1, 43], []), (75, .iload_n 1, 0, 0, 0, [], []), (76, .iaload, 0, 0, 0, [], []), (77, .ireturn, 0, 0, 0, [], []), (78, .aload_n 0, 0, 0, 0, [], []), (79, .getfield 20, 0, 0, 0, [6, 1, 2, 18], []), (82, .getfield 123, 0, 0, 0, [5, 4, 1, 45], []), (85, .iload_n 1, 0, 0, 0, [], []), (86, .iaload, 0, 0, 0, [], []), (87, .ireturn, 0, 0, 0, [], []), (88, .aload_n 0, 0, 0, 0, [], []), (89, .getfield 20, 0, 0, 0, [6, 1, 2, 18], []), (92, .iload_n 1, 0, 0, 0, [], []), (93, .iload_n 2, 0, 0, 0, [], []), (94, .iconst 2, 0, 2, 0, [], []), (95, .isub, 0, 0, 0, [], []), (96, .invokevirtual 184, 0, 0, 0, [63, 2, 1, 5, 3, 98], []), (99, .ireturn, 0, 0, 0, [], []), (100, .aload_n 0, 0, 0, 0, [], []), (101, .getfield 20, 0, 0, 0, [6, 1, 2, 18], []), (104, .iload_n 1, 0, 0, 0, [], []), (105, .invokevirtual 115, 0, 0, 0, [74, 1, 1, 5, 2, 150], []), (108, .ireturn, 0, 0, 0, [], []), (109, .aload_n 0, 0, 0, 0, [], []), (110, .getfield 20, 0, 0, 0, [6, 1, 2, 18], []), (113, .iload_n 1, 0, 0, 0, [], []), (114, .invokevirtual 188, 0, 0, 0, [75, 1, 1, 5, 3, 102], []), (117, .ireturn, 0, 0, 0, [], []), (118, .aload_n 0, 0, 0, 0, [], []), (119, .getfield 20, 0, 0, 0, [6, 1, 2, 18], []), (122, .getfield 112, 0, 0, 0, [5, 6, 1, 49], []), (125, .iload_n 1, 0, 0, 0, [], []), (126, .iaload, 0, 0, 0, [], []), (127, .ireturn, 0, 0, 0, [], []), (128, .aload_n 0, 0, 0, 0, [], []), (129, .getfield 20, 0, 0, 0, [6, 1, 2, 18], []), (132, .iload_n 1, 0, 0, 0, [], []), (133, .invokevirtual 191, 0, 0, 0, [77, 1, 1, 5, 3, 111], []), (136, .ireturn, 0, 0, 0, [], []), (137, .aload_n 0, 0, 0, 0, [], []), (138, .bipush (-5), 0, (-5), 0, [], []), (140, .invokevirtual 60, 0, 0, 0, [117, 1, 1, 6, 2, 59], []), (143, .ireturn, 0, 0, 0, [], [])]
def zT_X_order : zT := [(0, .aload_n 0, 0, 0, 0, [], []), (1, .getfield 20, 0, 0, 0, [6, 1, 2, 18], []), (4, .iload_n 1, 0, 0, 0, [], []), (5, .invokevirtual 100, 0, 0, 0, [60, 1, 3, 5, 2, 131], []), (8, .ifCond .ne 9, 0, 0, 0, [9], []), (11, .aload_n 0, 0, 0, 0, [], []), (12, .iconst (-1), 0, (-1), 0, [], []), (13, .invokevirtual 152, 0, 0, 0, [118, 1, 1, 6, 3, 68], []), (16, .ireturn, 0, 0, 0, [], []), (17, .iload_n 2, 0, 0, 0, [], []), (18, .ifCond .lt 28, 0, 0, 0, [24], []), (21, .iload_n 2, 0, 0, 0, [], []), (22, .aload_n 0, 0, 0, 0, [], []), (23, .getfield 20, 0, 0, 0, [6, 1, 2, 18], []), (26, .getfield 112, 0, 0, 0, [5, 6, 1, 49], []), (29, .iload_n 1, 0, 0, 0, [], []), (30, .iaload, 0, 0, 0, [], []), (31, .if_icmp .ge 15, 0, 0, 0, [24], []), (34, .aload_n 0, 0, 0, 0, [], []), (35, .getfield 20, 0, 0, 0, [6, 1, 2, 18], []), (38, .iload_n 1, 0, 0, 0, [], []), (39, .iload_n 2, 0, 0, 0, [], []), (40, .invokevirtual 194, 0, 0, 0, [64, 2, 1, 5, 3, 123], []), (43, .goto 4, 0, 0, 0, [25], []), (46, .iconst (-1), 0, (-1), 0, [], []), (47, .ireturn, 0, 0, 0, [], [])]
def zT_X_distance : zT := [(0, .aload_n 0, 0, 0, 0, [], []), (1, .getfield 20, 0, 0, 0, [6, 1, 2, 18], []), (4, .iload_n 1, 0, 0, 0, [], []), (5, .invokevirtual 100, 0, 0, 0, [60, 1, 3, 5, 2, 131], []), (8, .ifCond .eq 14, 0, 0, 0, [10], []), (11, .aload_n 0, 0, 0, 0, [], []), (12, .getfield 20, 0, 0, 0, [6, 1, 2, 18], []), (15, .iload_n 2, 0, 0, 0, [], []), (16, .invokevirtual 100, 0, 0, 0, [60, 1, 3, 5, 2, 131], []), (19, .ifCond .ne 9, 0, 0, 0, [14], []), (22, .aload_n 0, 0, 0, 0, [], []), (23, .iconst (-1), 0, (-1), 0, [], []), (24, .invokevirtual 152, 0, 0, 0, [118, 1, 1, 6, 3, 68], []), (27, .ireturn, 0, 0, 0, [], []), (28, .aload_n 0, 0, 0, 0, [], []), (29, .getfield 20, 0, 0, 0, [6, 1, 2, 18], []), (32, .iload_n 1, 0, 0, 0, [], []), (33, .iload_n 2, 0, 0, 0, [], []), (34, .invokevirtual 197, 0, 0, 0, [67, 2, 1, 5, 3, 128], []), (37, .ireturn, 0, 0, 0, [], [])]
def zT_X_where : zT := [(0, .aload_n 0, 0, 0, 0, [], []), (1, .getfield 20, 0, 0, 0, [6, 1, 2, 18], []), (4, .iload_n 1, 0, 0, 0, [], []), (5, .invokevirtual 100, 0, 0, 0, [60, 1, 3, 5, 2, 131], []), (8, .ifCond .eq 10, 0, 0, 0, [8], []), (11, .iload_n 2, 0, 0, 0, [], []), (12, .invokestatic 161, 0, 0, 0, [122, 1, 3, 0, 3, 76], []), (15, .ifCond .ne 9, 0, 0, 0, [12], []), (18, .aload_n 0, 0, 0, 0, [], []), (19, .iconst (-1), 0, (-1), 0, [], []), (20, .invokevirtual 152, 0, 0, 0, [118, 1, 1, 6, 3, 68], []), (23, .ireturn, 0, 0, 0, [], []), (24, .aload_n 0, 0, 0, 0, [], []), (25, .getfield 20, 0, 0, 0, [6, 1, 2, 18], []), (28, .iload_n 1, 0, 0, 0, [], []), (29, .iload_n 2, 0, 0, 0, [], []), (30, .invokevirtual 200, 0, 0, 0, [73, 2, 1, 5, 3, 133], []), (33, .ireturn, 0, 0, 0, [], [])]
def zT_X_hidden : zT := [(0, .aload_n 0, 0, 0, 0, [], []), (1, .getfield 20, 0, 0, 0, [6, 1, 2, 18], []), (4, .iload_n 1, 0, 0, 0, [], []), (5, .invokevirtual 100, 0, 0, 0, [60, 1, 3, 5, 2, 131], []), (8, .ifCond .eq 14, 0, 0, 0, [10], []), (11, .aload_n 0, 0, 0, 0, [], []), (12, .getfield 20, 0, 0, 0, [6, 1, 2, 18], []), (15, .iload_n 2, 0, 0, 0, [], []), (16, .invokevirtual 100, 0, 0, 0, [60, 1, 3, 5, 2, 131], []), (19, .ifCond .ne 9, 0, 0, 0, [14], []), (22, .aload_n 0, 0, 0, 0, [], []), (23, .iconst (-1), 0, (-1), 0, [], []), (24, .invokevirtual 60, 0, 0, 0, [117, 1, 1, 6, 2, 59], []), (27, .ireturn, 0, 0, 0, [], []), (28, .aload_n 0, 0, 0, 0, [], []), (29, .getfield 20, 0, 0, 0, [6, 1, 2, 18], []), (32, .iload_n 1, 0, 0, 0, [], []), (33, .iload_n 2, 0, 0, 0, [], []), (34, .invokevirtual 197, 0, 0, 0, [67, 2, 1, 5, 3, 128], []), (37, .iconst (-1), 0, (-1), 0, [], []), (38, .if_icmp .ne 10, 0, 0, 0, [25], []), (41, .aload_n 0, 0, 0, 0, [], []), (42, .bipush (-6), 0, (-6), 0, [], []), (44, .invokevirtual 60, 0, 0, 0, [117, 1, 1, 6, 2, 59], []), (47, .ireturn, 0, 0, 0, [], []), (48, .aload_n 0, 0, 0, 0, [], []), (49, .getfield 20, 0, 0, 0, [6, 1, 2, 18], []), (52, .iload_n 1, 0, 0, 0, [], []), (53, .iload_n 2, 0, 0, 0, [], []), (54, .invokevirtual 203, 0, 0, 0, [76, 2, 1, 5, 3, 145], []), (57, .ireturn, 0, 0, 0, [], [])]
def zT_X_slotOf : zT := [(0, .aload_n 0, 0, 0, 0, [], []), (1, .getfield 20, 0, 0, 0, [6, 1, 2, 18], []), (4, .iload_n 1, 0, 0, 0, [], []), (5, .invokevirtual 100, 0, 0, 0, [60, 1, 3, 5, 2, 131], []), (8, .ifCond .eq 22, 0, 0, 0, [14], []), (11, .iload_n 2, 0, 0, 0, [], []), (12, .invokestatic 161, 0, 0, 0, [122, 1, 3, 0, 3, 76], []), (15, .ifCond .eq 15, 0, 0, 0, [14], []), (18, .aload_n 0, 0, 0, 0, [], []), (19, .getfield 20, 0, 0, 0, [6, 1, 2, 18], []), (22, .iload_n 1, 0, 0, 0, [], []), (23, .iload_n 2, 0, 0, 0, [], []), (24, .invokevirtual 167, 0, 0, 0, [68, 2, 3, 5, 3, 79], []), (27, .ifCond .ne 5, 0, 0, 0, [16], []), (30, .iconst 0, 0, 0, 0, [], []), (31, .ireturn, 0, 0, 0, [], []), (32, .iload_n 1, 0, 0, 0, [], []), (33, .bipush 16, 0, 16, 0, [], []), (35, .imul, 0, 0, 0, [], []), (36, .iload_n 2, 0, 0, 0, [], []), (37, .iadd, 0, 0, 0, [], []), (38, .istore 4, 0, 0, 0, [], []), (40, .iload_n 3, 0, 0, 0, [], []), (41, .tableswitch 69 0 2 #[27, 47, 58], 0, 0, 0, [27, 47, 24, 35, 41], []), (68, .aload_n 0, 0, 0, 0, [], []), (69, .getfield 20, 0, 0, 0, [6, 1, 2, 18], []), (72, .getfield 206, 0, 0, 0, [5, 8, 1, 54], []), (75, .iload 4, 0, 0, 0, [], []), (77, .iaload, 0, 0, 0, [], []), (78, .iconst 2, 0, 2, 0, [], []), (79, .if_icmp .ne 7, 0, 0, 0, [33], []), (82, .iconst 1, 0, 1, 0, [], []), (83, .goto 4, 0, 0, 0, [34], []), (86, .iconst 0, 0, 0, 0, [], []), (87, .ireturn, 0, 0, 0, [], []), (88, .aload_n 0, 0, 0, 0, [], []), (89, .getfield 20, 0, 0, 0, [6, 1, 2, 18], []), (92, .getfield 209, 0, 0, 0, [5, 9, 1, 57], []), (95, .iload 4, 0, 0, 0, [], []), (97, .iaload, 0, 0, 0, [], []), (98, .ireturn, 0, 0, 0, [], []), (99, .aload_n 0, 0, 0, 0, [], []), (100, .getfield 20, 0, 0, 0, [6, 1, 2, 18], []), (103, .getfield 212, 0, 0, 0, [5, 10, 1, 60], []), (106, .iload 4, 0, 0, 0, [], []), (108, .iaload, 0, 0, 0, [], []), (109, .ireturn, 0, 0, 0, [], []), (110, .iconst 0, 0, 0, 0, [], []), (111, .ireturn, 0, 0, 0, [], [])]
def zT_X_send : zT := [(0, .aload_n 0, 0, 0, 0, [], []), (1, .getfield 20, 0, 0, 0, [6, 1, 2, 18], []), (4, .iload_n 1, 0, 0, 0, [], []), (5, .invokevirtual 100, 0, 0, 0, [60, 1, 3, 5, 2, 131], []), (8, .ifCond .eq 10, 0, 0, 0, [8], []), (11, .iload_n 2, 0, 0, 0, [], []), (12, .invokestatic 161, 0, 0, 0, [122, 1, 3, 0, 3, 76], []), (15, .ifCond .ne 9, 0, 0, 0, [12], []), (18, .aload_n 0, 0, 0, 0, [], []), (19, .iconst (-1), 0, (-1), 0, [], []), (20, .invokevirtual 60, 0, 0, 0, [117, 1, 1, 6, 2, 59], []), (23, .ireturn, 0, 0, 0, [], []), (24, .aload_n 0, 0, 0, 0, [], []), (25, .getfield 10, 0, 0, 0, [6, 0, 2, 17], []), (28, .invokevirtual 215, 0, 0, 0, [28, 0, 0, 3, 3, 158], []), (31, .aload_n 0, 0, 0, 0, [], []), (32, .getfield 10, 0, 0, 0, [6, 0, 2, 17], []), (35, .iload_n 1, 0, 0, 0, [], []), (36, .iload_n 2, 0, 0, 0, [], []), (37, .iload_n 3, 0, 0, 0, [], []), (38, .invokevirtual 218, 0, 0, 0, [29, 3, 1, 3, 3, 162], []), (41, .istore 4, 0, 0, 0, [], []), (43, .aload_n 0, 0, 0, 0, [], []), (44, .aload_n 0, 0, 0, 0, [], []), (45, .getfield 10, 0, 0, 0, [6, 0, 2, 17], []), (48, .getfield 222, 0, 0, 0, [3, 5, 1, 121], []), (51, .putfield 225, 0, 0, 0, [6, 9, 0, 2, 26], []), (54, .aload_n 0, 0, 0, 0, [], []), (55, .aload_n 0, 0, 0, 0, [], []), (56, .getfield 10, 0, 0, 0, [6, 0, 2, 17], []), (59, .getfield 228, 0, 0, 0, [3, 4, 1, 119], []), (62, .putfield 231, 0, 0, 0, [6, 10, 0, 2, 27], []), (65, .iload 4, 0, 0, 0, [], []), (67, .ireturn, 0, 0, 0, [], [])]
def zT_X_given : zT := [(0, .aload_n 0, 0, 0, 0, [], []), (1, .getfield 225, 0, 0, 0, [6, 9, 2, 26], []), (4, .ireturn, 0, 0, 0, [], [])]
def zT_X_trial : zT := [(0, .aload_n 0, 0, 0, 0, [], []), (1, .getfield 20, 0, 0, 0, [6, 1, 2, 18], []), (4, .iload_n 1, 0, 0, 0, [], []), (5, .invokevirtual 100, 0, 0, 0, [60, 1, 3, 5, 2, 131], []), (8, .ifCond .eq 10, 0, 0, 0, [8], []), (11, .iload_n 2, 0, 0, 0, [], []), (12, .invokestatic 161, 0, 0, 0, [122, 1, 3, 0, 3, 76], []), (15, .ifCond .ne 9, 0, 0, 0, [12], []), (18, .aload_n 0, 0, 0, 0, [], []), (19, .iconst (-1), 0, (-1), 0, [], []), (20, .invokevirtual 60, 0, 0, 0, [117, 1, 1, 6, 2, 59], []), (23, .ireturn, 0, 0, 0, [], []), (24, .iload 4, 0, 0, 0, [], []), (26, .ifCond .eq 16, 0, 0, 0, [21], []), (29, .iload 4, 0, 0, 0, [], []), (31, .iconst 1, 0, 1, 0, [], []), (32, .if_icmp .eq 10, 0, 0, 0, [21], []), (35, .aload_n 0, 0, 0, 0, [], []), (36, .bipush (-5), 0, (-5), 0, [], []), (38, .invokevirtual 60, 0, 0, 0, [117, 1, 1, 6, 2, 59], []), (41, .ireturn, 0, 0, 0, [], []), (42, .aload_n 0, 0, 0, 0, [], []), (43, .getfield 10, 0, 0, 0, [6, 0, 2, 17], []), (46, .invokevirtual 215, 0, 0, 0, [28, 0, 0, 3, 3, 158], []), (49, .aload_n 0, 0, 0, 0, [], []), (50, .getfield 10, 0, 0, 0, [6, 0, 2, 17], []), (53, .iload_n 1, 0, 0, 0, [], []), (54, .iload_n 2, 0, 0, 0, [], []), (55, .iload_n 3, 0, 0, 0, [], []), (56, .invokevirtual 218, 0, 0, 0, [29, 3, 1, 3, 3, 162], []), (59, .istore 5, 0, 0, 0, [], []), (61, .aload_n 0, 0, 0, 0, [], []), (62, .getfield 10, 0, 0, 0, [6, 0, 2, 17], []), (65, .invokevirtual 234, 0, 0, 0, [31, 0, 0, 3, 4, 14], []), (68, .iload 4, 0, 0, 0, [], []), (70, .ifCond .ne 8, 0, 0, 0, [38], []), (73, .iload 5, 0, 0, 0, [], []), (75, .goto 10, 0, 0, 0, [41], []), (78, .aload_n 0, 0, 0, 0, [], []), (79, .getfield 10, 0, 0, 0, [6, 0, 2, 17], []), (82, .getfield 228, 0, 0, 0, [3, 4, 1, 119], []), (85, .ireturn, 0, 0, 0, [], [])]
def zT_X_way : zT := [(0, .iload_n 1, 0, 0, 0, [], []), (1, .invokestatic 237, 0, 0, 0, [123, 1, 3, 0, 4, 19], []), (4, .ifCond .eq 25, 0, 0, 0, [13], []), (7, .aload_n 0, 0, 0, 0, [], []), (8, .getfield 20, 0, 0, 0, [6, 1, 2, 18], []), (11, .iload_n 2, 0, 0, 0, [], []), (12, .invokevirtual 100, 0, 0, 0, [60, 1, 3, 5, 2, 131], []), (15, .ifCond .eq 14, 0, 0, 0, [13], []), (18, .aload_n 0, 0, 0, 0, [], []), (19, .getfield 20, 0, 0, 0, [6, 1, 2, 18], []), (22, .iload_n 3, 0, 0, 0, [], []), (23, .invokevirtual 100, 0, 0, 0, [60, 1, 3, 5, 2, 131], []), (26, .ifCond .ne 9, 0, 0, 0, [17], []), (29, .aload_n 0, 0, 0, 0, [], []), (30, .iconst (-1), 0, (-1), 0, [], []), (31, .invokevirtual 60, 0, 0, 0, [117, 1, 1, 6, 2, 59], []), (34, .ireturn, 0, 0, 0, [], []), (35, .iload 4, 0, 0, 0, [], []), (37, .invokestatic 240, 0, 0, 0, [124, 1, 3, 0, 4, 22], []), (40, .ifCond .eq 13, 0, 0, 0, [24], []), (43, .iload 5, 0, 0, 0, [], []), (45, .iload 6, 0, 0, 0, [], []), (47, .invokestatic 173, 0, 0, 0, [125, 2, 3, 0, 3, 85], []), (50, .ifCond .ne 10, 0, 0, 0, [28], []), (53, .aload_n 0, 0, 0, 0, [], []), (54, .bipush (-6), 0, (-6), 0, [], []), (56, .invokevirtual 60, 0, 0, 0, [117, 1, 1, 6, 2, 59], []), (59, .ireturn, 0, 0, 0, [], []), (60, .aload_n 0, 0, 0, 0, [], []), (61, .getfield 20, 0, 0, 0, [6, 1, 2, 18], []), (64, .getfield 243, 0, 0, 0, [5, 1, 1, 38], []), (67, .bipush 32, 0, 32, 0, [], []), (69, .if_icmp .lt 10, 0, 0, 0, [37], []), (72, .aload_n 0, 0, 0, 0, [], []), (73, .bipush (-7), 0, (-7), 0, [], []), (75, .invokevirtual 60, 0, 0, 0, [117, 1, 1, 6, 2, 59], []), (78, .ireturn, 0, 0, 0, [], []), (79, .aload_n 0, 0, 0, 0, [], []), (80, .getfield 20, 0, 0, 0, [6, 1, 2, 18], []), (83, .getfield 243, 0, 0, 0, [5, 1, 1, 38], []), (86, .istore 7, 0, 0, 0, [], []), (88, .iload 7, 0, 0, 0, [], []), (90, .bipush 6, 0, 6, 0, [], []), (92, .imul, 0, 0, 0, [], []), (93, .istore 8, 0, 0, 0, [], []), (95, .aload_n 0, 0, 0, 0, [], []), (96, .getfield 20, 0, 0, 0, [6, 1, 2, 18], []), (99, .getfield 246, 0, 0, 0, [5, 11, 1, 62], []), (102, .iload 8, 0, 0, 0, [], []), (104, .iload_n 1, 0, 0, 0, [], []), (105, .iastore, 0, 0, 0, [], []), (106, .aload_n 0, 0, 0, 0, [], []), (107, .getfield 20, 0, 0, 0, [6, 1, 2, 18], []), (110, .getfield 246, 0, 0, 0, [5, 11, 1, 62], []), (113, .iload 8, 0, 0, 0, [], []), (115, .iconst 1, 0, 1, 0, [], []), (116, .iadd, 0, 0, 0, [], []), (117, .iload_n 2, 0, 0, 0, [], []), (118, .iastore, 0, 0, 0, [], []), (119, .aload_n 0, 0, 0, 0, [], []), (120, .getfield 20, 0, 0, 0, [6, 1, 2, 18], []), (123, .getfield 246, 0, 0, 0, [5, 11, 1, 62], []), (126, .iload 8, 0, 0, 0, [], []), (128, .iconst 2, 0, 2, 0, [], []), (129, .iadd, 0, 0, 0, [], []), (130, .iload_n 3, 0, 0, 0, [], []), (131, .iastore, 0, 0, 0, [], []), (132, .aload_n 0, 0, 0, 0, [], []), (133, .getfield 20, 0, 0, 0, [6, 1, 2, 18], []), (136, .getfield 246, 0, 0, 0, [5, 11, 1, 62], []), (139, .iload 8, 0, 0, 0, [], []), (141, .iconst 3, 0, 3, 0, [], []), (142, .iadd, 0, 0, 0, [], []), (143, .iload 4, 0, 0, 0, [], []), (145, .iastore, 0, 0, 0, [], []), (146, .aload_n 0, 0, 0, 0, [], []), (147, .getfield 20, 0, 0, 0, [6, 1, 2, 18], []), (150, .getfield 246, 0, 0, 0, [5, 11, 1, 62], []), (153, .iload 8, 0, 0, 0, [], []), (155, .iconst 4, 0, 4, 0, [], []), (156, .iadd, 0, 0, 0, [], []), (157, .iload 5, 0, 0, 0, [], []), (159, .iastore, 0, 0, 0, [], []), (160, .aload_n 0, 0, 0, 0, [], []), (161, .getfield 20, 0, 0, 0, [6, 1, 2, 18], []), (164, .getfield 246, 0, 0, 0, [5, 11, 1, 62], []), (167, .iload 8, 0, 0, 0, [], []), (169, .iconst 5, 0, 5, 0, [], []), (170, .iadd, 0, 0, 0, [], []), (171, .iload 6, 0, 0, 0, [], []), (173, .iastore, 0, 0, 0, [], []), (174, .aload_n 0, 0, 0, 0, [], []), (175, .getfield 20, 0, 0, 0, [6, 1, 2, 18], []), (178, .iload 7, 0, 0, 0, [], []), (180, .iconst 1, 0, 1, 0, [], []), (181, .iadd, 0, 0, 0, [], []), (182, .putfield 243, 0, 0, 0, [5, 1, 0, 1, 38], []), (185, .iload 7, 0, 0, 0, [], []), (187, .ireturn, 0, 0, 0, [], [])]
def zT_X_wayOf : zT := [(0, .iload_n 1, 0, 0, 0, [], []), (1, .ifCond .lt 24, 0, 0, 0, [12], []), (4, .iload_n 1, 0, 0, 0, [], []), (5, .aload_n 0, 0, 0, 0, [], []), (6, .getfield 20, 0, 0, 0, [6, 1, 2, 18], []), (9, .getfield 243, 0, 0, 0, [5, 1, 1, 38], []), (12, .if_icmp .ge 13, 0, 0, 0, [12], []), (15, .iload_n 2, 0, 0, 0, [], []), (16, .ifCond .lt 9, 0, 0, 0, [12], []), (19, .iload_n 2, 0, 0, 0, [], []), (20, .bipush 6, 0, 6, 0, [], []), (22, .if_icmp .lt 10, 0, 0, 0, [16], []), (25, .aload_n 0, 0, 0, 0, [], []), (26, .bipush (-5), 0, (-5), 0, [], []), (28, .invokevirtual 60, 0, 0, 0, [117, 1, 1, 6, 2, 59], []), (31, .ireturn, 0, 0, 0, [], []), (32, .aload_n 0, 0, 0, 0, [], []), (33, .getfield 20, 0, 0, 0, [6, 1, 2, 18], []), (36, .iload_n 1, 0, 0, 0, [], []), (37, .iload_n 2, 0, 0, 0, [], []), (38, .invokevirtual 249, 0, 0, 0, [65, 2, 1, 5, 4, 29], []), (41, .istore_n 3, 0, 0, 0, [], []), (42, .iload_n 2, 0, 0, 0, [], []), (43, .iconst 5, 0, 5, 0, [], []), (44, .if_icmp .ne 10, 0, 0, 0, [29], []), (47, .iload_n 3, 0, 0, 0, [], []), (48, .bipush 100, 0, 100, 0, [], []), (50, .iadd, 0, 0, 0, [], []), (51, .goto 4, 0, 0, 0, [30], []), (54, .iload_n 3, 0, 0, 0, [], []), (55, .ireturn, 0, 0, 0, [], [])]
def zT_X_applies : zT := [(0, .iload_n 1, 0, 0, 0, [], []), (1, .invokestatic 237, 0, 0, 0, [123, 1, 3, 0, 4, 19], []), (4, .ifCond .eq 25, 0, 0, 0, [13], []), (7, .aload_n 0, 0, 0, 0, [], []), (8, .getfield 20, 0, 0, 0, [6, 1, 2, 18], []), (11, .iload_n 2, 0, 0, 0, [], []), (12, .invokevirtual 100, 0, 0, 0, [60, 1, 3, 5, 2, 131], []), (15, .ifCond .eq 14, 0, 0, 0, [13], []), (18, .aload_n 0, 0, 0, 0, [], []), (19, .getfield 20, 0, 0, 0, [6, 1, 2, 18], []), (22, .iload_n 3, 0, 0, 0, [], []), (23, .invokevirtual 100, 0, 0, 0, [60, 1, 3, 5, 2, 131], []), (26, .ifCond .ne 9, 0, 0, 0, [17], []), (29, .aload_n 0, 0, 0, 0, [], []), (30, .iconst (-1), 0, (-1), 0, [], []), (31, .invokevirtual 152, 0, 0, 0, [118, 1, 1, 6, 3, 68], []), (34, .ireturn, 0, 0, 0, [], []), (35, .iload 4, 0, 0, 0, [], []), (37, .invokestatic 240, 0, 0, 0, [124, 1, 3, 0, 4, 22], []), (40, .ifCond .ne 10, 0, 0, 0, [24], []), (43, .aload_n 0, 0, 0, 0, [], []), (44, .bipush (-6), 0, (-6), 0, [], []), (46, .invokevirtual 152, 0, 0, 0, [118, 1, 1, 6, 3, 68], []), (49, .ireturn, 0, 0, 0, [], []), (50, .aload_n 0, 0, 0, 0, [], []), (51, .getfield 10, 0, 0, 0, [6, 0, 2, 17], []), (54, .getfield 252, 0, 0, 0, [3, 1, 1, 113], []), (57, .aload_n 0, 0, 0, 0, [], []), (58, .getfield 20, 0, 0, 0, [6, 1, 2, 18], []), (61, .iload_n 1, 0, 0, 0, [], []), (62, .iload_n 2, 0, 0, 0, [], []), (63, .iload_n 3, 0, 0, 0, [], []), (64, .invokevirtual 256, 0, 0, 0, [0, 4, 0, 0, 4, 34], []), (67, .aload_n 0, 0, 0, 0, [], []), (68, .getfield 10, 0, 0, 0, [6, 0, 2, 17], []), (71, .getfield 252, 0, 0, 0, [3, 1, 1, 113], []), (74, .getfield 262, 0, 0, 0, [0, 0, 1, 97], []), (77, .iload 4, 0, 0, 0, [], []), (79, .iaload, 0, 0, 0, [], []), (80, .istore 6, 0, 0, 0, [], []), (82, .iload 5, 0, 0, 0, [], []), (84, .iconst (-1), 0, (-1), 0, [], []), (85, .if_icmp .ne 6, 0, 0, 0, [45], []), (88, .iload 6, 0, 0, 0, [], []), (90, .ireturn, 0, 0, 0, [], []), (91, .iload 5, 0, 0, 0, [], []), (93, .ifCond .lt 27, 0, 0, 0, [57], []), (96, .iload 5, 0, 0, 0, [], []), (98, .iload 6, 0, 0, 0, [], []), (100, .if_icmp .ge 20, 0, 0, 0, [57], []), (103, .aload_n 0, 0, 0, 0, [], []), (104, .getfield 10, 0, 0, 0, [6, 0, 2, 17], []), (107, .getfield 252, 0, 0, 0, [3, 1, 1, 113], []), (110, .iload 4, 0, 0, 0, [], []), (112, .iload 5, 0, 0, 0, [], []), (114, .invokevirtual 265, 0, 0, 0, [3, 2, 1, 0, 4, 49], []), (117, .goto 4, 0, 0, 0, [58], []), (120, .iconst (-1), 0, (-1), 0, [], []), (121, .ireturn, 0, 0, 0, [], [])]
def zT_X_tie : zT := [(0, .iload_n 1, 0, 0, 0, [], []), (1, .invokestatic 237, 0, 0, 0, [123, 1, 3, 0, 4, 19], []), (4, .ifCond .eq 25, 0, 0, 0, [13], []), (7, .aload_n 0, 0, 0, 0, [], []), (8, .getfield 20, 0, 0, 0, [6, 1, 2, 18], []), (11, .iload_n 2, 0, 0, 0, [], []), (12, .invokevirtual 100, 0, 0, 0, [60, 1, 3, 5, 2, 131], []), (15, .ifCond .eq 14, 0, 0, 0, [13], []), (18, .aload_n 0, 0, 0, 0, [], []), (19, .getfield 20, 0, 0, 0, [6, 1, 2, 18], []), (22, .iload_n 3, 0, 0, 0, [], []), (23, .invokevirtual 100, 0, 0, 0, [60, 1, 3, 5, 2, 131], []), (26, .ifCond .ne 9, 0, 0, 0, [17], []), (29, .aload_n 0, 0, 0, 0, [], []), (30, .iconst (-1), 0, (-1), 0, [], []), (31, .invokevirtual 60, 0, 0, 0, [117, 1, 1, 6, 2, 59], []), (34, .ireturn, 0, 0, 0, [], []), (35, .aload_n 0, 0, 0, 0, [], []), (36, .getfield 10, 0, 0, 0, [6, 0, 2, 17], []), (39, .getfield 252, 0, 0, 0, [3, 1, 1, 113], []), (42, .aload_n 0, 0, 0, 0, [], []), (43, .getfield 20, 0, 0, 0, [6, 1, 2, 18], []), (46, .iload_n 1, 0, 0, 0, [], []), (47, .iload_n 2, 0, 0, 0, [], []), (48, .iload_n 3, 0, 0, 0, [], []), (49, .invokevirtual 256, 0, 0, 0, [0, 4, 0, 0, 4, 34], []), (52, .aload_n 0, 0, 0, 0, [], []), (53, .getfield 10, 0, 0, 0, [6, 0, 2, 17], []), (56, .getfield 252, 0, 0, 0, [3, 1, 1, 113], []), (59, .invokevirtual 268, 0, 0, 0, [4, 0, 3, 0, 4, 54], []), (62, .ifCond .eq 7, 0, 0, 0, [33], []), (65, .iconst 1, 0, 1, 0, [], []), (66, .goto 4, 0, 0, 0, [34], []), (69, .iconst 0, 0, 0, 0, [], []), (70, .ireturn, 0, 0, 0, [], [])]
def zT_X_call : zT := [(0, .iload_n 1, 0, 0, 0, [], []), (1, .invokestatic 237, 0, 0, 0, [123, 1, 3, 0, 4, 19], []), (4, .ifCond .eq 25, 0, 0, 0, [13], []), (7, .aload_n 0, 0, 0, 0, [], []), (8, .getfield 20, 0, 0, 0, [6, 1, 2, 18], []), (11, .iload_n 2, 0, 0, 0, [], []), (12, .invokevirtual 100, 0, 0, 0, [60, 1, 3, 5, 2, 131], []), (15, .ifCond .eq 14, 0, 0, 0, [13], []), (18, .aload_n 0, 0, 0, 0, [], []), (19, .getfield 20, 0, 0, 0, [6, 1, 2, 18], []), (22, .iload_n 3, 0, 0, 0, [], []), (23, .invokevirtual 100, 0, 0, 0, [60, 1, 3, 5, 2, 131], []), (26, .ifCond .ne 9, 0, 0, 0, [17], []), (29, .aload_n 0, 0, 0, 0, [], []), (30, .iconst (-1), 0, (-1), 0, [], []), (31, .invokevirtual 60, 0, 0, 0, [117, 1, 1, 6, 2, 59], []), (34, .ireturn, 0, 0, 0, [], []), (35, .aload_n 0, 0, 0, 0, [], []), (36, .getfield 10, 0, 0, 0, [6, 0, 2, 17], []), (39, .invokevirtual 215, 0, 0, 0, [28, 0, 0, 3, 3, 158], []), (42, .aload_n 0, 0, 0, 0, [], []), (43, .getfield 10, 0, 0, 0, [6, 0, 2, 17], []), (46, .iload_n 1, 0, 0, 0, [], []), (47, .iload_n 2, 0, 0, 0, [], []), (48, .iload_n 3, 0, 0, 0, [], []), (49, .iload 4, 0, 0, 0, [], []), (51, .invokevirtual 271, 0, 0, 0, [30, 4, 1, 3, 4, 63], []), (54, .istore 5, 0, 0, 0, [], []), (56, .aload_n 0, 0, 0, 0, [], []), (57, .aload_n 0, 0, 0, 0, [], []), (58, .getfield 10, 0, 0, 0, [6, 0, 2, 17], []), (61, .getfield 222, 0, 0, 0, [3, 5, 1, 121], []), (64, .putfield 225, 0, 0, 0, [6, 9, 0, 2, 26], []), (67, .aload_n 0, 0, 0, 0, [], []), (68, .aload_n 0, 0, 0, 0, [], []), (69, .getfield 10, 0, 0, 0, [6, 0, 2, 17], []), (72, .getfield 228, 0, 0, 0, [3, 4, 1, 119], []), (75, .putfield 231, 0, 0, 0, [6, 10, 0, 2, 27], []), (78, .iload 5, 0, 0, 0, [], []), (80, .ireturn, 0, 0, 0, [], [])]
def zT_X_trace : zT := [(0, .iload_n 1, 0, 0, 0, [], []), (1, .ifCond .lt 32, 0, 0, 0, [16], []), (4, .iload_n 1, 0, 0, 0, [], []), (5, .aload_n 0, 0, 0, 0, [], []), (6, .getfield 10, 0, 0, 0, [6, 0, 2, 17], []), (9, .getfield 274, 0, 0, 0, [3, 3, 1, 117], []), (12, .if_icmp .ge 21, 0, 0, 0, [16], []), (15, .iload_n 1, 0, 0, 0, [], []), (16, .bipush 30, 0, 30, 0, [], []), (18, .if_icmp .ge 15, 0, 0, 0, [16], []), (21, .aload_n 0, 0, 0, 0, [], []), (22, .getfield 10, 0, 0, 0, [6, 0, 2, 17], []), (25, .getfield 277, 0, 0, 0, [3, 2, 1, 115], []), (28, .iload_n 1, 0, 0, 0, [], []), (29, .iaload, 0, 0, 0, [], []), (30, .goto 4, 0, 0, 0, [17], []), (33, .iconst (-1), 0, (-1), 0, [], []), (34, .ireturn, 0, 0, 0, [], [])]
def zT_X_judge : zT := [(0, .aload_n 0, 0, 0, 0, [], []), (1, .getfield 30, 0, 0, 0, [6, 3, 2, 20], []), (4, .iload_n 1, 0, 0, 0, [], []), (5, .invokevirtual 56, 0, 0, 0, [47, 1, 3, 4, 2, 55], []), (8, .ifCond .eq 21, 0, 0, 0, [13], []), (11, .aload_n 0, 0, 0, 0, [], []), (12, .getfield 20, 0, 0, 0, [6, 1, 2, 18], []), (15, .iload_n 2, 0, 0, 0, [], []), (16, .invokevirtual 100, 0, 0, 0, [60, 1, 3, 5, 2, 131], []), (19, .ifCond .eq 10, 0, 0, 0, [13], []), (22, .iload_n 3, 0, 0, 0, [], []), (23, .invokestatic 161, 0, 0, 0, [122, 1, 3, 0, 3, 76], []), (26, .ifCond .ne 9, 0, 0, 0, [17], []), (29, .aload_n 0, 0, 0, 0, [], []), (30, .iconst (-1), 0, (-1), 0, [], []), (31, .invokevirtual 152, 0, 0, 0, [118, 1, 1, 6, 3, 68], []), (34, .ireturn, 0, 0, 0, [], []), (35, .aload_n 0, 0, 0, 0, [], []), (36, .getfield 30, 0, 0, 0, [6, 3, 2, 20], []), (39, .iload_n 1, 0, 0, 0, [], []), (40, .invokevirtual 68, 0, 0, 0, [51, 1, 1, 4, 2, 77], []), (43, .istore 5, 0, 0, 0, [], []), (45, .iload 5, 0, 0, 0, [], []), (47, .ifCond .eq 10, 0, 0, 0, [28], []), (50, .aload_n 0, 0, 0, 0, [], []), (51, .iload 5, 0, 0, 0, [], []), (53, .invokevirtual 152, 0, 0, 0, [118, 1, 1, 6, 3, 68], []), (56, .ireturn, 0, 0, 0, [], []), (57, .iload 4, 0, 0, 0, [], []), (59, .ifCond .ge 10, 0, 0, 0, [34], []), (62, .aload_n 0, 0, 0, 0, [], []), (63, .bipush (-4), 0, (-4), 0, [], []), (65, .invokevirtual 152, 0, 0, 0, [118, 1, 1, 6, 3, 68], []), (68, .ireturn, 0, 0, 0, [], []), (69, .ldc2_w 280, 0, 0, 2, [4, 76], []), (72, .iload 4, 0, 0, 0, [], []), (74, .i2l, 0, 0, 0, [], []), (75, .lmul, 0, 0, 0, [], []), (76, .aload_n 0, 0, 0, 0, [], []), (77, .getfield 30, 0, 0, 0, [6, 3, 2, 20], []), (80, .getfield 282, 0, 0, 0, [4, 1, 1, 186], []), (83, .iload_n 1, 0, 0, 0, [], []), (84, .iaload, 0, 0, 0, [], []), (85, .i2l, 0, 0, 0, [], []), (86, .lcmp, 0, 0, 0, [], []), (87, .ifCond .le 10, 0, 0, 0, [50], []), (90, .aload_n 0, 0, 0, 0, [], []), (91, .bipush (-5), 0, (-5), 0, [], []), (93, .invokevirtual 152, 0, 0, 0, [118, 1, 1, 6, 3, 68], []), (96, .ireturn, 0, 0, 0, [], []), (97, .aload_n 0, 0, 0, 0, [], []), (98, .getfield 10, 0, 0, 0, [6, 0, 2, 17], []), (101, .invokevirtual 215, 0, 0, 0, [28, 0, 0, 3, 3, 158], []), (104, .iconst 0, 0, 0, 0, [], []), (105, .istore 6, 0, 0, 0, [], []), (107, .iload 6, 56, 0, 0, [], [5, 7]), (109, .iload 4, 0, 0, 0, [], []), (111, .if_icmp .ge 71, 0, 0, 0, [93], []), (114, .aload_n 0, 0, 0, 0, [], []), (115, .getfield 10, 0, 0, 0, [6, 0, 2, 17], []), (118, .iload_n 2, 0, 0, 0, [], []), (119, .iload_n 3, 0, 0, 0, [], []), (120, .aload_n 0, 0, 0, 0, [], []), (121, .getfield 30, 0, 0, 0, [6, 3, 2, 20], []), (124, .iload_n 1, 0, 0, 0, [], []), (125, .iconst 2, 0, 2, 0, [], []), (126, .iload 6, 0, 0, 0, [], []), (128, .imul, 0, 0, 0, [], []), (129, .invokevirtual 283, 0, 0, 0, [58, 2, 1, 4, 4, 77], []), (132, .invokevirtual 218, 0, 0, 0, [29, 3, 1, 3, 3, 162], []), (135, .istore 7, 0, 0, 0, [], []), (137, .aload_n 0, 0, 0, 0, [], []), (138, .getfield 10, 0, 0, 0, [6, 0, 2, 17], []), (141, .invokevirtual 234, 0, 0, 0, [31, 0, 0, 3, 4, 14], []), (144, .iload 7, 0, 0, 0, [], []), (146, .ifCond .ne 27, 0, 0, 0, [89], []), (149, .aload_n 0, 0, 0, 0, [], []), (150, .getfield 10, 0, 0, 0, [6, 0, 2, 17], []), (153, .getfield 222, 0, 0, 0, [3, 5, 1, 121], []), (156, .aload_n 0, 0, 0, 0, [], []), (157, .getfield 30, 0, 0, 0, [6, 3, 2, 20], []), (160, .iload_n 1, 0, 0, 0, [], []), (161, .iconst 2, 0, 2, 0, [], []), (162, .iload 6, 0, 0, 0, [], []), (164, .imul, 0, 0, 0, [], []), (165, .iconst 1, 0, 1, 0, [], []), (166, .iadd, 0, 0, 0, [], []), (167, .invokevirtual 283, 0, 0, 0, [58, 2, 1, 4, 4, 77], []), (170, .if_icmp .eq 6, 0, 0, 0, [91], []), (173, .iload 6, 0, 0, 0, [], []), (175, .ireturn, 0, 0, 0, [], []), (176, .iinc 6 1, 0, 1, 0, [], []), (179, .goto (-72), 0, 0, 0, [55], []), (182, .iconst (-1), 0, (-1), 0, [], []), (183, .ireturn, 0, 0, 0, [], [])]
def zT_X_days : zT := [(0, .aload_n 0, 0, 0, 0, [], []), (1, .getfield 20, 0, 0, 0, [6, 1, 2, 18], []), (4, .getfield 286, 0, 0, 0, [5, 0, 1, 35], []), (7, .ifCond .ne 10, 0, 0, 0, [8], []), (10, .aload_n 0, 0, 0, 0, [], []), (11, .bipush (-5), 0, (-5), 0, [], []), (13, .invokevirtual 60, 0, 0, 0, [117, 1, 1, 6, 2, 59], []), (16, .ireturn, 0, 0, 0, [], []), (17, .iload_n 1, 0, 0, 0, [], []), (18, .iconst 1, 0, 1, 0, [], []), (19, .if_icmp .lt 9, 0, 0, 0, [14], []), (22, .iload_n 1, 0, 0, 0, [], []), (23, .bipush 40, 0, 40, 0, [], []), (25, .if_icmp .le 10, 0, 0, 0, [18], []), (28, .aload_n 0, 0, 0, 0, [], []), (29, .bipush (-6), 0, (-6), 0, [], []), (31, .invokevirtual 60, 0, 0, 0, [117, 1, 1, 6, 2, 59], []), (34, .ireturn, 0, 0, 0, [], []), (35, .aload_n 0, 0, 0, 0, [], []), (36, .getfield 10, 0, 0, 0, [6, 0, 2, 17], []), (39, .invokevirtual 215, 0, 0, 0, [28, 0, 0, 3, 3, 158], []), (42, .iconst 0, 0, 0, 0, [], []), (43, .istore_n 2, 0, 0, 0, [], []), (44, .iload_n 2, 24, 0, 0, [], []), (45, .iload_n 1, 0, 0, 0, [], []), (46, .if_icmp .ge 13, 0, 0, 0, [30], []), (49, .aload_n 0, 0, 0, 0, [], []), (50, .invokevirtual 289, 0, 0, 0, [120, 0, 0, 6, 4, 82], []), (53, .iinc 2 1, 0, 1, 0, [], []), (56, .goto (-12), 0, 0, 0, [23], []), (59, .aload_n 0, 0, 0, 0, [], []), (60, .getfield 20, 0, 0, 0, [6, 1, 2, 18], []), (63, .invokevirtual 292, 0, 0, 0, [78, 0, 1, 5, 4, 91], []), (66, .ireturn, 0, 0, 0, [], [])]
def zT_X_seed : zT := [(0, .aload_n 0, 0, 0, 0, [], []), (1, .getfield 20, 0, 0, 0, [6, 1, 2, 18], []), (4, .getfield 296, 0, 0, 0, [5, 2, 1, 40], []), (7, .istore_n 2, 0, 0, 0, [], []), (8, .aload_n 0, 0, 0, 0, [], []), (9, .getfield 20, 0, 0, 0, [6, 1, 2, 18], []), (12, .iload_n 1, 0, 0, 0, [], []), (13, .putfield 296, 0, 0, 0, [5, 2, 0, 1, 40], []), (16, .iload_n 2, 0, 0, 0, [], []), (17, .ireturn, 0, 0, 0, [], [])]
def zT_X_image : zT := [(0, .aload_n 0, 0, 0, 0, [], []), (1, .getfield 24, 0, 0, 0, [6, 2, 2, 19], []), (4, .aload_n 0, 0, 0, 0, [], []), (5, .getfield 20, 0, 0, 0, [6, 1, 2, 18], []), (8, .invokevirtual 299, 0, 0, 0, [81, 1, 0, 5, 4, 104], []), (11, .aload_n 0, 0, 0, 0, [], []), (12, .iconst 1, 0, 1, 0, [], []), (13, .putfield 303, 0, 0, 0, [6, 7, 1, 2, 24], []), (16, .aload_n 0, 0, 0, 0, [], []), (17, .getfield 24, 0, 0, 0, [6, 2, 2, 19], []), (20, .getfield 286, 0, 0, 0, [5, 0, 1, 35], []), (23, .ireturn, 0, 0, 0, [], [])]
def zT_X_restore : zT := [(0, .aload_n 0, 0, 0, 0, [], []), (1, .getfield 303, 0, 0, 0, [6, 7, 2, 24], []), (4, .ifCond .ne 10, 0, 0, 0, [7], []), (7, .aload_n 0, 0, 0, 0, [], []), (8, .bipush (-6), 0, (-6), 0, [], []), (10, .invokevirtual 60, 0, 0, 0, [117, 1, 1, 6, 2, 59], []), (13, .ireturn, 0, 0, 0, [], []), (14, .aload_n 0, 0, 0, 0, [], []), (15, .getfield 20, 0, 0, 0, [6, 1, 2, 18], []), (18, .aload_n 0, 0, 0, 0, [], []), (19, .getfield 24, 0, 0, 0, [6, 2, 2, 19], []), (22, .invokevirtual 299, 0, 0, 0, [81, 1, 0, 5, 4, 104], []), (25, .aload_n 0, 0, 0, 0, [], []), (26, .getfield 30, 0, 0, 0, [6, 3, 2, 20], []), (29, .aload_n 0, 0, 0, 0, [], []), (30, .getfield 20, 0, 0, 0, [6, 1, 2, 18], []), (33, .getfield 286, 0, 0, 0, [5, 0, 1, 35], []), (36, .invokevirtual 307, 0, 0, 0, [59, 1, 0, 4, 4, 112], []), (39, .aload_n 0, 0, 0, 0, [], []), (40, .getfield 20, 0, 0, 0, [6, 1, 2, 18], []), (43, .getfield 286, 0, 0, 0, [5, 0, 1, 35], []), (46, .ireturn, 0, 0, 0, [], [])]
def zT_X_status : zT := [(0, .iload_n 1, 0, 0, 0, [], []), (1, .tableswitch 96 0 6 #[43, 51, 59, 67, 75, 83, 91], 0, 0, 0, [43, 29, 2, 6, 10, 14, 18, 22, 26], []), (44, .aload_n 0, 0, 0, 0, [], []), (45, .getfield 20, 0, 0, 0, [6, 1, 2, 18], []), (48, .getfield 286, 0, 0, 0, [5, 0, 1, 35], []), (51, .ireturn, 0, 0, 0, [], []), (52, .aload_n 0, 0, 0, 0, [], []), (53, .getfield 20, 0, 0, 0, [6, 1, 2, 18], []), (56, .getfield 243, 0, 0, 0, [5, 1, 1, 38], []), (59, .ireturn, 0, 0, 0, [], []), (60, .aload_n 0, 0, 0, 0, [], []), (61, .getfield 20, 0, 0, 0, [6, 1, 2, 18], []), (64, .invokevirtual 292, 0, 0, 0, [78, 0, 1, 5, 4, 91], []), (67, .ireturn, 0, 0, 0, [], []), (68, .aload_n 0, 0, 0, 0, [], []), (69, .getfield 20, 0, 0, 0, [6, 1, 2, 18], []), (72, .invokevirtual 311, 0, 0, 0, [79, 0, 1, 5, 4, 120], []), (75, .ireturn, 0, 0, 0, [], []), (76, .aload_n 0, 0, 0, 0, [], []), (77, .getfield 20, 0, 0, 0, [6, 1, 2, 18], []), (80, .getfield 296, 0, 0, 0, [5, 2, 1, 40], []), (83, .ireturn, 0, 0, 0, [], []), (84, .aload_n 0, 0, 0, 0, [], []), (85, .getfield 10, 0, 0, 0, [6, 0, 2, 17], []), (88, .getfield 274, 0, 0, 0, [3, 3, 1, 117], []), (91, .ireturn, 0, 0, 0, [], []), (92, .aload_n 0, 0, 0, 0, [], []), (93, .getfield 231, 0, 0, 0, [6, 10, 2, 27], []), (96, .ireturn, 0, 0, 0, [], []), (97, .iload_n 1, 0, 0, 0, [], []), (98, .bipush 10, 0, 10, 0, [], []), (100, .if_icmp .le 21, 0, 0, 0, [42], []), (103, .iload_n 1, 0, 0, 0, [], []), (104, .bipush 17, 0, 17, 0, [], []), (106, .if_icmp .gt 15, 0, 0, 0, [42], []), (109, .aload_n 0, 0, 0, 0, [], []), (110, .getfield 48, 0, 0, 0, [6, 6, 2, 23], []), (113, .iload_n 1, 0, 0, 0, [], []), (114, .bipush 10, 0, 10, 0, [], []), (116, .isub, 0, 0, 0, [], []), (117, .iaload, 0, 0, 0, [], []), (118, .goto 4, 0, 0, 0, [43], []), (121, .iconst (-1), 0, (-1), 0, [], []), (122, .ireturn, 0, 0, 0, [], [])]
def zT_X_refuse : zT := [(0, .iload_n 1, 0, 0, 0, [], []), (1, .ifCond .ge 20, 0, 0, 0, [14], []), (4, .iload_n 1, 0, 0, 0, [], []), (5, .bipush (-7), 0, (-7), 0, [], []), (7, .if_icmp .lt 14, 0, 0, 0, [14], []), (10, .aload_n 0, 0, 0, 0, [], []), (11, .getfield 48, 0, 0, 0, [6, 6, 2, 23], []), (14, .iload_n 1, 0, 0, 0, [], []), (15, .ineg, 0, 0, 0, [], []), (16, .dup2, 0, 0, 0, [], []), (17, .iaload, 0, 0, 0, [], []), (18, .iconst 1, 0, 1, 0, [], []), (19, .iadd, 0, 0, 0, [], []), (20, .iastore, 0, 0, 0, [], []), (21, .iload_n 1, 0, 0, 0, [], []), (22, .ireturn, 0, 0, 0, [], [])]
def zT_X_refuseByTen : zT := [(0, .aload_n 0, 0, 0, 0, [], []), (1, .iload_n 1, 0, 0, 0, [], []), (2, .invokevirtual 60, 0, 0, 0, [117, 1, 1, 6, 2, 59], []), (5, .bipush 10, 0, 10, 0, [], []), (7, .isub, 0, 0, 0, [], []), (8, .ireturn, 0, 0, 0, [], [])]
def zT_X_whyNoParents : zT := [(0, .iload_n 1, 0, 0, 0, [], []), (1, .ifCond .lt 8, 0, 0, 0, [5], []), (4, .iload_n 1, 0, 0, 0, [], []), (5, .iconst 3, 0, 3, 0, [], []), (6, .if_icmp .le 6, 0, 0, 0, [7], []), (9, .bipush (-6), 0, (-6), 0, [], []), (11, .ireturn, 0, 0, 0, [], []), (12, .aload_n 0, 0, 0, 0, [], []), (13, .getfield 37, 0, 0, 0, [6, 4, 2, 21], []), (16, .iload_n 1, 0, 0, 0, [], []), (17, .iload_n 2, 0, 0, 0, [], []), (18, .iload_n 3, 0, 0, 0, [], []), (19, .iload 4, 0, 0, 0, [], []), (21, .invokevirtual 314, 0, 0, 0, [5, 4, 0, 1, 3, 53], []), (24, .iconst 0, 0, 0, 0, [], []), (25, .istore 5, 0, 0, 0, [], []), (27, .iload 5, 17, 0, 0, [], [2, 3, 4]), (29, .iload_n 1, 0, 0, 0, [], []), (30, .if_icmp .ge 31, 0, 0, 0, [32], []), (33, .aload_n 0, 0, 0, 0, [], []), (34, .getfield 20, 0, 0, 0, [6, 1, 2, 18], []), (37, .aload_n 0, 0, 0, 0, [], []), (38, .getfield 37, 0, 0, 0, [6, 4, 2, 21], []), (41, .getfield 317, 0, 0, 0, [1, 0, 1, 204], []), (44, .iload 5, 0, 0, 0, [], []), (46, .iaload, 0, 0, 0, [], []), (47, .invokevirtual 100, 0, 0, 0, [60, 1, 3, 5, 2, 131], []), (50, .ifCond .ne 5, 0, 0, 0, [30], []), (53, .iconst (-1), 0, (-1), 0, [], []), (54, .ireturn, 0, 0, 0, [], []), (55, .iinc 5 1, 0, 1, 0, [], []), (58, .goto (-31), 0, 0, 0, [16], []), (61, .iconst 0, 0, 0, 0, [], []), (62, .istore 5, 0, 0, 0, [], []), (64, .iload 5, 35, 0, 0, [], [2, 3, 4]), (66, .iload_n 1, 0, 0, 0, [], []), (67, .if_icmp .ge 46, 0, 0, 0, [57], []), (70, .aload_n 0, 0, 0, 0, [], []), (71, .getfield 37, 0, 0, 0, [6, 4, 2, 21], []), (74, .iload 5, 0, 0, 0, [], []), (76, .invokevirtual 320, 0, 0, 0, [9, 1, 3, 1, 3, 57], []), (79, .ifCond .ne 25, 0, 0, 0, [53], []), (82, .aload_n 0, 0, 0, 0, [], []), (83, .getfield 20, 0, 0, 0, [6, 1, 2, 18], []), (86, .getfield 164, 0, 0, 0, [5, 3, 1, 43], []), (89, .aload_n 0, 0, 0, 0, [], []), (90, .getfield 37, 0, 0, 0, [6, 4, 2, 21], []), (93, .getfield 317, 0, 0, 0, [1, 0, 1, 204], []), (96, .iload 5, 0, 0, 0, [], []), (98, .iaload, 0, 0, 0, [], []), (99, .iaload, 0, 0, 0, [], []), (100, .iconst 2, 0, 2, 0, [], []), (101, .if_icmp .ne 6, 0, 0, 0, [55], []), (104, .bipush (-6), 0, (-6), 0, [], []), (106, .ireturn, 0, 0, 0, [], []), (107, .iinc 5 1, 0, 1, 0, [], []), (110, .goto (-46), 0, 0, 0, [34], []), (113, .iconst 0, 0, 0, 0, [], []), (114, .ireturn, 0, 0, 0, [], [])]
def zT_X_liveDay : zT := [(0, .aload_n 0, 0, 0, 0, [], []), (1, .getfield 20, 0, 0, 0, [6, 1, 2, 18], []), (4, .aload_n 0, 0, 0, 0, [], []), (5, .getfield 20, 0, 0, 0, [6, 1, 2, 18], []), (8, .getfield 286, 0, 0, 0, [5, 0, 1, 35], []), (11, .invokevirtual 323, 0, 0, 0, [80, 1, 1, 5, 4, 86], []), (14, .istore_n 1, 0, 0, 0, [], []), (15, .aload_n 0, 0, 0, 0, [], []), (16, .getfield 20, 0, 0, 0, [6, 1, 2, 18], []), (19, .bipush 16, 0, 16, 0, [], []), (21, .invokevirtual 323, 0, 0, 0, [80, 1, 1, 5, 4, 86], []), (24, .istore_n 2, 0, 0, 0, [], []), (25, .aload_n 0, 0, 0, 0, [], []), (26, .getfield 20, 0, 0, 0, [6, 1, 2, 18], []), (29, .iconst 3, 0, 3, 0, [], []), (30, .invokevirtual 323, 0, 0, 0, [80, 1, 1, 5, 4, 86], []), (33, .istore_n 3, 0, 0, 0, [], []), (34, .aload_n 0, 0, 0, 0, [], []), (35, .getfield 20, 0, 0, 0, [6, 1, 2, 18], []), (38, .getfield 164, 0, 0, 0, [5, 3, 1, 43], []), (41, .iload_n 1, 0, 0, 0, [], []), (42, .iaload, 0, 0, 0, [], []), (43, .iconst 3, 0, 3, 0, [], []), (44, .if_icmp .ne 7, 0, 0, 0, [26], []), (47, .iconst 1, 0, 1, 0, [], []), (48, .goto 4, 0, 0, 0, [27], []), (51, .iconst 0, 0, 0, 0, [], []), (52, .istore 4, 0, 0, 0, [], []), (54, .iload_n 3, 0, 0, 0, [], []), (55, .iconst 1, 0, 1, 0, [], []), (56, .if_icmp .ne 25, 0, 0, 0, [42], []), (59, .aload_n 0, 0, 0, 0, [], []), (60, .getfield 10, 0, 0, 0, [6, 0, 2, 17], []), (63, .iload_n 1, 0, 0, 0, [], []), (64, .iload_n 2, 0, 0, 0, [], []), (65, .aload_n 0, 0, 0, 0, [], []), (66, .getfield 20, 0, 0, 0, [6, 1, 2, 18], []), (69, .bipush 100, 0, 100, 0, [], []), (71, .invokevirtual 323, 0, 0, 0, [80, 1, 1, 5, 4, 86], []), (74, .invokevirtual 218, 0, 0, 0, [29, 3, 1, 3, 3, 162], []), (77, .pop, 0, 0, 0, [], []), (78, .goto 52, 0, 0, 0, [66], []), (81, .iload_n 3, 0, 0, 0, [], []), (82, .ifCond .ne 29, 0, 0, 0, [56], []), (85, .iload 4, 0, 0, 0, [], []), (87, .ifCond .ne 24, 0, 0, 0, [56], []), (90, .aload_n 0, 0, 0, 0, [], []), (91, .getfield 20, 0, 0, 0, [6, 1, 2, 18], []), (94, .iload_n 1, 0, 0, 0, [], []), (95, .iload_n 2, 0, 0, 0, [], []), (96, .aload_n 0, 0, 0, 0, [], []), (97, .getfield 20, 0, 0, 0, [6, 1, 2, 18], []), (100, .bipush 100, 0, 100, 0, [], []), (102, .invokevirtual 323, 0, 0, 0, [80, 1, 1, 5, 4, 86], []), (105, .invokevirtual 170, 0, 0, 0, [69, 3, 0, 5, 3, 80], []), (108, .goto 22, 0, 0, 0, [66], []), (111, .iload_n 3, 0, 0, 0, [], []), (112, .iconst 2, 0, 2, 0, [], []), (113, .if_icmp .ne 17, 0, 0, 0, [66], []), (116, .iload 4, 0, 0, 0, [], []), (118, .ifCond .ne 12, 0, 0, 0, [66], []), (121, .aload_n 0, 0, 0, 0, [], []), (122, .getfield 20, 0, 0, 0, [6, 1, 2, 18], []), (125, .iload_n 1, 0, 0, 0, [], []), (126, .iload_n 2, 0, 0, 0, [], []), (127, .invokevirtual 180, 0, 0, 0, [71, 2, 0, 5, 3, 93], []), (130, .return_, 0, 0, 0, [], [])]
def zT_X_isKind : zT := [(0, .iload_n 0, 0, 0, 0, [], []), (1, .ifCond .lt 12, 0, 0, 0, [7], []), (4, .iload_n 0, 0, 0, 0, [], []), (5, .iconst 4, 0, 4, 0, [], []), (6, .if_icmp .ge 7, 0, 0, 0, [7], []), (9, .iconst 1, 0, 1, 0, [], []), (10, .goto 4, 0, 0, 0, [8], []), (13, .iconst 0, 0, 0, 0, [], []), (14, .ireturn, 0, 0, 0, [], [])]
def zT_X_isSlot : zT := [(0, .iload_n 0, 0, 0, 0, [], []), (1, .ifCond .lt 13, 0, 0, 0, [7], []), (4, .iload_n 0, 0, 0, 0, [], []), (5, .bipush 16, 0, 16, 0, [], []), (7, .if_icmp .ge 7, 0, 0, 0, [7], []), (10, .iconst 1, 0, 1, 0, [], []), (11, .goto 4, 0, 0, 0, [8], []), (14, .iconst 0, 0, 0, 0, [], []), (15, .ireturn, 0, 0, 0, [], [])]
def zT_X_isGeneric : zT := [(0, .iload_n 0, 0, 0, 0, [], []), (1, .ifCond .lt 13, 0, 0, 0, [7], []), (4, .iload_n 0, 0, 0, 0, [], []), (5, .bipush 8, 0, 8, 0, [], []), (7, .if_icmp .ge 7, 0, 0, 0, [7], []), (10, .iconst 1, 0, 1, 0, [], []), (11, .goto 4, 0, 0, 0, [8], []), (14, .iconst 0, 0, 0, 0, [], []), (15, .ireturn, 0, 0, 0, [], [])]
def zT_X_isSort : zT := [(0, .iload_n 0, 0, 0, 0, [], []), (1, .ifCond .lt 12, 0, 0, 0, [7], []), (4, .iload_n 0, 0, 0, 0, [], []), (5, .iconst 4, 0, 4, 0, [], []), (6, .if_icmp .ge 7, 0, 0, 0, [7], []), (9, .iconst 1, 0, 1, 0, [], []), (10, .goto 4, 0, 0, 0, [8], []), (13, .iconst 0, 0, 0, 0, [], []), (14, .ireturn, 0, 0, 0, [], [])]
def zT_X_isFunction : zT := [(0, .iload_n 0, 0, 0, 0, [], []), (1, .ifCond .lt 25, 0, 0, 0, [13], []), (4, .iload_n 0, 0, 0, 0, [], []), (5, .bipush 10, 0, 10, 0, [], []), (7, .if_icmp .ge 19, 0, 0, 0, [13], []), (10, .iload_n 1, 0, 0, 0, [], []), (11, .bipush (-99), 0, (-99), 0, [], []), (13, .if_icmp .lt 13, 0, 0, 0, [13], []), (16, .iload_n 1, 0, 0, 0, [], []), (17, .bipush 99, 0, 99, 0, [], []), (19, .if_icmp .gt 7, 0, 0, 0, [13], []), (22, .iconst 1, 0, 1, 0, [], []), (23, .goto 4, 0, 0, 0, [14], []), (26, .iconst 0, 0, 0, 0, [], []), (27, .ireturn, 0, 0, 0, [], [])]
def zT_M_no : zT := [(0, .aload_n 0, 0, 0, 0, [], []), (1, .getfield 53, 0, 0, 0, [7, 22, 4, 152], []), (4, .iload_n 1, 0, 0, 0, [], []), (5, .ineg, 0, 0, 0, [], []), (6, .dup2, 0, 0, 0, [], []), (7, .iaload, 0, 0, 0, [], []), (8, .iconst 1, 0, 1, 0, [], []), (9, .iadd, 0, 0, 0, [], []), (10, .iastore, 0, 0, 0, [], []), (11, .iload_n 1, 0, 0, 0, [], []), (12, .ireturn, 0, 0, 0, [], [])]
def zT_M_no10 : zT := [(0, .aload_n 0, 0, 0, 0, [], []), (1, .iload_n 1, 0, 0, 0, [], []), (2, .invokevirtual 93, 0, 0, 0, [126, 1, 1, 7, 5, 24], []), (5, .bipush 10, 0, 10, 0, [], []), (7, .isub, 0, 0, 0, [], []), (8, .ireturn, 0, 0, 0, [], [])]
def zT_M_within : zT := [(0, .iload_n 0, 0, 0, 0, [], []), (1, .iload_n 1, 0, 0, 0, [], []), (2, .if_icmp .lt 12, 0, 0, 0, [8], []), (5, .iload_n 0, 0, 0, 0, [], []), (6, .iload_n 2, 0, 0, 0, [], []), (7, .if_icmp .gt 7, 0, 0, 0, [8], []), (10, .iconst 1, 0, 1, 0, [], []), (11, .goto 4, 0, 0, 0, [9], []), (14, .iconst 0, 0, 0, 0, [], []), (15, .ireturn, 0, 0, 0, [], [])]
def zT_M_isOne : zT := [(0, .iload_n 1, 0, 0, 0, [], []), (1, .iconst 0, 0, 0, 0, [], []), (2, .aload_n 0, 0, 0, 0, [], []), (3, .getfield 97, 0, 0, 0, [7, 0, 4, 130], []), (6, .iconst 1, 0, 1, 0, [], []), (7, .isub, 0, 0, 0, [], []), (8, .invokestatic 100, 0, 0, 0, [128, 3, 3, 0, 5, 21], []), (11, .ireturn, 0, 0, 0, [], [])]
def zT_M_isSlot : zT := [(0, .iload_n 0, 0, 0, 0, [], []), (1, .iconst 0, 0, 0, 0, [], []), (2, .bipush 15, 0, 15, 0, [], []), (4, .invokestatic 100, 0, 0, 0, [128, 3, 3, 0, 5, 21], []), (7, .ireturn, 0, 0, 0, [], [])]
def zT_M_isIn : zT := [(0, .iload_n 0, 0, 0, 0, [], []), (1, .iload_n 1, 0, 0, 0, [], []), (2, .ishr, 0, 0, 0, [], []), (3, .iconst 1, 0, 1, 0, [], []), (4, .iand, 0, 0, 0, [], []), (5, .iconst 1, 0, 1, 0, [], []), (6, .if_icmp .ne 7, 0, 0, 0, [9], []), (9, .iconst 1, 0, 1, 0, [], []), (10, .goto 4, 0, 0, 0, [10], []), (13, .iconst 0, 0, 0, 0, [], []), (14, .ireturn, 0, 0, 0, [], [])]
def zT_M_isRow : zT := [(0, .aload_n 0, 0, 0, 0, [], []), (1, .getfield 40, 0, 0, 0, [7, 13, 4, 143], []), (4, .iload_n 1, 0, 0, 0, [], []), (5, .iaload, 0, 0, 0, [], []), (6, .bipush 100, 0, 100, 0, [], []), (8, .if_icmp .lt 7, 0, 0, 0, [8], []), (11, .iconst 1, 0, 1, 0, [], []), (12, .goto 4, 0, 0, 0, [9], []), (15, .iconst 0, 0, 0, 0, [], []), (16, .ireturn, 0, 0, 0, [], [])]
def zT_M_row : zT := [(0, .iload_n 1, 0, 0, 0, [], []), (1, .iconst 0, 0, 0, 0, [], []), (2, .bipush 7, 0, 7, 0, [], []), (4, .invokestatic 100, 0, 0, 0, [128, 3, 3, 0, 5, 21], []), (7, .ifCond .ne 9, 0, 0, 0, [9], []), (10, .aload_n 0, 0, 0, 0, [], []), (11, .iconst (-1), 0, (-1), 0, [], []), (12, .invokevirtual 93, 0, 0, 0, [126, 1, 1, 7, 5, 24], []), (15, .ireturn, 0, 0, 0, [], []), (16, .iload_n 3, 0, 0, 0, [], []), (17, .ifCond .ge 10, 0, 0, 0, [15], []), (20, .aload_n 0, 0, 0, 0, [], []), (21, .bipush (-4), 0, (-4), 0, [], []), (23, .invokevirtual 93, 0, 0, 0, [126, 1, 1, 7, 5, 24], []), (26, .ireturn, 0, 0, 0, [], []), (27, .iload_n 2, 0, 0, 0, [], []), (28, .iconst 0, 0, 0, 0, [], []), (29, .iconst 3, 0, 3, 0, [], []), (30, .invokestatic 100, 0, 0, 0, [128, 3, 3, 0, 5, 21], []), (33, .ifCond .ne 10, 0, 0, 0, [24], []), (36, .aload_n 0, 0, 0, 0, [], []), (37, .bipush (-6), 0, (-6), 0, [], []), (39, .invokevirtual 93, 0, 0, 0, [126, 1, 1, 7, 5, 24], []), (42, .ireturn, 0, 0, 0, [], []), (43, .iload_n 3, 0, 0, 0, [], []), (44, .sipush 160, 0, 160, 0, [], []), (47, .if_icmp .le 10, 0, 0, 0, [31], []), (50, .aload_n 0, 0, 0, 0, [], []), (51, .bipush (-7), 0, (-7), 0, [], []), (53, .invokevirtual 93, 0, 0, 0, [126, 1, 1, 7, 5, 24], []), (56, .ireturn, 0, 0, 0, [], []), (57, .aload_n 0, 0, 0, 0, [], []), (58, .getfield 40, 0, 0, 0, [7, 13, 4, 143], []), (61, .iload_n 1, 0, 0, 0, [], []), (62, .bipush 100, 0, 100, 0, [], []), (64, .iload_n 2, 0, 0, 0, [], []), (65, .iadd, 0, 0, 0, [], []), (66, .iastore, 0, 0, 0, [], []), (67, .aload_n 0, 0, 0, 0, [], []), (68, .getfield 43, 0, 0, 0, [7, 14, 4, 144], []), (71, .iload_n 1, 0, 0, 0, [], []), (72, .iload_n 3, 0, 0, 0, [], []), (73, .iastore, 0, 0, 0, [], []), (74, .iconst 0, 0, 0, 0, [], []), (75, .istore 4, 0, 0, 0, [], []), (77, .iload 4, 46, 0, 0, [], [2, 3]), (79, .sipush 160, 0, 160, 0, [], []), (82, .if_icmp .ge 23, 0, 0, 0, [59], []), (85, .aload_n 0, 0, 0, 0, [], []), (86, .getfield 46, 0, 0, 0, [7, 15, 4, 145], []), (89, .sipush 160, 0, 160, 0, [], []), (92, .iload_n 1, 0, 0, 0, [], []), (93, .imul, 0, 0, 0, [], []), (94, .iload 4, 0, 0, 0, [], []), (96, .iadd, 0, 0, 0, [], []), (97, .lconst 0, 0, 0, 0, [], []), (98, .lastore, 0, 0, 0, [], []), (99, .iinc 4 1, 0, 1, 0, [], []), (102, .goto (-25), 0, 0, 0, [45], []), (105, .iconst 1, 0, 1, 0, [], []), (106, .ireturn, 0, 0, 0, [], [])]
def zT_M_noRow : zT := [(0, .iload_n 1, 0, 0, 0, [], []), (1, .iconst 0, 0, 0, 0, [], []), (2, .bipush 7, 0, 7, 0, [], []), (4, .invokestatic 100, 0, 0, 0, [128, 3, 3, 0, 5, 21], []), (7, .ifCond .ne 5, 0, 0, 0, [7], []), (10, .iconst (-1), 0, (-1), 0, [], []), (11, .ireturn, 0, 0, 0, [], []), (12, .aload_n 0, 0, 0, 0, [], []), (13, .getfield 40, 0, 0, 0, [7, 13, 4, 143], []), (16, .iload_n 1, 0, 0, 0, [], []), (17, .iaload, 0, 0, 0, [], []), (18, .ifCond .lt 14, 0, 0, 0, [18], []), (21, .aload_n 0, 0, 0, 0, [], []), (22, .iload_n 1, 0, 0, 0, [], []), (23, .invokevirtual 104, 0, 0, 0, [132, 1, 3, 7, 5, 36], []), (26, .ifCond .ne 6, 0, 0, 0, [18], []), (29, .bipush (-2), 0, (-2), 0, [], []), (31, .ireturn, 0, 0, 0, [], []), (32, .aload_n 0, 0, 0, 0, [], []), (33, .getfield 40, 0, 0, 0, [7, 13, 4, 143], []), (36, .iload_n 1, 0, 0, 0, [], []), (37, .iaload, 0, 0, 0, [], []), (38, .ifCond .ge 8, 0, 0, 0, [25], []), (41, .bipush (-3), 0, (-3), 0, [], []), (43, .goto 4, 0, 0, 0, [26], []), (46, .iconst 0, 0, 0, 0, [], []), (47, .ireturn, 0, 0, 0, [], [])]
def zT_M_set : zT := [(0, .aload_n 0, 0, 0, 0, [], []), (1, .iload_n 1, 0, 0, 0, [], []), (2, .invokevirtual 108, 0, 0, 0, [134, 1, 1, 7, 5, 32], []), (5, .istore 5, 0, 0, 0, [], []), (7, .iload 5, 0, 0, 0, [], []), (9, .ifCond .ge 10, 0, 0, 0, [10], []), (12, .aload_n 0, 0, 0, 0, [], []), (13, .iload 5, 0, 0, 0, [], []), (15, .invokevirtual 93, 0, 0, 0, [126, 1, 1, 7, 5, 24], []), (18, .ireturn, 0, 0, 0, [], []), (19, .iload_n 2, 0, 0, 0, [], []), (20, .iconst 0, 0, 0, 0, [], []), (21, .aload_n 0, 0, 0, 0, [], []), (22, .getfield 43, 0, 0, 0, [7, 14, 4, 144], []), (25, .iload_n 1, 0, 0, 0, [], []), (26, .iaload, 0, 0, 0, [], []), (27, .iconst 1, 0, 1, 0, [], []), (28, .isub, 0, 0, 0, [], []), (29, .invokestatic 100, 0, 0, 0, [128, 3, 3, 0, 5, 21], []), (32, .ifCond .ne 10, 0, 0, 0, [24], []), (35, .aload_n 0, 0, 0, 0, [], []), (36, .bipush (-5), 0, (-5), 0, [], []), (38, .invokevirtual 93, 0, 0, 0, [126, 1, 1, 7, 5, 24], []), (41, .ireturn, 0, 0, 0, [], []), (42, .aload_n 0, 0, 0, 0, [], []), (43, .getfield 40, 0, 0, 0, [7, 13, 4, 143], []), (46, .iload_n 1, 0, 0, 0, [], []), (47, .iaload, 0, 0, 0, [], []), (48, .bipush 100, 0, 100, 0, [], []), (50, .isub, 0, 0, 0, [], []), (51, .istore 6, 0, 0, 0, [], []), (53, .aload_n 0, 0, 0, 0, [], []), (54, .getfield 46, 0, 0, 0, [7, 15, 4, 145], []), (57, .sipush 160, 0, 160, 0, [], []), (60, .iload_n 1, 0, 0, 0, [], []), (61, .imul, 0, 0, 0, [], []), (62, .iload_n 2, 0, 0, 0, [], []), (63, .iadd, 0, 0, 0, [], []), (64, .iload 6, 0, 0, 0, [], []), (66, .ifCond .ne 10, 0, 0, 0, [45], []), (69, .lload_n 3, 0, 0, 0, [], []), (70, .l2i, 0, 0, 0, [], []), (71, .i2b, 0, 0, 0, [], []), (72, .i2l, 0, 0, 0, [], []), (73, .goto 29, 0, 0, 0, [61], []), (76, .iload 6, 0, 0, 0, [], []), (78, .iconst 1, 0, 1, 0, [], []), (79, .if_icmp .ne 10, 0, 0, 0, [53], []), (82, .lload_n 3, 0, 0, 0, [], []), (83, .l2i, 0, 0, 0, [], []), (84, .i2s, 0, 0, 0, [], []), (85, .i2l, 0, 0, 0, [], []), (86, .goto 16, 0, 0, 0, [61], []), (89, .iload 6, 0, 0, 0, [], []), (91, .iconst 2, 0, 2, 0, [], []), (92, .if_icmp .ne 9, 0, 0, 0, [60], []), (95, .lload_n 3, 0, 0, 0, [], []), (96, .l2i, 0, 0, 0, [], []), (97, .i2l, 0, 0, 0, [], []), (98, .goto 4, 0, 0, 0, [61], []), (101, .lload_n 3, 0, 0, 0, [], []), (102, .lastore, 0, 0, 0, [], []), (103, .iconst 1, 0, 1, 0, [], []), (104, .ireturn, 0, 0, 0, [], [])]
def zT_M_copy : zT := [(0, .iload_n 1, 0, 0, 0, [], []), (1, .iconst 0, 0, 0, 0, [], []), (2, .bipush 7, 0, 7, 0, [], []), (4, .invokestatic 100, 0, 0, 0, [128, 3, 3, 0, 5, 21], []), (7, .ifCond .eq 13, 0, 0, 0, [10], []), (10, .iload_n 2, 0, 0, 0, [], []), (11, .iconst 0, 0, 0, 0, [], []), (12, .bipush 7, 0, 7, 0, [], []), (14, .invokestatic 100, 0, 0, 0, [128, 3, 3, 0, 5, 21], []), (17, .ifCond .ne 9, 0, 0, 0, [14], []), (20, .aload_n 0, 0, 0, 0, [], []), (21, .iconst (-1), 0, (-1), 0, [], []), (22, .invokevirtual 93, 0, 0, 0, [126, 1, 1, 7, 5, 24], []), (25, .ireturn, 0, 0, 0, [], []), (26, .aload_n 0, 0, 0, 0, [], []), (27, .getfield 40, 0, 0, 0, [7, 13, 4, 143], []), (30, .iload_n 1, 0, 0, 0, [], []), (31, .iaload, 0, 0, 0, [], []), (32, .ifCond .lt 11, 0, 0, 0, [23], []), (35, .aload_n 0, 0, 0, 0, [], []), (36, .iload_n 1, 0, 0, 0, [], []), (37, .invokevirtual 104, 0, 0, 0, [132, 1, 3, 7, 5, 36], []), (40, .ifCond .eq 51, 0, 0, 0, [49], []), (43, .aload_n 0, 24, 0, 0, [], [6]), (44, .getfield 40, 0, 0, 0, [7, 13, 4, 143], []), (47, .iload_n 2, 0, 0, 0, [], []), (48, .iaload, 0, 0, 0, [], []), (49, .ifCond .lt 11, 0, 0, 0, [32], []), (52, .aload_n 0, 0, 0, 0, [], []), (53, .iload_n 2, 0, 0, 0, [], []), (54, .invokevirtual 104, 0, 0, 0, [132, 1, 3, 7, 5, 36], []), (57, .ifCond .eq 34, 0, 0, 0, [49], []), (60, .aload_n 0, 33, 0, 0, [], [6]), (61, .iload_n 1, 0, 0, 0, [], []), (62, .invokevirtual 104, 0, 0, 0, [132, 1, 3, 7, 5, 36], []), (65, .ifCond .eq 33, 0, 0, 0, [53], []), (68, .aload_n 0, 0, 0, 0, [], []), (69, .iload_n 2, 0, 0, 0, [], []), (70, .invokevirtual 104, 0, 0, 0, [132, 1, 3, 7, 5, 36], []), (73, .ifCond .eq 25, 0, 0, 0, [53], []), (76, .aload_n 0, 0, 0, 0, [], []), (77, .getfield 40, 0, 0, 0, [7, 13, 4, 143], []), (80, .iload_n 1, 0, 0, 0, [], []), (81, .iaload, 0, 0, 0, [], []), (82, .aload_n 0, 0, 0, 0, [], []), (83, .getfield 40, 0, 0, 0, [7, 13, 4, 143], []), (86, .iload_n 2, 0, 0, 0, [], []), (87, .iaload, 0, 0, 0, [], []), (88, .if_icmp .eq 10, 0, 0, 0, [53], []), (91, .aload_n 0, 0, 0, 0, [], []), (92, .bipush (-2), 0, (-2), 0, [], []), (94, .invokevirtual 93, 0, 0, 0, [126, 1, 1, 7, 5, 24], []), (97, .ireturn, 0, 0, 0, [], []), (98, .aload_n 0, 0, 0, 0, [], []), (99, .getfield 40, 0, 0, 0, [7, 13, 4, 143], []), (102, .iload_n 1, 0, 0, 0, [], []), (103, .iaload, 0, 0, 0, [], []), (104, .ifCond .lt 12, 0, 0, 0, [63], []), (107, .aload_n 0, 0, 0, 0, [], []), (108, .getfield 40, 0, 0, 0, [7, 13, 4, 143], []), (111, .iload_n 2, 0, 0, 0, [], []), (112, .iaload, 0, 0, 0, [], []), (113, .ifCond .ge 10, 0, 0, 0, [67], []), (116, .aload_n 0, 0, 0, 0, [], []), (117, .bipush (-3), 0, (-3), 0, [], []), (119, .invokevirtual 93, 0, 0, 0, [126, 1, 1, 7, 5, 24], []), (122, .ireturn, 0, 0, 0, [], []), (123, .iload 5, 0, 0, 0, [], []), (125, .ifCond .ge 10, 0, 0, 0, [73], []), (128, .aload_n 0, 0, 0, 0, [], []), (129, .bipush (-4), 0, (-4), 0, [], []), (131, .invokevirtual 93, 0, 0, 0, [126, 1, 1, 7, 5, 24], []), (134, .ireturn, 0, 0, 0, [], []), (135, .iload_n 3, 0, 0, 0, [], []), (136, .ifCond .lt 43, 0, 0, 0, [101], []), (139, .iload 4, 0, 0, 0, [], []), (141, .ifCond .lt 38, 0, 0, 0, [101], []), (144, .iload_n 3, 0, 0, 0, [], []), (145, .i2l, 0, 0, 0, [], []), (146, .iload 5, 0, 0, 0, [], []), (148, .i2l, 0, 0, 0, [], []), (149, .ladd, 0, 0, 0, [], []), (150, .aload_n 0, 0, 0, 0, [], []), (151, .getfield 43, 0, 0, 0, [7, 14, 4, 144], []), (154, .iload_n 1, 0, 0, 0, [], []), (155, .iaload, 0, 0, 0, [], []), (156, .i2l, 0, 0, 0, [], []), (157, .lcmp, 0, 0, 0, [], []), (158, .ifCond .gt 21, 0, 0, 0, [101], []), (161, .iload 4, 0, 0, 0, [], []), (163, .i2l, 0, 0, 0, [], []), (164, .iload 5, 0, 0, 0, [], []), (166, .i2l, 0, 0, 0, [], []), (167, .ladd, 0, 0, 0, [], []), (168, .aload_n 0, 0, 0, 0, [], []), (169, .getfield 43, 0, 0, 0, [7, 14, 4, 144], []), (172, .iload_n 2, 0, 0, 0, [], []), (173, .iaload, 0, 0, 0, [], []), (174, .i2l, 0, 0, 0, [], []), (175, .lcmp, 0, 0, 0, [], []), (176, .ifCond .le 10, 0, 0, 0, [105], []), (179, .aload_n 0, 0, 0, 0, [], []), (180, .bipush (-5), 0, (-5), 0, [], []), (182, .invokevirtual 93, 0, 0, 0, [126, 1, 1, 7, 5, 24], []), (185, .ireturn, 0, 0, 0, [], []), (186, .iload_n 1, 0, 0, 0, [], []), (187, .iload_n 2, 0, 0, 0, [], []), (188, .if_icmp .ne 60, 0, 0, 0, [140], []), (191, .iload_n 3, 0, 0, 0, [], []), (192, .iload 4, 0, 0, 0, [], []), (194, .if_icmp .ge 54, 0, 0, 0, [140], []), (197, .iload 5, 0, 0, 0, [], []), (199, .iconst 1, 0, 1, 0, [], []), (200, .isub, 0, 0, 0, [], []), (201, .istore 6, 0, 0, 0, [], []), (203, .iload 6, 116, 0, 0, [], [5]), (205, .ifCond .lt 40, 0, 0, 0, [139], []), (208, .aload_n 0, 0, 0, 0, [], []), (209, .getfield 46, 0, 0, 0, [7, 15, 4, 145], []), (212, .sipush 160, 0, 160, 0, [], []), (215, .iload_n 2, 0, 0, 0, [], []), (216, .imul, 0, 0, 0, [], []), (217, .iload 4, 0, 0, 0, [], []), (219, .iadd, 0, 0, 0, [], []), (220, .iload 6, 0, 0, 0, [], []), (222, .iadd, 0, 0, 0, [], []), (223, .aload_n 0, 0, 0, 0, [], []), (224, .getfield 46, 0, 0, 0, [7, 15, 4, 145], []), (227, .sipush 160, 0, 160, 0, [], []), (230, .iload_n 1, 0, 0, 0, [], []), (231, .imul, 0, 0, 0, [], []), (232, .iload_n 3, 0, 0, 0, [], []), (233, .iadd, 0, 0, 0, [], []), (234, .iload 6, 0, 0, 0, [], []), (236, .iadd, 0, 0, 0, [], []), (237, .laload, 0, 0, 0, [], []), (238, .lastore, 0, 0, 0, [], []), (239, .iinc 6 (-1), 0, (-1), 0, [], []), (242, .goto (-39), 0, 0, 0, [115], []), (245, .goto 50, 0, 0, 0, [167], []), (248, .iconst 0, 0, 0, 0, [], []), (249, .istore 6, 0, 0, 0, [], []), (251, .iload 6, 143, 0, 0, [], []), (253, .iload 5, 0, 0, 0, [], []), (255, .if_icmp .ge 40, 0, 0, 0, [167], []), (258, .aload_n 0, 0, 0, 0, [], []), (259, .getfield 46, 0, 0, 0, [7, 15, 4, 145], []), (262, .sipush 160, 0, 160, 0, [], []), (265, .iload_n 2, 0, 0, 0, [], []), (266, .imul, 0, 0, 0, [], []), (267, .iload 4, 0, 0, 0, [], []), (269, .iadd, 0, 0, 0, [], []), (270, .iload 6, 0, 0, 0, [], []), (272, .iadd, 0, 0, 0, [], []), (273, .aload_n 0, 0, 0, 0, [], []), (274, .getfield 46, 0, 0, 0, [7, 15, 4, 145], []), (277, .sipush 160, 0, 160, 0, [], []), (280, .iload_n 1, 0, 0, 0, [], []), (281, .imul, 0, 0, 0, [], []), (282, .iload_n 3, 0, 0, 0, [], []), (283, .iadd, 0, 0, 0, [], []), (284, .iload 6, 0, 0, 0, [], []), (286, .iadd, 0, 0, 0, [], []), (287, .laload, 0, 0, 0, [], []), (288, .lastore, 0, 0, 0, [], []), (289, .iinc 6 1, 0, 1, 0, [], []), (292, .goto (-41), 0, 0, 0, [142], []), (295, .iconst 1, 0, 1, 0, [], []), (296, .ireturn, 0, 0, 0, [], [])]
def zT_M_element : zT := [(0, .iload_n 1, 0, 0, 0, [], []), (1, .iconst 0, 0, 0, 0, [], []), (2, .bipush 7, 0, 7, 0, [], []), (4, .invokestatic 100, 0, 0, 0, [128, 3, 3, 0, 5, 21], []), (7, .ifCond .eq 42, 0, 0, 0, [28], []), (10, .aload_n 0, 0, 0, 0, [], []), (11, .iload_n 1, 0, 0, 0, [], []), (12, .invokevirtual 104, 0, 0, 0, [132, 1, 3, 7, 5, 36], []), (15, .ifCond .eq 34, 0, 0, 0, [28], []), (18, .iload_n 2, 0, 0, 0, [], []), (19, .iconst 0, 0, 0, 0, [], []), (20, .aload_n 0, 0, 0, 0, [], []), (21, .getfield 43, 0, 0, 0, [7, 14, 4, 144], []), (24, .iload_n 1, 0, 0, 0, [], []), (25, .iaload, 0, 0, 0, [], []), (26, .iconst 1, 0, 1, 0, [], []), (27, .isub, 0, 0, 0, [], []), (28, .invokestatic 100, 0, 0, 0, [128, 3, 3, 0, 5, 21], []), (31, .ifCond .eq 18, 0, 0, 0, [28], []), (34, .aload_n 0, 0, 0, 0, [], []), (35, .getfield 46, 0, 0, 0, [7, 15, 4, 145], []), (38, .sipush 160, 0, 160, 0, [], []), (41, .iload_n 1, 0, 0, 0, [], []), (42, .imul, 0, 0, 0, [], []), (43, .iload_n 2, 0, 0, 0, [], []), (44, .iadd, 0, 0, 0, [], []), (45, .laload, 0, 0, 0, [], []), (46, .goto 4, 0, 0, 0, [29], []), (49, .lconst 0, 0, 0, 0, [], []), (50, .lreturn, 0, 0, 0, [], [])]
def zT_M_show : zT := [(0, .iload_n 1, 0, 0, 0, [], []), (1, .iconst 0, 0, 0, 0, [], []), (2, .bipush 7, 0, 7, 0, [], []), (4, .invokestatic 100, 0, 0, 0, [128, 3, 3, 0, 5, 21], []), (7, .ifCond .eq 16, 0, 0, 0, [12], []), (10, .iload_n 2, 0, 0, 0, [], []), (11, .iconst (-1), 0, (-1), 0, [], []), (12, .if_icmp .eq 17, 0, 0, 0, [16], []), (15, .aload_n 0, 0, 0, 0, [], []), (16, .iload_n 2, 0, 0, 0, [], []), (17, .invokevirtual 111, 0, 0, 0, [129, 1, 3, 7, 5, 52], []), (20, .ifCond .ne 9, 0, 0, 0, [16], []), (23, .aload_n 0, 0, 0, 0, [], []), (24, .iconst (-1), 0, (-1), 0, [], []), (25, .invokevirtual 93, 0, 0, 0, [126, 1, 1, 7, 5, 24], []), (28, .ireturn, 0, 0, 0, [], []), (29, .aload_n 0, 0, 0, 0, [], []), (30, .getfield 40, 0, 0, 0, [7, 13, 4, 143], []), (33, .iload_n 1, 0, 0, 0, [], []), (34, .iload_n 2, 0, 0, 0, [], []), (35, .iastore, 0, 0, 0, [], []), (36, .iload_n 2, 0, 0, 0, [], []), (37, .iconst (-1), 0, (-1), 0, [], []), (38, .if_icmp .ne 7, 0, 0, 0, [26], []), (41, .iconst 0, 0, 0, 0, [], []), (42, .goto 4, 0, 0, 0, [27], []), (45, .iconst 1, 0, 1, 0, [], []), (46, .ireturn, 0, 0, 0, [], [])]
def zT_M_holds : zT := [(0, .iload_n 1, 0, 0, 0, [], []), (1, .iconst 0, 0, 0, 0, [], []), (2, .bipush 7, 0, 7, 0, [], []), (4, .invokestatic 100, 0, 0, 0, [128, 3, 3, 0, 5, 21], []), (7, .ifCond .eq 12, 0, 0, 0, [10], []), (10, .aload_n 0, 0, 0, 0, [], []), (11, .getfield 40, 0, 0, 0, [7, 13, 4, 143], []), (14, .iload_n 1, 0, 0, 0, [], []), (15, .iaload, 0, 0, 0, [], []), (16, .goto 4, 0, 0, 0, [11], []), (19, .iconst (-1), 0, (-1), 0, [], []), (20, .ireturn, 0, 0, 0, [], [])]
def zT_M_says : zT := [(0, .iload_n 1, 0, 0, 0, [], []), (1, .iconst 0, 0, 0, 0, [], []), (2, .bipush 7, 0, 7, 0, [], []), (4, .invokestatic 100, 0, 0, 0, [128, 3, 3, 0, 5, 21], []), (7, .ifCond .eq 12, 0, 0, 0, [10], []), (10, .iload_n 2, 0, 0, 0, [], []), (11, .iconst 0, 0, 0, 0, [], []), (12, .iconst 3, 0, 3, 0, [], []), (13, .invokestatic 100, 0, 0, 0, [128, 3, 3, 0, 5, 21], []), (16, .ifCond .ne 9, 0, 0, 0, [14], []), (19, .aload_n 0, 0, 0, 0, [], []), (20, .iconst (-1), 0, (-1), 0, [], []), (21, .invokevirtual 93, 0, 0, 0, [126, 1, 1, 7, 5, 24], []), (24, .ireturn, 0, 0, 0, [], []), (25, .aload_n 0, 0, 0, 0, [], []), (26, .getfield 40, 0, 0, 0, [7, 13, 4, 143], []), (29, .iload_n 1, 0, 0, 0, [], []), (30, .iaload, 0, 0, 0, [], []), (31, .istore_n 3, 0, 0, 0, [], []), (32, .iload_n 3, 0, 0, 0, [], []), (33, .ifCond .lt 47, 0, 0, 0, [46], []), (36, .aload_n 0, 0, 0, 0, [], []), (37, .iload_n 1, 0, 0, 0, [], []), (38, .invokevirtual 104, 0, 0, 0, [132, 1, 3, 7, 5, 36], []), (41, .ifCond .ne 32, 0, 0, 0, [42], []), (44, .iload_n 2, 0, 0, 0, [], []), (45, .ifCond .eq 35, 0, 0, 0, [46], []), (48, .aload_n 0, 0, 0, 0, [], []), (49, .getfield 7, 0, 0, 0, [7, 1, 4, 131], []), (52, .iload_n 3, 0, 0, 0, [], []), (53, .iaload, 0, 0, 0, [], []), (54, .iload_n 2, 0, 0, 0, [], []), (55, .if_icmp .eq 25, 0, 0, 0, [46], []), (58, .iload_n 2, 0, 0, 0, [], []), (59, .iconst 1, 0, 1, 0, [], []), (60, .if_icmp .ne 13, 0, 0, 0, [42], []), (63, .aload_n 0, 0, 0, 0, [], []), (64, .getfield 7, 0, 0, 0, [7, 1, 4, 131], []), (67, .iload_n 3, 0, 0, 0, [], []), (68, .iaload, 0, 0, 0, [], []), (69, .iconst 3, 0, 3, 0, [], []), (70, .if_icmp .eq 10, 0, 0, 0, [46], []), (73, .aload_n 0, 0, 0, 0, [], []), (74, .bipush (-2), 0, (-2), 0, [], []), (76, .invokevirtual 93, 0, 0, 0, [126, 1, 1, 7, 5, 24], []), (79, .ireturn, 0, 0, 0, [], []), (80, .iload_n 3, 47, 0, 0, [], [1]), (81, .ifCond .ge 10, 0, 0, 0, [52], []), (84, .aload_n 0, 0, 0, 0, [], []), (85, .bipush (-3), 0, (-3), 0, [], []), (87, .invokevirtual 93, 0, 0, 0, [126, 1, 1, 7, 5, 24], []), (90, .ireturn, 0, 0, 0, [], []), (91, .iload_n 2, 0, 0, 0, [], []), (92, .tableswitch 52 0 2 #[28, 35, 45], 0, 0, 0, [28, 70, 54, 59, 65], []), (120, .aload_n 0, 0, 0, 0, [], []), (121, .getfield 19, 0, 0, 0, [7, 4, 4, 134], []), (124, .iload_n 3, 0, 0, 0, [], []), (125, .iaload, 0, 0, 0, [], []), (126, .ireturn, 0, 0, 0, [], []), (127, .aload_n 0, 0, 0, 0, [], []), (128, .getfield 25, 0, 0, 0, [7, 6, 4, 136], []), (131, .iload_n 3, 0, 0, 0, [], []), (132, .iaload, 0, 0, 0, [], []), (133, .invokestatic 114, 0, 0, 0, [215, 1, 1, 0, 5, 64], []), (136, .ireturn, 0, 0, 0, [], []), (137, .aload_n 0, 0, 0, 0, [], []), (138, .getfield 13, 0, 0, 0, [7, 2, 4, 132], []), (141, .iload_n 3, 0, 0, 0, [], []), (142, .iaload, 0, 0, 0, [], []), (143, .ireturn, 0, 0, 0, [], []), (144, .aload_n 0, 0, 0, 0, [], []), (145, .getfield 25, 0, 0, 0, [7, 6, 4, 136], []), (148, .iload_n 3, 0, 0, 0, [], []), (149, .iaload, 0, 0, 0, [], []), (150, .ireturn, 0, 0, 0, [], [])]
def zT_M_lays : zT := [(0, .aload_n 0, 0, 0, 0, [], []), (1, .getfield 59, 0, 0, 0, [7, 24, 4, 154], []), (4, .iload_n 1, 0, 0, 0, [], []), (5, .iconst 0, 0, 0, 0, [], []), (6, .iastore, 0, 0, 0, [], []), (7, .aload_n 0, 0, 0, 0, [], []), (8, .getfield 62, 0, 0, 0, [7, 25, 4, 155], []), (11, .iload_n 1, 0, 0, 0, [], []), (12, .iload 4, 0, 0, 0, [], []), (14, .iastore, 0, 0, 0, [], []), (15, .iconst 0, 0, 0, 0, [], []), (16, .istore 5, 0, 0, 0, [], []), (18, .iload 5, 13, 0, 0, [], []), (20, .iload 4, 0, 0, 0, [], []), (22, .if_icmp .ge 27, 0, 0, 0, [30], []), (25, .aload_n 0, 0, 0, 0, [], []), (26, .getfield 56, 0, 0, 0, [7, 23, 4, 153], []), (29, .bipush 17, 0, 17, 0, [], []), (31, .iload_n 1, 0, 0, 0, [], []), (32, .imul, 0, 0, 0, [], []), (33, .iload 5, 0, 0, 0, [], []), (35, .iadd, 0, 0, 0, [], []), (36, .aload_n 2, 0, 0, 0, [], []), (37, .iload_n 3, 0, 0, 0, [], []), (38, .iload 5, 0, 0, 0, [], []), (40, .iadd, 0, 0, 0, [], []), (41, .iaload, 0, 0, 0, [], []), (42, .iastore, 0, 0, 0, [], []), (43, .iinc 5 1, 0, 1, 0, [], []), (46, .goto (-28), 0, 0, 0, [12], []), (49, .return_, 0, 0, 0, [], [])]
def zT_M_isBehind : zT := [(0, .iconst 0, 0, 0, 0, [], []), (1, .istore_n 3, 0, 0, 0, [], []), (2, .iload_n 3, 3, 0, 0, [], [4]), (3, .iload_n 2, 0, 0, 0, [], []), (4, .if_icmp .ge 54, 0, 0, 0, [34], []), (7, .aload_n 0, 0, 0, 0, [], []), (8, .getfield 59, 0, 0, 0, [7, 24, 4, 154], []), (11, .iload_n 3, 0, 0, 0, [], []), (12, .iaload, 0, 0, 0, [], []), (13, .iconst 1, 0, 1, 0, [], []), (14, .iadd, 0, 0, 0, [], []), (15, .istore 4, 0, 0, 0, [], []), (17, .iload 4, 13, 0, 0, [], []), (19, .aload_n 0, 0, 0, 0, [], []), (20, .getfield 62, 0, 0, 0, [7, 25, 4, 155], []), (23, .iload_n 3, 0, 0, 0, [], []), (24, .iaload, 0, 0, 0, [], []), (25, .if_icmp .ge 27, 0, 0, 0, [32], []), (28, .aload_n 0, 0, 0, 0, [], []), (29, .getfield 56, 0, 0, 0, [7, 23, 4, 153], []), (32, .bipush 17, 0, 17, 0, [], []), (34, .iload_n 3, 0, 0, 0, [], []), (35, .imul, 0, 0, 0, [], []), (36, .iload 4, 0, 0, 0, [], []), (38, .iadd, 0, 0, 0, [], []), (39, .iaload, 0, 0, 0, [], []), (40, .iload_n 1, 0, 0, 0, [], []), (41, .if_icmp .ne 5, 0, 0, 0, [30], []), (44, .iconst 1, 0, 1, 0, [], []), (45, .ireturn, 0, 0, 0, [], []), (46, .iinc 4 1, 0, 1, 0, [], []), (49, .goto (-32), 0, 0, 0, [12], []), (52, .iinc 3 1, 0, 1, 0, [], []), (55, .goto (-53), 0, 0, 0, [2], []), (58, .iconst 0, 0, 0, 0, [], []), (59, .ireturn, 0, 0, 0, [], [])]
def zT_M_next : zT := [(0, .iconst 0, 0, 0, 0, [], []), (1, .istore_n 2, 0, 0, 0, [], []), (2, .iload_n 2, 3, 0, 0, [], []), (3, .iload_n 1, 0, 0, 0, [], []), (4, .if_icmp .ge 65, 0, 0, 0, [43], []), (7, .aload_n 0, 0, 0, 0, [], []), (8, .getfield 59, 0, 0, 0, [7, 24, 4, 154], []), (11, .iload_n 2, 0, 0, 0, [], []), (12, .iaload, 0, 0, 0, [], []), (13, .aload_n 0, 0, 0, 0, [], []), (14, .getfield 62, 0, 0, 0, [7, 25, 4, 155], []), (17, .iload_n 2, 0, 0, 0, [], []), (18, .iaload, 0, 0, 0, [], []), (19, .if_icmp .ge 44, 0, 0, 0, [41], []), (22, .aload_n 0, 0, 0, 0, [], []), (23, .aload_n 0, 0, 0, 0, [], []), (24, .getfield 56, 0, 0, 0, [7, 23, 4, 153], []), (27, .bipush 17, 0, 17, 0, [], []), (29, .iload_n 2, 0, 0, 0, [], []), (30, .imul, 0, 0, 0, [], []), (31, .aload_n 0, 0, 0, 0, [], []), (32, .getfield 59, 0, 0, 0, [7, 24, 4, 154], []), (35, .iload_n 2, 0, 0, 0, [], []), (36, .iaload, 0, 0, 0, [], []), (37, .iadd, 0, 0, 0, [], []), (38, .iaload, 0, 0, 0, [], []), (39, .iload_n 1, 0, 0, 0, [], []), (40, .invokevirtual 119, 0, 0, 0, [142, 2, 3, 7, 5, 93], []), (43, .ifCond .ne 20, 0, 0, 0, [41], []), (46, .aload_n 0, 0, 0, 0, [], []), (47, .getfield 56, 0, 0, 0, [7, 23, 4, 153], []), (50, .bipush 17, 0, 17, 0, [], []), (52, .iload_n 2, 0, 0, 0, [], []), (53, .imul, 0, 0, 0, [], []), (54, .aload_n 0, 0, 0, 0, [], []), (55, .getfield 59, 0, 0, 0, [7, 24, 4, 154], []), (58, .iload_n 2, 0, 0, 0, [], []), (59, .iaload, 0, 0, 0, [], []), (60, .iadd, 0, 0, 0, [], []), (61, .iaload, 0, 0, 0, [], []), (62, .ireturn, 0, 0, 0, [], []), (63, .iinc 2 1, 0, 1, 0, [], []), (66, .goto (-64), 0, 0, 0, [2], []), (69, .iconst (-1), 0, (-1), 0, [], []), (70, .ireturn, 0, 0, 0, [], [])]
def zT_M_merges : zT := [(0, .iload_n 3, 0, 0, 0, [], []), (1, .istore 4, 0, 0, 0, [], []), (3, .iconst 0, 0, 0, 0, [], []), (4, .istore 5, 0, 0, 0, [], []), (6, .iload 5, 5, 0, 0, [], [6]), (8, .iload_n 3, 0, 0, 0, [], []), (9, .if_icmp .ge 55, 0, 0, 0, [40], []), (12, .aload_n 0, 0, 0, 0, [], []), (13, .iload 5, 0, 0, 0, [], []), (15, .aload_n 0, 0, 0, 0, [], []), (16, .getfield 22, 0, 0, 0, [7, 5, 4, 135], []), (19, .bipush 16, 0, 16, 0, [], []), (21, .aload_n 1, 0, 0, 0, [], []), (22, .iload_n 2, 0, 0, 0, [], []), (23, .iload 5, 0, 0, 0, [], []), (25, .iadd, 0, 0, 0, [], []), (26, .iaload, 0, 0, 0, [], []), (27, .imul, 0, 0, 0, [], []), (28, .aload_n 0, 0, 0, 0, [], []), (29, .getfield 19, 0, 0, 0, [7, 4, 4, 134], []), (32, .aload_n 1, 0, 0, 0, [], []), (33, .iload_n 2, 0, 0, 0, [], []), (34, .iload 5, 0, 0, 0, [], []), (36, .iadd, 0, 0, 0, [], []), (37, .iaload, 0, 0, 0, [], []), (38, .iaload, 0, 0, 0, [], []), (39, .invokevirtual 123, 0, 0, 0, [141, 4, 0, 7, 5, 85], []), (42, .iload 4, 0, 0, 0, [], []), (44, .aload_n 0, 0, 0, 0, [], []), (45, .getfield 19, 0, 0, 0, [7, 4, 4, 134], []), (48, .aload_n 1, 0, 0, 0, [], []), (49, .iload_n 2, 0, 0, 0, [], []), (50, .iload 5, 0, 0, 0, [], []), (52, .iadd, 0, 0, 0, [], []), (53, .iaload, 0, 0, 0, [], []), (54, .iaload, 0, 0, 0, [], []), (55, .iadd, 0, 0, 0, [], []), (56, .istore 4, 0, 0, 0, [], []), (58, .iinc 5 1, 0, 1, 0, [], []), (61, .goto (-55), 0, 0, 0, [4], []), (64, .aload_n 0, 0, 0, 0, [], []), (65, .iload_n 3, 0, 0, 0, [], []), (66, .aload_n 1, 0, 0, 0, [], []), (67, .iload_n 2, 0, 0, 0, [], []), (68, .iload_n 3, 0, 0, 0, [], []), (69, .invokevirtual 123, 0, 0, 0, [141, 4, 0, 7, 5, 85], []), (72, .aload_n 0, 0, 0, 0, [], []), (73, .iconst 0, 0, 0, 0, [], []), (74, .putfield 127, 0, 0, 0, [7, 27, 0, 4, 157], []), (77, .iload 4, 50, 0, 0, [], [1, 2, 5, 6]), (79, .ifCond .le 116, 0, 0, 0, [114], []), (82, .aload_n 0, 0, 0, 0, [], []), (83, .iload_n 3, 0, 0, 0, [], []), (84, .iconst 1, 0, 1, 0, [], []), (85, .iadd, 0, 0, 0, [], []), (86, .invokevirtual 130, 0, 0, 0, [143, 1, 1, 7, 5, 89], []), (89, .istore 5, 0, 0, 0, [], []), (91, .iload 5, 0, 0, 0, [], []), (93, .iconst (-1), 0, (-1), 0, [], []), (94, .if_icmp .ne 5, 0, 0, 0, [62], []), (97, .iconst 0, 0, 0, 0, [], []), (98, .ireturn, 0, 0, 0, [], []), (99, .aload_n 0, 0, 0, 0, [], []), (100, .getfield 65, 0, 0, 0, [7, 26, 4, 156], []), (103, .aload_n 0, 0, 0, 0, [], []), (104, .getfield 127, 0, 0, 0, [7, 27, 4, 157], []), (107, .iload 5, 0, 0, 0, [], []), (109, .iastore, 0, 0, 0, [], []), (110, .aload_n 0, 0, 0, 0, [], []), (111, .dup, 0, 0, 0, [], []), (112, .getfield 127, 0, 0, 0, [7, 27, 4, 157], []), (115, .iconst 1, 0, 1, 0, [], []), (116, .iadd, 0, 0, 0, [], []), (117, .putfield 127, 0, 0, 0, [7, 27, 0, 4, 157], []), (120, .iconst 0, 0, 0, 0, [], []), (121, .istore 6, 0, 0, 0, [], []), (123, .iload 6, 77, 0, 0, [], [1, 2]), (125, .iload_n 3, 0, 0, 0, [], []), (126, .if_icmp .gt 66, 0, 0, 0, [113], []), (129, .aload_n 0, 0, 0, 0, [], []), (130, .getfield 59, 0, 0, 0, [7, 24, 4, 154], []), (133, .iload 6, 0, 0, 0, [], []), (135, .iaload, 0, 0, 0, [], []), (136, .aload_n 0, 0, 0, 0, [], []), (137, .getfield 62, 0, 0, 0, [7, 25, 4, 155], []), (140, .iload 6, 0, 0, 0, [], []), (142, .iaload, 0, 0, 0, [], []), (143, .if_icmp .eq 43, 0, 0, 0, [111], []), (146, .aload_n 0, 0, 0, 0, [], []), (147, .getfield 56, 0, 0, 0, [7, 23, 4, 153], []), (150, .bipush 17, 0, 17, 0, [], []), (152, .iload 6, 0, 0, 0, [], []), (154, .imul, 0, 0, 0, [], []), (155, .aload_n 0, 0, 0, 0, [], []), (156, .getfield 59, 0, 0, 0, [7, 24, 4, 154], []), (159, .iload 6, 0, 0, 0, [], []), (161, .iaload, 0, 0, 0, [], []), (162, .iadd, 0, 0, 0, [], []), (163, .iaload, 0, 0, 0, [], []), (164, .iload 5, 0, 0, 0, [], []), (166, .if_icmp .eq 6, 0, 0, 0, [102], []), (169, .goto 17, 0, 0, 0, [111], []), (172, .aload_n 0, 0, 0, 0, [], []), (173, .getfield 59, 0, 0, 0, [7, 24, 4, 154], []), (176, .iload 6, 0, 0, 0, [], []), (178, .dup2, 0, 0, 0, [], []), (179, .iaload, 0, 0, 0, [], []), (180, .iconst 1, 0, 1, 0, [], []), (181, .iadd, 0, 0, 0, [], []), (182, .iastore, 0, 0, 0, [], []), (183, .iinc 4 (-1), 0, (-1), 0, [], []), (186, .iinc 6 1, 0, 1, 0, [], []), (189, .goto (-66), 0, 0, 0, [76], []), (192, .goto (-115), 0, 0, 0, [49], []), (195, .iconst 1, 0, 1, 0, [], []), (196, .ireturn, 0, 0, 0, [], [])]
def zT_M_isFit : zT := [(0, .iconst 0, 0, 0, 0, [], []), (1, .istore_n 2, 0, 0, 0, [], []), (2, .iload_n 2, 3, 0, 0, [], [3]), (3, .iload_n 1, 0, 0, 0, [], []), (4, .if_icmp .ge 56, 0, 0, 0, [36], []), (7, .aload_n 0, 0, 0, 0, [], []), (8, .getfield 7, 0, 0, 0, [7, 1, 4, 131], []), (11, .aload_n 0, 0, 0, 0, [], []), (12, .getfield 50, 0, 0, 0, [7, 21, 4, 151], []), (15, .iload_n 2, 0, 0, 0, [], []), (16, .iaload, 0, 0, 0, [], []), (17, .iaload, 0, 0, 0, [], []), (18, .iconst 2, 0, 2, 0, [], []), (19, .if_icmp .ne 5, 0, 0, 0, [16], []), (22, .iconst 0, 0, 0, 0, [], []), (23, .ireturn, 0, 0, 0, [], []), (24, .iconst 0, 0, 0, 0, [], []), (25, .istore_n 3, 0, 0, 0, [], []), (26, .iload_n 3, 19, 0, 0, [], []), (27, .iload_n 2, 0, 0, 0, [], []), (28, .if_icmp .ge 26, 0, 0, 0, [34], []), (31, .aload_n 0, 0, 0, 0, [], []), (32, .getfield 50, 0, 0, 0, [7, 21, 4, 151], []), (35, .iload_n 2, 0, 0, 0, [], []), (36, .iaload, 0, 0, 0, [], []), (37, .aload_n 0, 0, 0, 0, [], []), (38, .getfield 50, 0, 0, 0, [7, 21, 4, 151], []), (41, .iload_n 3, 0, 0, 0, [], []), (42, .iaload, 0, 0, 0, [], []), (43, .if_icmp .ne 5, 0, 0, 0, [32], []), (46, .iconst 0, 0, 0, 0, [], []), (47, .ireturn, 0, 0, 0, [], []), (48, .iinc 3 1, 0, 1, 0, [], []), (51, .goto (-25), 0, 0, 0, [18], []), (54, .iinc 2 1, 0, 1, 0, [], []), (57, .goto (-55), 0, 0, 0, [2], []), (60, .iconst 1, 0, 1, 0, [], []), (61, .ireturn, 0, 0, 0, [], [])]
def zT_M_newObject : zT := [(0, .aload_n 0, 0, 0, 0, [], []), (1, .dup, 0, 0, 0, [], []), (2, .getfield 97, 0, 0, 0, [7, 0, 4, 130], []), (5, .dup_x1, 0, 0, 0, [], []), (6, .iconst 1, 0, 1, 0, [], []), (7, .iadd, 0, 0, 0, [], []), (8, .putfield 97, 0, 0, 0, [7, 0, 0, 4, 130], []), (11, .istore_n 3, 0, 0, 0, [], []), (12, .aload_n 0, 0, 0, 0, [], []), (13, .getfield 7, 0, 0, 0, [7, 1, 4, 131], []), (16, .iload_n 3, 0, 0, 0, [], []), (17, .iload_n 1, 0, 0, 0, [], []), (18, .iastore, 0, 0, 0, [], []), (19, .aload_n 0, 0, 0, 0, [], []), (20, .getfield 13, 0, 0, 0, [7, 2, 4, 132], []), (23, .iload_n 3, 0, 0, 0, [], []), (24, .iload_n 2, 0, 0, 0, [], []), (25, .iastore, 0, 0, 0, [], []), (26, .iconst 0, 0, 0, 0, [], []), (27, .istore 4, 0, 0, 0, [], []), (29, .iload 4, 21, 0, 0, [], [1]), (31, .iconst 3, 0, 3, 0, [], []), (32, .if_icmp .ge 37, 0, 0, 0, [42], []), (35, .aload_n 0, 0, 0, 0, [], []), (36, .getfield 16, 0, 0, 0, [7, 3, 4, 133], []), (39, .iconst 3, 0, 3, 0, [], []), (40, .iload_n 3, 0, 0, 0, [], []), (41, .imul, 0, 0, 0, [], []), (42, .iload 4, 0, 0, 0, [], []), (44, .iadd, 0, 0, 0, [], []), (45, .iload 4, 0, 0, 0, [], []), (47, .iload_n 2, 0, 0, 0, [], []), (48, .if_icmp .ge 13, 0, 0, 0, [38], []), (51, .aload_n 0, 0, 0, 0, [], []), (52, .getfield 50, 0, 0, 0, [7, 21, 4, 151], []), (55, .iload 4, 0, 0, 0, [], []), (57, .iaload, 0, 0, 0, [], []), (58, .goto 4, 0, 0, 0, [39], []), (61, .iconst (-1), 0, (-1), 0, [], []), (62, .iastore, 0, 0, 0, [], []), (63, .iinc 4 1, 0, 1, 0, [], []), (66, .goto (-37), 0, 0, 0, [20], []), (69, .aload_n 0, 0, 0, 0, [], []), (70, .getfield 19, 0, 0, 0, [7, 4, 4, 134], []), (73, .iload_n 3, 0, 0, 0, [], []), (74, .aload_n 0, 0, 0, 0, [], []), (75, .getfield 127, 0, 0, 0, [7, 27, 4, 157], []), (78, .iconst 1, 0, 1, 0, [], []), (79, .iadd, 0, 0, 0, [], []), (80, .iastore, 0, 0, 0, [], []), (81, .aload_n 0, 0, 0, 0, [], []), (82, .getfield 22, 0, 0, 0, [7, 5, 4, 135], []), (85, .bipush 16, 0, 16, 0, [], []), (87, .iload_n 3, 0, 0, 0, [], []), (88, .imul, 0, 0, 0, [], []), (89, .iload_n 3, 0, 0, 0, [], []), (90, .iastore, 0, 0, 0, [], []), (91, .iconst 0, 0, 0, 0, [], []), (92, .istore 4, 0, 0, 0, [], []), (94, .iload 4, 60, 0, 0, [], [1, 2]), (96, .aload_n 0, 0, 0, 0, [], []), (97, .getfield 127, 0, 0, 0, [7, 27, 4, 157], []), (100, .if_icmp .ge 30, 0, 0, 0, [79], []), (103, .aload_n 0, 0, 0, 0, [], []), (104, .getfield 22, 0, 0, 0, [7, 5, 4, 135], []), (107, .bipush 16, 0, 16, 0, [], []), (109, .iload_n 3, 0, 0, 0, [], []), (110, .imul, 0, 0, 0, [], []), (111, .iconst 1, 0, 1, 0, [], []), (112, .iadd, 0, 0, 0, [], []), (113, .iload 4, 0, 0, 0, [], []), (115, .iadd, 0, 0, 0, [], []), (116, .aload_n 0, 0, 0, 0, [], []), (117, .getfield 65, 0, 0, 0, [7, 26, 4, 156], []), (120, .iload 4, 0, 0, 0, [], []), (122, .iaload, 0, 0, 0, [], []), (123, .iastore, 0, 0, 0, [], []), (124, .iinc 4 1, 0, 1, 0, [], []), (127, .goto (-33), 0, 0, 0, [59], []), (130, .aload_n 0, 0, 0, 0, [], []), (131, .getfield 25, 0, 0, 0, [7, 6, 4, 136], []), (134, .iload_n 3, 0, 0, 0, [], []), (135, .iconst 0, 0, 0, 0, [], []), (136, .iastore, 0, 0, 0, [], []), (137, .aload_n 0, 0, 0, 0, [], []), (138, .getfield 28, 0, 0, 0, [7, 7, 4, 137], []), (141, .iload_n 3, 0, 0, 0, [], []), (142, .iconst 0, 0, 0, 0, [], []), (143, .iastore, 0, 0, 0, [], []), (144, .iload_n 3, 0, 0, 0, [], []), (145, .ireturn, 0, 0, 0, [], [])]
def zT_M_tells : zT := [(0, .aload_n 0, 0, 0, 0, [], []), (1, .getfield 50, 0, 0, 0, [7, 21, 4, 151], []), (4, .iconst 0, 0, 0, 0, [], []), (5, .iload_n 1, 0, 0, 0, [], []), (6, .iastore, 0, 0, 0, [], []), (7, .aload_n 0, 0, 0, 0, [], []), (8, .getfield 50, 0, 0, 0, [7, 21, 4, 151], []), (11, .iconst 1, 0, 1, 0, [], []), (12, .iload_n 2, 0, 0, 0, [], []), (13, .iastore, 0, 0, 0, [], []), (14, .aload_n 0, 0, 0, 0, [], []), (15, .getfield 50, 0, 0, 0, [7, 21, 4, 151], []), (18, .iconst 2, 0, 2, 0, [], []), (19, .iload_n 3, 0, 0, 0, [], []), (20, .iastore, 0, 0, 0, [], []), (21, .return_, 0, 0, 0, [], [])]
def zT_M_areThere : zT := [(0, .iconst 0, 0, 0, 0, [], []), (1, .istore_n 2, 0, 0, 0, [], []), (2, .iload_n 2, 3, 0, 0, [], []), (3, .iload_n 1, 0, 0, 0, [], []), (4, .if_icmp .ge 24, 0, 0, 0, [16], []), (7, .aload_n 0, 0, 0, 0, [], []), (8, .aload_n 0, 0, 0, 0, [], []), (9, .getfield 50, 0, 0, 0, [7, 21, 4, 151], []), (12, .iload_n 2, 0, 0, 0, [], []), (13, .iaload, 0, 0, 0, [], []), (14, .invokevirtual 111, 0, 0, 0, [129, 1, 3, 7, 5, 52], []), (17, .ifCond .ne 5, 0, 0, 0, [14], []), (20, .iconst 0, 0, 0, 0, [], []), (21, .ireturn, 0, 0, 0, [], []), (22, .iinc 2 1, 0, 1, 0, [], []), (25, .goto (-23), 0, 0, 0, [2], []), (28, .iconst 1, 0, 1, 0, [], []), (29, .ireturn, 0, 0, 0, [], [])]
def zT_M_make : zT := [(0, .iload_n 1, 0, 0, 0, [], []), (1, .iconst 0, 0, 0, 0, [], []), (2, .iconst 3, 0, 3, 0, [], []), (3, .invokestatic 100, 0, 0, 0, [128, 3, 3, 0, 5, 21], []), (6, .ifCond .ne 9, 0, 0, 0, [9], []), (9, .aload_n 0, 0, 0, 0, [], []), (10, .iconst (-1), 0, (-1), 0, [], []), (11, .invokevirtual 93, 0, 0, 0, [126, 1, 1, 7, 5, 24], []), (14, .ireturn, 0, 0, 0, [], []), (15, .iload_n 2, 0, 0, 0, [], []), (16, .iconst 0, 0, 0, 0, [], []), (17, .iconst 3, 0, 3, 0, [], []), (18, .invokestatic 100, 0, 0, 0, [128, 3, 3, 0, 5, 21], []), (21, .ifCond .ne 10, 0, 0, 0, [18], []), (24, .aload_n 0, 0, 0, 0, [], []), (25, .bipush (-6), 0, (-6), 0, [], []), (27, .invokevirtual 93, 0, 0, 0, [126, 1, 1, 7, 5, 24], []), (30, .ireturn, 0, 0, 0, [], []), (31, .aload_n 0, 0, 0, 0, [], []), (32, .iload_n 3, 0, 0, 0, [], []), (33, .iload 4, 0, 0, 0, [], []), (35, .iload 5, 0, 0, 0, [], []), (37, .invokevirtual 133, 0, 0, 0, [147, 3, 0, 7, 5, 69], []), (40, .aload_n 0, 0, 0, 0, [], []), (41, .iload_n 2, 0, 0, 0, [], []), (42, .invokevirtual 137, 0, 0, 0, [148, 1, 3, 7, 5, 73], []), (45, .ifCond .ne 9, 0, 0, 0, [31], []), (48, .aload_n 0, 0, 0, 0, [], []), (49, .iconst (-1), 0, (-1), 0, [], []), (50, .invokevirtual 93, 0, 0, 0, [126, 1, 1, 7, 5, 24], []), (53, .ireturn, 0, 0, 0, [], []), (54, .aload_n 0, 0, 0, 0, [], []), (55, .iload_n 2, 0, 0, 0, [], []), (56, .invokevirtual 140, 0, 0, 0, [145, 1, 3, 7, 5, 77], []), (59, .ifCond .eq 16, 0, 0, 0, [42], []), (62, .aload_n 0, 0, 0, 0, [], []), (63, .aload_n 0, 0, 0, 0, [], []), (64, .getfield 50, 0, 0, 0, [7, 21, 4, 151], []), (67, .iconst 0, 0, 0, 0, [], []), (68, .iload_n 2, 0, 0, 0, [], []), (69, .invokevirtual 143, 0, 0, 0, [144, 3, 3, 7, 5, 81], []), (72, .ifCond .ne 10, 0, 0, 0, [46], []), (75, .aload_n 0, 0, 0, 0, [], []), (76, .bipush (-6), 0, (-6), 0, [], []), (78, .invokevirtual 93, 0, 0, 0, [126, 1, 1, 7, 5, 24], []), (81, .ireturn, 0, 0, 0, [], []), (82, .aload_n 0, 0, 0, 0, [], []), (83, .getfield 97, 0, 0, 0, [7, 0, 4, 130], []), (86, .bipush 16, 0, 16, 0, [], []), (88, .if_icmp .ne 12, 0, 0, 0, [54], []), (91, .aload_n 0, 0, 0, 0, [], []), (92, .bipush (-7), 0, (-7), 0, [], []), (94, .invokevirtual 93, 0, 0, 0, [126, 1, 1, 7, 5, 24], []), (97, .goto 9, 0, 0, 0, [58], []), (100, .aload_n 0, 0, 0, 0, [], []), (101, .iload_n 1, 0, 0, 0, [], []), (102, .iload_n 2, 0, 0, 0, [], []), (103, .invokevirtual 147, 0, 0, 0, [146, 2, 1, 7, 5, 97], []), (106, .ireturn, 0, 0, 0, [], [])]
def zT_M_wouldBe : zT := [(0, .iload_n 1, 0, 0, 0, [], []), (1, .iconst 0, 0, 0, 0, [], []), (2, .iconst 3, 0, 3, 0, [], []), (3, .invokestatic 100, 0, 0, 0, [128, 3, 3, 0, 5, 21], []), (6, .ifCond .ne 10, 0, 0, 0, [9], []), (9, .aload_n 0, 0, 0, 0, [], []), (10, .bipush (-6), 0, (-6), 0, [], []), (12, .invokevirtual 151, 0, 0, 0, [127, 1, 1, 7, 5, 105], []), (15, .ireturn, 0, 0, 0, [], []), (16, .aload_n 0, 0, 0, 0, [], []), (17, .iload_n 2, 0, 0, 0, [], []), (18, .iload_n 3, 0, 0, 0, [], []), (19, .iload 4, 0, 0, 0, [], []), (21, .invokevirtual 133, 0, 0, 0, [147, 3, 0, 7, 5, 69], []), (24, .aload_n 0, 0, 0, 0, [], []), (25, .iload_n 1, 0, 0, 0, [], []), (26, .invokevirtual 137, 0, 0, 0, [148, 1, 3, 7, 5, 73], []), (29, .ifCond .ne 9, 0, 0, 0, [22], []), (32, .aload_n 0, 0, 0, 0, [], []), (33, .iconst (-1), 0, (-1), 0, [], []), (34, .invokevirtual 151, 0, 0, 0, [127, 1, 1, 7, 5, 105], []), (37, .ireturn, 0, 0, 0, [], []), (38, .aload_n 0, 0, 0, 0, [], []), (39, .iload_n 1, 0, 0, 0, [], []), (40, .invokevirtual 140, 0, 0, 0, [145, 1, 3, 7, 5, 77], []), (43, .ifCond .ne 10, 0, 0, 0, [30], []), (46, .aload_n 0, 0, 0, 0, [], []), (47, .bipush (-6), 0, (-6), 0, [], []), (49, .invokevirtual 151, 0, 0, 0, [127, 1, 1, 7, 5, 105], []), (52, .ireturn, 0, 0, 0, [], []), (53, .aload_n 0, 0, 0, 0, [], []), (54, .aload_n 0, 0, 0, 0, [], []), (55, .getfield 50, 0, 0, 0, [7, 21, 4, 151], []), (58, .iconst 0, 0, 0, 0, [], []), (59, .iload_n 1, 0, 0, 0, [], []), (60, .invokevirtual 143, 0, 0, 0, [144, 3, 3, 7, 5, 81], []), (63, .ifCond .ne 6, 0, 0, 0, [39], []), (66, .bipush 99, 0, 99, 0, [], []), (68, .ireturn, 0, 0, 0, [], []), (69, .iload 5, 0, 0, 0, [], []), (71, .iconst (-1), 0, (-1), 0, [], []), (72, .if_icmp .ne 10, 0, 0, 0, [45], []), (75, .aload_n 0, 0, 0, 0, [], []), (76, .getfield 127, 0, 0, 0, [7, 27, 4, 157], []), (79, .goto 29, 0, 0, 0, [59], []), (82, .iload 5, 0, 0, 0, [], []), (84, .iconst 0, 0, 0, 0, [], []), (85, .aload_n 0, 0, 0, 0, [], []), (86, .getfield 127, 0, 0, 0, [7, 27, 4, 157], []), (89, .iconst 1, 0, 1, 0, [], []), (90, .isub, 0, 0, 0, [], []), (91, .invokestatic 100, 0, 0, 0, [128, 3, 3, 0, 5, 21], []), (94, .ifCond .eq 13, 0, 0, 0, [58], []), (97, .aload_n 0, 0, 0, 0, [], []), (98, .getfield 65, 0, 0, 0, [7, 26, 4, 156], []), (101, .iload 5, 0, 0, 0, [], []), (103, .iaload, 0, 0, 0, [], []), (104, .goto 4, 0, 0, 0, [59], []), (107, .iconst (-1), 0, (-1), 0, [], []), (108, .ireturn, 0, 0, 0, [], [])]
def zT_M_sign : zT := [(0, .aload_n 0, 0, 0, 0, [], []), (1, .getfield 154, 0, 0, 0, [7, 18, 4, 148], []), (4, .aload_n 0, 0, 0, 0, [], []), (5, .getfield 43, 0, 0, 0, [7, 14, 4, 144], []), (8, .aload_n 0, 0, 0, 0, [], []), (9, .getfield 157, 0, 0, 0, [7, 17, 4, 147], []), (12, .iaload, 0, 0, 0, [], []), (13, .if_icmp .ge 25, 0, 0, 0, [20], []), (16, .aload_n 0, 0, 0, 0, [], []), (17, .getfield 46, 0, 0, 0, [7, 15, 4, 145], []), (20, .sipush 160, 0, 160, 0, [], []), (23, .aload_n 0, 0, 0, 0, [], []), (24, .getfield 157, 0, 0, 0, [7, 17, 4, 147], []), (27, .imul, 0, 0, 0, [], []), (28, .aload_n 0, 0, 0, 0, [], []), (29, .getfield 154, 0, 0, 0, [7, 18, 4, 148], []), (32, .iadd, 0, 0, 0, [], []), (33, .laload, 0, 0, 0, [], []), (34, .l2i, 0, 0, 0, [], []), (35, .goto 4, 0, 0, 0, [21], []), (38, .iconst (-1), 0, (-1), 0, [], []), (39, .ireturn, 0, 0, 0, [], [])]
def zT_M_is : zT := [(0, .aload_n 0, 0, 0, 0, [], []), (1, .invokevirtual 160, 0, 0, 0, [151, 0, 1, 7, 5, 121], []), (4, .iload_n 1, 0, 0, 0, [], []), (5, .if_icmp .eq 5, 0, 0, 0, [6], []), (8, .iconst 0, 0, 0, 0, [], []), (9, .ireturn, 0, 0, 0, [], []), (10, .aload_n 0, 0, 0, 0, [], []), (11, .dup, 0, 0, 0, [], []), (12, .getfield 154, 0, 0, 0, [7, 18, 4, 148], []), (15, .iconst 1, 0, 1, 0, [], []), (16, .iadd, 0, 0, 0, [], []), (17, .putfield 154, 0, 0, 0, [7, 18, 0, 4, 148], []), (20, .iconst 1, 0, 1, 0, [], []), (21, .ireturn, 0, 0, 0, [], [])]
def zT_M_isDigit : zT := [(0, .aload_n 0, 0, 0, 0, [], []), (1, .invokevirtual 160, 0, 0, 0, [151, 0, 1, 7, 5, 121], []), (4, .bipush 48, 0, 48, 0, [], []), (6, .bipush 57, 0, 57, 0, [], []), (8, .invokestatic 100, 0, 0, 0, [128, 3, 3, 0, 5, 21], []), (11, .ireturn, 0, 0, 0, [], [])]
def zT_M_isNumber : zT := [(0, .aload_n 0, 0, 0, 0, [], []), (1, .aload_n 0, 0, 0, 0, [], []), (2, .getfield 154, 0, 0, 0, [7, 18, 4, 148], []), (5, .putfield 164, 0, 0, 0, [7, 20, 0, 4, 150], []), (8, .aload_n 0, 0, 0, 0, [], []), (9, .iconst 0, 0, 0, 0, [], []), (10, .putfield 167, 0, 0, 0, [7, 19, 0, 4, 149], []), (13, .aload_n 0, 8, 0, 0, [], []), (14, .getfield 154, 0, 0, 0, [7, 18, 4, 148], []), (17, .aload_n 0, 0, 0, 0, [], []), (18, .getfield 164, 0, 0, 0, [7, 20, 4, 150], []), (21, .isub, 0, 0, 0, [], []), (22, .iconst 2, 0, 2, 0, [], []), (23, .if_icmp .ge 42, 0, 0, 0, [35], []), (26, .aload_n 0, 0, 0, 0, [], []), (27, .invokevirtual 170, 0, 0, 0, [153, 0, 3, 7, 5, 129], []), (30, .ifCond .eq 35, 0, 0, 0, [35], []), (33, .aload_n 0, 0, 0, 0, [], []), (34, .bipush 10, 0, 10, 0, [], []), (36, .aload_n 0, 0, 0, 0, [], []), (37, .getfield 167, 0, 0, 0, [7, 19, 4, 149], []), (40, .imul, 0, 0, 0, [], []), (41, .aload_n 0, 0, 0, 0, [], []), (42, .invokevirtual 160, 0, 0, 0, [151, 0, 1, 7, 5, 121], []), (45, .iadd, 0, 0, 0, [], []), (46, .bipush 48, 0, 48, 0, [], []), (48, .isub, 0, 0, 0, [], []), (49, .putfield 167, 0, 0, 0, [7, 19, 0, 4, 149], []), (52, .aload_n 0, 0, 0, 0, [], []), (53, .dup, 0, 0, 0, [], []), (54, .getfield 154, 0, 0, 0, [7, 18, 4, 148], []), (57, .iconst 1, 0, 1, 0, [], []), (58, .iadd, 0, 0, 0, [], []), (59, .putfield 154, 0, 0, 0, [7, 18, 0, 4, 148], []), (62, .goto (-49), 0, 0, 0, [7], []), (65, .aload_n 0, 0, 0, 0, [], []), (66, .getfield 154, 0, 0, 0, [7, 18, 4, 148], []), (69, .aload_n 0, 0, 0, 0, [], []), (70, .getfield 164, 0, 0, 0, [7, 20, 4, 150], []), (73, .if_icmp .le 7, 0, 0, 0, [42], []), (76, .iconst 1, 0, 1, 0, [], []), (77, .goto 4, 0, 0, 0, [43], []), (80, .iconst 0, 0, 0, 0, [], []), (81, .ireturn, 0, 0, 0, [], [])]
def zT_M_isDigit2 : zT := [(0, .aload_n 0, 0, 0, 0, [], []), (1, .invokevirtual 170, 0, 0, 0, [153, 0, 3, 7, 5, 129], []), (4, .ifCond .eq 14, 0, 0, 0, [9], []), (7, .aload_n 0, 0, 0, 0, [], []), (8, .invokevirtual 160, 0, 0, 0, [151, 0, 1, 7, 5, 121], []), (11, .bipush 48, 0, 48, 0, [], []), (13, .isub, 0, 0, 0, [], []), (14, .iload_n 1, 0, 0, 0, [], []), (15, .if_icmp .le 5, 0, 0, 0, [11], []), (18, .iconst 0, 0, 0, 0, [], []), (19, .ireturn, 0, 0, 0, [], []), (20, .aload_n 0, 0, 0, 0, [], []), (21, .aload_n 0, 0, 0, 0, [], []), (22, .invokevirtual 160, 0, 0, 0, [151, 0, 1, 7, 5, 121], []), (25, .bipush 48, 0, 48, 0, [], []), (27, .isub, 0, 0, 0, [], []), (28, .putfield 167, 0, 0, 0, [7, 19, 0, 4, 149], []), (31, .aload_n 0, 0, 0, 0, [], []), (32, .dup, 0, 0, 0, [], []), (33, .getfield 154, 0, 0, 0, [7, 18, 4, 148], []), (36, .iconst 1, 0, 1, 0, [], []), (37, .iadd, 0, 0, 0, [], []), (38, .putfield 154, 0, 0, 0, [7, 18, 0, 4, 148], []), (41, .iconst 1, 0, 1, 0, [], []), (42, .ireturn, 0, 0, 0, [], [])]
def zT_M_isParent : zT := [(0, .aload_n 0, 0, 0, 0, [], []), (1, .invokevirtual 174, 0, 0, 0, [154, 0, 3, 7, 5, 137], []), (4, .ifCond .ne 5, 0, 0, 0, [5], []), (7, .iconst 0, 0, 0, 0, [], []), (8, .ireturn, 0, 0, 0, [], []), (9, .aload_n 0, 0, 0, 0, [], []), (10, .aload_n 0, 0, 0, 0, [], []), (11, .getfield 167, 0, 0, 0, [7, 19, 4, 149], []), (14, .invokevirtual 111, 0, 0, 0, [129, 1, 3, 7, 5, 52], []), (17, .ifCond .eq 20, 0, 0, 0, [19], []), (20, .aload_n 0, 0, 0, 0, [], []), (21, .getfield 7, 0, 0, 0, [7, 1, 4, 131], []), (24, .aload_n 0, 0, 0, 0, [], []), (25, .getfield 167, 0, 0, 0, [7, 19, 4, 149], []), (28, .iaload, 0, 0, 0, [], []), (29, .iconst 2, 0, 2, 0, [], []), (30, .if_icmp .eq 7, 0, 0, 0, [19], []), (33, .iconst 1, 0, 1, 0, [], []), (34, .goto 4, 0, 0, 0, [20], []), (37, .iconst 0, 0, 0, 0, [], []), (38, .istore_n 2, 0, 0, 0, [], []), (39, .iconst 0, 0, 0, 0, [], []), (40, .istore_n 3, 0, 0, 0, [], []), (41, .iload_n 3, 24, 0, 0, [], []), (42, .iload_n 1, 0, 0, 0, [], []), (43, .if_icmp .ge 24, 0, 0, 0, [37], []), (46, .aload_n 0, 0, 0, 0, [], []), (47, .getfield 50, 0, 0, 0, [7, 21, 4, 151], []), (50, .iload_n 3, 0, 0, 0, [], []), (51, .iaload, 0, 0, 0, [], []), (52, .aload_n 0, 0, 0, 0, [], []), (53, .getfield 167, 0, 0, 0, [7, 19, 4, 149], []), (56, .if_icmp .ne 5, 0, 0, 0, [35], []), (59, .iconst 0, 0, 0, 0, [], []), (60, .istore_n 2, 0, 0, 0, [], []), (61, .iinc 3 1, 0, 1, 0, [], []), (64, .goto (-23), 0, 0, 0, [23], []), (67, .iload_n 2, 0, 0, 0, [], []), (68, .ifCond .ne 11, 0, 0, 0, [43], []), (71, .aload_n 0, 0, 0, 0, [], []), (72, .aload_n 0, 0, 0, 0, [], []), (73, .getfield 164, 0, 0, 0, [7, 20, 4, 150], []), (76, .putfield 154, 0, 0, 0, [7, 18, 0, 4, 148], []), (79, .aload_n 0, 0, 0, 0, [], []), (80, .getfield 50, 0, 0, 0, [7, 21, 4, 151], []), (83, .iload_n 1, 0, 0, 0, [], []), (84, .aload_n 0, 0, 0, 0, [], []), (85, .getfield 167, 0, 0, 0, [7, 19, 4, 149], []), (88, .iastore, 0, 0, 0, [], []), (89, .iload_n 2, 0, 0, 0, [], []), (90, .ireturn, 0, 0, 0, [], [])]
def zT_M_isSigned : zT := [(0, .aload_n 0, 0, 0, 0, [], []), (1, .bipush 45, 0, 45, 0, [], []), (3, .invokevirtual 177, 0, 0, 0, [152, 1, 3, 7, 5, 117], []), (6, .istore_n 1, 0, 0, 0, [], []), (7, .aload_n 0, 0, 0, 0, [], []), (8, .invokevirtual 174, 0, 0, 0, [154, 0, 3, 7, 5, 137], []), (11, .ifCond .ne 5, 0, 0, 0, [9], []), (14, .iconst 0, 0, 0, 0, [], []), (15, .ireturn, 0, 0, 0, [], []), (16, .iload_n 1, 0, 0, 0, [], []), (17, .ifCond .eq 12, 0, 0, 0, [16], []), (20, .aload_n 0, 0, 0, 0, [], []), (21, .aload_n 0, 0, 0, 0, [], []), (22, .getfield 167, 0, 0, 0, [7, 19, 4, 149], []), (25, .ineg, 0, 0, 0, [], []), (26, .putfield 167, 0, 0, 0, [7, 19, 0, 4, 149], []), (29, .iconst 1, 0, 1, 0, [], []), (30, .ireturn, 0, 0, 0, [], [])]
def zT_M_slots : zT := [(0, .aload_n 0, 1, 0, 0, [], [2, 3, 4]), (1, .bipush 32, 0, 32, 0, [], []), (3, .invokevirtual 177, 0, 0, 0, [152, 1, 3, 7, 5, 117], []), (6, .ifCond .eq 133, 0, 0, 0, [76], []), (9, .aload_n 0, 0, 0, 0, [], []), (10, .invokevirtual 160, 0, 0, 0, [151, 0, 1, 7, 5, 121], []), (13, .bipush 97, 0, 97, 0, [], []), (15, .bipush 112, 0, 112, 0, [], []), (17, .invokestatic 100, 0, 0, 0, [128, 3, 3, 0, 5, 21], []), (20, .ifCond .ne 5, 0, 0, 0, [12], []), (23, .iconst 0, 0, 0, 0, [], []), (24, .ireturn, 0, 0, 0, [], []), (25, .aload_n 0, 0, 0, 0, [], []), (26, .invokevirtual 160, 0, 0, 0, [151, 0, 1, 7, 5, 121], []), (29, .bipush 97, 0, 97, 0, [], []), (31, .isub, 0, 0, 0, [], []), (32, .istore_n 2, 0, 0, 0, [], []), (33, .aload_n 0, 0, 0, 0, [], []), (34, .dup, 0, 0, 0, [], []), (35, .getfield 154, 0, 0, 0, [7, 18, 4, 148], []), (38, .iconst 1, 0, 1, 0, [], []), (39, .iadd, 0, 0, 0, [], []), (40, .putfield 154, 0, 0, 0, [7, 18, 0, 4, 148], []), (43, .aload_n 0, 0, 0, 0, [], []), (44, .invokevirtual 160, 0, 0, 0, [151, 0, 1, 7, 5, 121], []), (47, .bipush 58, 0, 58, 0, [], []), (49, .if_icmp .ne 7, 0, 0, 0, [29], []), (52, .iconst 1, 0, 1, 0, [], []), (53, .goto 4, 0, 0, 0, [30], []), (56, .iconst 0, 0, 0, 0, [], []), (57, .istore_n 3, 0, 0, 0, [], []), (58, .iconst 0, 0, 0, 0, [], []), (59, .istore 4, 0, 0, 0, [], []), (61, .iload_n 3, 0, 0, 0, [], []), (62, .ifCond .eq 41, 0, 0, 0, [56], []), (65, .aload_n 0, 0, 0, 0, [], []), (66, .dup, 0, 0, 0, [], []), (67, .getfield 154, 0, 0, 0, [7, 18, 4, 148], []), (70, .iconst 1, 0, 1, 0, [], []), (71, .iadd, 0, 0, 0, [], []), (72, .putfield 154, 0, 0, 0, [7, 18, 0, 4, 148], []), (75, .aload_n 0, 0, 0, 0, [], []), (76, .bipush 9, 0, 9, 0, [], []), (78, .invokevirtual 180, 0, 0, 0, [155, 1, 3, 7, 5, 125], []), (81, .ifCond .ne 5, 0, 0, 0, [47], []), (84, .iconst 0, 0, 0, 0, [], []), (85, .ireturn, 0, 0, 0, [], []), (86, .aload_n 0, 0, 0, 0, [], []), (87, .getfield 167, 0, 0, 0, [7, 19, 4, 149], []), (90, .istore 4, 0, 0, 0, [], []), (92, .aload_n 0, 0, 0, 0, [], []), (93, .bipush 46, 0, 46, 0, [], []), (95, .invokevirtual 177, 0, 0, 0, [152, 1, 3, 7, 5, 117], []), (98, .ifCond .ne 16, 0, 0, 0, [62], []), (101, .iconst 0, 0, 0, 0, [], []), (102, .ireturn, 0, 0, 0, [], []), (103, .aload_n 0, 0, 0, 0, [], []), (104, .bipush 61, 0, 61, 0, [], []), (106, .invokevirtual 177, 0, 0, 0, [152, 1, 3, 7, 5, 117], []), (109, .ifCond .ne 5, 0, 0, 0, [62], []), (112, .iconst 0, 0, 0, 0, [], []), (113, .ireturn, 0, 0, 0, [], []), (114, .aload_n 0, 0, 0, 0, [], []), (115, .invokevirtual 182, 0, 0, 0, [157, 0, 3, 7, 5, 145], []), (118, .ifCond .ne 5, 0, 0, 0, [67], []), (121, .iconst 0, 0, 0, 0, [], []), (122, .ireturn, 0, 0, 0, [], []), (123, .aload_n 0, 0, 0, 0, [], []), (124, .iload_n 1, 0, 0, 0, [], []), (125, .iload_n 2, 0, 0, 0, [], []), (126, .iload_n 3, 0, 0, 0, [], []), (127, .iload 4, 0, 0, 0, [], []), (129, .aload_n 0, 0, 0, 0, [], []), (130, .getfield 167, 0, 0, 0, [7, 19, 4, 149], []), (133, .invokevirtual 185, 0, 0, 0, [162, 5, 0, 7, 5, 149], []), (136, .goto (-136), 0, 0, 0, [0], []), (139, .iconst 1, 0, 1, 0, [], []), (140, .ireturn, 0, 0, 0, [], [])]
def zT_M_item : zT := [(0, .aload_n 0, 0, 0, 0, [], []), (1, .getfield 154, 0, 0, 0, [7, 18, 4, 148], []), (4, .istore_n 1, 0, 0, 0, [], []), (5, .aload_n 0, 0, 0, 0, [], []), (6, .bipush 110, 0, 110, 0, [], []), (8, .invokevirtual 177, 0, 0, 0, [152, 1, 3, 7, 5, 117], []), (11, .ifCond .eq 38, 0, 0, 0, [23], []), (14, .aload_n 0, 0, 0, 0, [], []), (15, .bipush 101, 0, 101, 0, [], []), (17, .invokevirtual 177, 0, 0, 0, [152, 1, 3, 7, 5, 117], []), (20, .ifCond .eq 29, 0, 0, 0, [23], []), (23, .aload_n 0, 0, 0, 0, [], []), (24, .bipush 119, 0, 119, 0, [], []), (26, .invokevirtual 177, 0, 0, 0, [152, 1, 3, 7, 5, 117], []), (29, .ifCond .eq 20, 0, 0, 0, [23], []), (32, .aload_n 0, 0, 0, 0, [], []), (33, .bipush 32, 0, 32, 0, [], []), (35, .invokevirtual 177, 0, 0, 0, [152, 1, 3, 7, 5, 117], []), (38, .ifCond .eq 11, 0, 0, 0, [23], []), (41, .aload_n 0, 0, 0, 0, [], []), (42, .iconst 3, 0, 3, 0, [], []), (43, .invokevirtual 180, 0, 0, 0, [155, 1, 3, 7, 5, 125], []), (46, .ifCond .ne 5, 0, 0, 0, [25], []), (49, .iconst 0, 0, 0, 0, [], []), (50, .ireturn, 0, 0, 0, [], []), (51, .aload_n 0, 0, 0, 0, [], []), (52, .getfield 167, 0, 0, 0, [7, 19, 4, 149], []), (55, .istore_n 2, 0, 0, 0, [], []), (56, .iconst 0, 0, 0, 0, [], []), (57, .istore_n 3, 0, 0, 0, [], []), (58, .aload_n 0, 0, 0, 0, [], []), (59, .bipush 60, 0, 60, 0, [], []), (61, .invokevirtual 177, 0, 0, 0, [152, 1, 3, 7, 5, 117], []), (64, .ifCond .eq 59, 0, 0, 0, [63], []), (67, .iconst 1, 0, 1, 0, [], []), (68, .istore 4, 0, 0, 0, [], []), (70, .iload 4, 37, 0, 0, [], []), (72, .ifCond .eq 40, 0, 0, 0, [57], []), (75, .aload_n 0, 0, 0, 0, [], []), (76, .iload_n 3, 0, 0, 0, [], []), (77, .invokevirtual 189, 0, 0, 0, [156, 1, 3, 7, 5, 133], []), (80, .ifCond .ne 5, 0, 0, 0, [44], []), (83, .iconst 0, 0, 0, 0, [], []), (84, .ireturn, 0, 0, 0, [], []), (85, .iinc 3 1, 0, 1, 0, [], []), (88, .iload_n 3, 0, 0, 0, [], []), (89, .iconst 3, 0, 3, 0, [], []), (90, .if_icmp .ge 16, 0, 0, 0, [54], []), (93, .aload_n 0, 0, 0, 0, [], []), (94, .bipush 44, 0, 44, 0, [], []), (96, .invokevirtual 177, 0, 0, 0, [152, 1, 3, 7, 5, 117], []), (99, .ifCond .eq 7, 0, 0, 0, [54], []), (102, .iconst 1, 0, 1, 0, [], []), (103, .goto 4, 0, 0, 0, [55], []), (106, .iconst 0, 0, 0, 0, [], []), (107, .istore 4, 0, 0, 0, [], []), (109, .goto (-39), 0, 0, 0, [36], []), (112, .aload_n 0, 0, 0, 0, [], []), (113, .invokevirtual 160, 0, 0, 0, [151, 0, 1, 7, 5, 121], []), (116, .bipush 44, 0, 44, 0, [], []), (118, .if_icmp .ne 5, 0, 0, 0, [63], []), (121, .iconst 0, 0, 0, 0, [], []), (122, .ireturn, 0, 0, 0, [], []), (123, .aload_n 0, 0, 0, 0, [], []), (124, .getfield 97, 0, 0, 0, [7, 0, 4, 130], []), (127, .bipush 16, 0, 16, 0, [], []), (129, .if_icmp .eq 16, 0, 0, 0, [74], []), (132, .aload_n 0, 0, 0, 0, [], []), (133, .aload_n 0, 0, 0, 0, [], []), (134, .getfield 50, 0, 0, 0, [7, 21, 4, 151], []), (137, .iconst 0, 0, 0, 0, [], []), (138, .iload_n 3, 0, 0, 0, [], []), (139, .invokevirtual 143, 0, 0, 0, [144, 3, 3, 7, 5, 81], []), (142, .ifCond .ne 10, 0, 0, 0, [79], []), (145, .aload_n 0, 0, 0, 0, [], []), (146, .iload_n 1, 0, 0, 0, [], []), (147, .putfield 154, 0, 0, 0, [7, 18, 0, 4, 148], []), (150, .iconst 0, 0, 0, 0, [], []), (151, .ireturn, 0, 0, 0, [], []), (152, .aload_n 0, 0, 0, 0, [], []), (153, .aload_n 0, 0, 0, 0, [], []), (154, .iload_n 2, 0, 0, 0, [], []), (155, .iload_n 3, 0, 0, 0, [], []), (156, .invokevirtual 147, 0, 0, 0, [146, 2, 1, 7, 5, 97], []), (159, .invokevirtual 192, 0, 0, 0, [158, 1, 3, 7, 5, 141], []), (162, .ireturn, 0, 0, 0, [], [])]
def zT_M_read : zT := [(0, .aload_n 0, 0, 0, 0, [], []), (1, .iload_n 1, 0, 0, 0, [], []), (2, .invokevirtual 108, 0, 0, 0, [134, 1, 1, 7, 5, 32], []), (5, .istore_n 2, 0, 0, 0, [], []), (6, .iload_n 2, 0, 0, 0, [], []), (7, .ifCond .ge 9, 0, 0, 0, [10], []), (10, .aload_n 0, 0, 0, 0, [], []), (11, .iload_n 2, 0, 0, 0, [], []), (12, .invokevirtual 93, 0, 0, 0, [126, 1, 1, 7, 5, 24], []), (15, .ireturn, 0, 0, 0, [], []), (16, .aload_n 0, 0, 0, 0, [], []), (17, .getfield 97, 0, 0, 0, [7, 0, 4, 130], []), (20, .istore_n 3, 0, 0, 0, [], []), (21, .aload_n 0, 0, 0, 0, [], []), (22, .iload_n 1, 0, 0, 0, [], []), (23, .putfield 157, 0, 0, 0, [7, 17, 0, 4, 147], []), (26, .aload_n 0, 0, 0, 0, [], []), (27, .iconst 0, 0, 0, 0, [], []), (28, .putfield 154, 0, 0, 0, [7, 18, 0, 4, 148], []), (31, .aload_n 0, 0, 0, 0, [], []), (32, .invokevirtual 195, 0, 0, 0, [159, 0, 3, 7, 5, 113], []), (35, .istore 4, 0, 0, 0, [], []), (37, .iload 4, 23, 0, 0, [], [2]), (39, .ifCond .eq 21, 0, 0, 0, [32], []), (42, .aload_n 0, 0, 0, 0, [], []), (43, .bipush 59, 0, 59, 0, [], []), (45, .invokevirtual 177, 0, 0, 0, [152, 1, 3, 7, 5, 117], []), (48, .ifCond .eq 12, 0, 0, 0, [32], []), (51, .aload_n 0, 0, 0, 0, [], []), (52, .invokevirtual 195, 0, 0, 0, [159, 0, 3, 7, 5, 113], []), (55, .istore 4, 0, 0, 0, [], []), (57, .goto (-20), 0, 0, 0, [22], []), (60, .iload 4, 33, 0, 0, [], [2]), (62, .ifCond .eq 20, 0, 0, 0, [43], []), (65, .aload_n 0, 0, 0, 0, [], []), (66, .getfield 154, 0, 0, 0, [7, 18, 4, 148], []), (69, .aload_n 0, 0, 0, 0, [], []), (70, .getfield 43, 0, 0, 0, [7, 14, 4, 144], []), (73, .iload_n 1, 0, 0, 0, [], []), (74, .iaload, 0, 0, 0, [], []), (75, .if_icmp .ne 7, 0, 0, 0, [43], []), (78, .iconst 1, 0, 1, 0, [], []), (79, .goto 4, 0, 0, 0, [44], []), (82, .iconst 0, 0, 0, 0, [], []), (83, .istore 4, 0, 0, 0, [], []), (85, .aload_n 0, 0, 0, 0, [], []), (86, .iload 4, 0, 0, 0, [], []), (88, .ifCond .eq 7, 0, 0, 0, [50], []), (91, .iconst (-1), 0, (-1), 0, [], []), (92, .goto 7, 0, 0, 0, [52], []), (95, .aload_n 0, 0, 0, 0, [], []), (96, .getfield 154, 0, 0, 0, [7, 18, 4, 148], []), (99, .putfield 90, 0, 0, 0, [7, 16, 0, 4, 146], []), (102, .iload 4, 0, 0, 0, [], []), (104, .ifCond .eq 10, 0, 0, 0, [60], []), (107, .aload_n 0, 0, 0, 0, [], []), (108, .getfield 97, 0, 0, 0, [7, 0, 4, 130], []), (111, .iload_n 3, 0, 0, 0, [], []), (112, .isub, 0, 0, 0, [], []), (113, .ireturn, 0, 0, 0, [], []), (114, .aload_n 0, 0, 0, 0, [], []), (115, .iload_n 3, 0, 0, 0, [], []), (116, .putfield 97, 0, 0, 0, [7, 0, 0, 4, 130], []), (119, .aload_n 0, 0, 0, 0, [], []), (120, .bipush (-6), 0, (-6), 0, [], []), (122, .invokevirtual 93, 0, 0, 0, [126, 1, 1, 7, 5, 24], []), (125, .ireturn, 0, 0, 0, [], [])]
def zT_M_fault : zT := [(0, .aload_n 0, 0, 0, 0, [], []), (1, .getfield 90, 0, 0, 0, [7, 16, 4, 146], []), (4, .ireturn, 0, 0, 0, [], [])]
def zT_M_holds2 : zT := [(0, .aload_n 0, 0, 0, 0, [], []), (1, .getfield 25, 0, 0, 0, [7, 6, 4, 136], []), (4, .iload_n 1, 0, 0, 0, [], []), (5, .dup2, 0, 0, 0, [], []), (6, .iaload, 0, 0, 0, [], []), (7, .iconst 1, 0, 1, 0, [], []), (8, .iload_n 2, 0, 0, 0, [], []), (9, .ishl, 0, 0, 0, [], []), (10, .ior, 0, 0, 0, [], []), (11, .iastore, 0, 0, 0, [], []), (12, .aload_n 0, 0, 0, 0, [], []), (13, .getfield 28, 0, 0, 0, [7, 7, 4, 137], []), (16, .iload_n 1, 0, 0, 0, [], []), (17, .iload_n 3, 0, 0, 0, [], []), (18, .ifCond .eq 16, 0, 0, 0, [24], []), (21, .aload_n 0, 0, 0, 0, [], []), (22, .getfield 28, 0, 0, 0, [7, 7, 4, 137], []), (25, .iload_n 1, 0, 0, 0, [], []), (26, .iaload, 0, 0, 0, [], []), (27, .iconst 1, 0, 1, 0, [], []), (28, .iload_n 2, 0, 0, 0, [], []), (29, .ishl, 0, 0, 0, [], []), (30, .ior, 0, 0, 0, [], []), (31, .goto 15, 0, 0, 0, [34], []), (34, .aload_n 0, 0, 0, 0, [], []), (35, .getfield 28, 0, 0, 0, [7, 7, 4, 137], []), (38, .iload_n 1, 0, 0, 0, [], []), (39, .iaload, 0, 0, 0, [], []), (40, .iconst 1, 0, 1, 0, [], []), (41, .iload_n 2, 0, 0, 0, [], []), (42, .ishl, 0, 0, 0, [], []), (43, .iconst (-1), 0, (-1), 0, [], []), (44, .ixor, 0, 0, 0, [], []), (45, .iand, 0, 0, 0, [], []), (46, .iastore, 0, 0, 0, [], []), (47, .aload_n 0, 0, 0, 0, [], []), (48, .getfield 31, 0, 0, 0, [7, 8, 4, 138], []), (51, .bipush 16, 0, 16, 0, [], []), (53, .iload_n 1, 0, 0, 0, [], []), (54, .imul, 0, 0, 0, [], []), (55, .iload_n 2, 0, 0, 0, [], []), (56, .iadd, 0, 0, 0, [], []), (57, .iload_n 3, 0, 0, 0, [], []), (58, .ifCond .eq 8, 0, 0, 0, [46], []), (61, .iload 4, 0, 0, 0, [], []), (63, .goto 4, 0, 0, 0, [47], []), (66, .iconst 0, 0, 0, 0, [], []), (67, .iastore, 0, 0, 0, [], []), (68, .aload_n 0, 0, 0, 0, [], []), (69, .getfield 34, 0, 0, 0, [7, 9, 4, 139], []), (72, .bipush 16, 0, 16, 0, [], []), (74, .iload_n 1, 0, 0, 0, [], []), (75, .imul, 0, 0, 0, [], []), (76, .iload_n 2, 0, 0, 0, [], []), (77, .iadd, 0, 0, 0, [], []), (78, .iload 5, 0, 0, 0, [], []), (80, .iastore, 0, 0, 0, [], []), (81, .return_, 0, 0, 0, [], [])]
def zT_M_value : zT := [(0, .aload_n 0, 0, 0, 0, [], []), (1, .iload_n 1, 0, 0, 0, [], []), (2, .invokevirtual 111, 0, 0, 0, [129, 1, 3, 7, 5, 52], []), (5, .ifCond .eq 10, 0, 0, 0, [7], []), (8, .iload_n 2, 0, 0, 0, [], []), (9, .invokestatic 198, 0, 0, 0, [130, 1, 3, 0, 5, 161], []), (12, .ifCond .ne 9, 0, 0, 0, [11], []), (15, .aload_n 0, 0, 0, 0, [], []), (16, .iconst (-1), 0, (-1), 0, [], []), (17, .invokevirtual 93, 0, 0, 0, [126, 1, 1, 7, 5, 24], []), (20, .ireturn, 0, 0, 0, [], []), (21, .aload_n 0, 0, 0, 0, [], []), (22, .getfield 7, 0, 0, 0, [7, 1, 4, 131], []), (25, .iload_n 1, 0, 0, 0, [], []), (26, .iaload, 0, 0, 0, [], []), (27, .iconst 3, 0, 3, 0, [], []), (28, .if_icmp .ne 10, 0, 0, 0, [21], []), (31, .aload_n 0, 0, 0, 0, [], []), (32, .bipush (-6), 0, (-6), 0, [], []), (34, .invokevirtual 93, 0, 0, 0, [126, 1, 1, 7, 5, 24], []), (37, .ireturn, 0, 0, 0, [], []), (38, .aload_n 0, 0, 0, 0, [], []), (39, .getfield 25, 0, 0, 0, [7, 6, 4, 136], []), (42, .iload_n 1, 0, 0, 0, [], []), (43, .iaload, 0, 0, 0, [], []), (44, .iload_n 2, 0, 0, 0, [], []), (45, .ishr, 0, 0, 0, [], []), (46, .iconst 1, 0, 1, 0, [], []), (47, .iand, 0, 0, 0, [], []), (48, .istore 4, 0, 0, 0, [], []), (50, .aload_n 0, 0, 0, 0, [], []), (51, .iload_n 1, 0, 0, 0, [], []), (52, .iload_n 2, 0, 0, 0, [], []), (53, .iconst 0, 0, 0, 0, [], []), (54, .iconst 0, 0, 0, 0, [], []), (55, .iload_n 3, 0, 0, 0, [], []), (56, .invokevirtual 185, 0, 0, 0, [162, 5, 0, 7, 5, 149], []), (59, .iload 4, 0, 0, 0, [], []), (61, .ireturn, 0, 0, 0, [], [])]
def zT_M_method : zT := [(0, .aload_n 0, 0, 0, 0, [], []), (1, .iload_n 1, 0, 0, 0, [], []), (2, .invokevirtual 111, 0, 0, 0, [129, 1, 3, 7, 5, 52], []), (5, .ifCond .eq 10, 0, 0, 0, [7], []), (8, .iload_n 2, 0, 0, 0, [], []), (9, .invokestatic 198, 0, 0, 0, [130, 1, 3, 0, 5, 161], []), (12, .ifCond .ne 9, 0, 0, 0, [11], []), (15, .aload_n 0, 0, 0, 0, [], []), (16, .iconst (-1), 0, (-1), 0, [], []), (17, .invokevirtual 93, 0, 0, 0, [126, 1, 1, 7, 5, 24], []), (20, .ireturn, 0, 0, 0, [], []), (21, .iload_n 3, 0, 0, 0, [], []), (22, .iconst 0, 0, 0, 0, [], []), (23, .bipush 9, 0, 9, 0, [], []), (25, .invokestatic 100, 0, 0, 0, [128, 3, 3, 0, 5, 21], []), (28, .ifCond .eq 25, 0, 0, 0, [27], []), (31, .iload 4, 0, 0, 0, [], []), (33, .bipush (-99), 0, (-99), 0, [], []), (35, .bipush 99, 0, 99, 0, [], []), (37, .invokestatic 100, 0, 0, 0, [128, 3, 3, 0, 5, 21], []), (40, .ifCond .eq 13, 0, 0, 0, [27], []), (43, .aload_n 0, 0, 0, 0, [], []), (44, .getfield 7, 0, 0, 0, [7, 1, 4, 131], []), (47, .iload_n 1, 0, 0, 0, [], []), (48, .iaload, 0, 0, 0, [], []), (49, .iconst 3, 0, 3, 0, [], []), (50, .if_icmp .ne 10, 0, 0, 0, [31], []), (53, .aload_n 0, 0, 0, 0, [], []), (54, .bipush (-6), 0, (-6), 0, [], []), (56, .invokevirtual 93, 0, 0, 0, [126, 1, 1, 7, 5, 24], []), (59, .ireturn, 0, 0, 0, [], []), (60, .aload_n 0, 0, 0, 0, [], []), (61, .getfield 25, 0, 0, 0, [7, 6, 4, 136], []), (64, .iload_n 1, 0, 0, 0, [], []), (65, .iaload, 0, 0, 0, [], []), (66, .iload_n 2, 0, 0, 0, [], []), (67, .ishr, 0, 0, 0, [], []), (68, .iconst 1, 0, 1, 0, [], []), (69, .iand, 0, 0, 0, [], []), (70, .istore 5, 0, 0, 0, [], []), (72, .aload_n 0, 0, 0, 0, [], []), (73, .iload_n 1, 0, 0, 0, [], []), (74, .iload_n 2, 0, 0, 0, [], []), (75, .iconst 1, 0, 1, 0, [], []), (76, .iload_n 3, 0, 0, 0, [], []), (77, .iload 4, 0, 0, 0, [], []), (79, .invokevirtual 185, 0, 0, 0, [162, 5, 0, 7, 5, 149], []), (82, .iload 5, 0, 0, 0, [], []), (84, .ireturn, 0, 0, 0, [], [])]
def zT_M_drops : zT := [(0, .aload_n 0, 0, 0, 0, [], []), (1, .getfield 25, 0, 0, 0, [7, 6, 4, 136], []), (4, .iload_n 1, 0, 0, 0, [], []), (5, .dup2, 0, 0, 0, [], []), (6, .iaload, 0, 0, 0, [], []), (7, .iconst 1, 0, 1, 0, [], []), (8, .iload_n 2, 0, 0, 0, [], []), (9, .ishl, 0, 0, 0, [], []), (10, .iconst (-1), 0, (-1), 0, [], []), (11, .ixor, 0, 0, 0, [], []), (12, .iand, 0, 0, 0, [], []), (13, .iastore, 0, 0, 0, [], []), (14, .aload_n 0, 0, 0, 0, [], []), (15, .getfield 28, 0, 0, 0, [7, 7, 4, 137], []), (18, .iload_n 1, 0, 0, 0, [], []), (19, .dup2, 0, 0, 0, [], []), (20, .iaload, 0, 0, 0, [], []), (21, .iconst 1, 0, 1, 0, [], []), (22, .iload_n 2, 0, 0, 0, [], []), (23, .ishl, 0, 0, 0, [], []), (24, .iconst (-1), 0, (-1), 0, [], []), (25, .ixor, 0, 0, 0, [], []), (26, .iand, 0, 0, 0, [], []), (27, .iastore, 0, 0, 0, [], []), (28, .return_, 0, 0, 0, [], [])]
def zT_M_remove : zT := [(0, .aload_n 0, 0, 0, 0, [], []), (1, .iload_n 1, 0, 0, 0, [], []), (2, .invokevirtual 111, 0, 0, 0, [129, 1, 3, 7, 5, 52], []), (5, .ifCond .eq 10, 0, 0, 0, [7], []), (8, .iload_n 2, 0, 0, 0, [], []), (9, .invokestatic 198, 0, 0, 0, [130, 1, 3, 0, 5, 161], []), (12, .ifCond .ne 9, 0, 0, 0, [11], []), (15, .aload_n 0, 0, 0, 0, [], []), (16, .iconst (-1), 0, (-1), 0, [], []), (17, .invokevirtual 93, 0, 0, 0, [126, 1, 1, 7, 5, 24], []), (20, .ireturn, 0, 0, 0, [], []), (21, .aload_n 0, 0, 0, 0, [], []), (22, .getfield 25, 0, 0, 0, [7, 6, 4, 136], []), (25, .iload_n 1, 0, 0, 0, [], []), (26, .iaload, 0, 0, 0, [], []), (27, .iload_n 2, 0, 0, 0, [], []), (28, .invokestatic 201, 0, 0, 0, [131, 2, 3, 0, 5, 172], []), (31, .ifCond .ne 10, 0, 0, 0, [22], []), (34, .aload_n 0, 0, 0, 0, [], []), (35, .bipush (-5), 0, (-5), 0, [], []), (37, .invokevirtual 93, 0, 0, 0, [126, 1, 1, 7, 5, 24], []), (40, .ireturn, 0, 0, 0, [], []), (41, .aload_n 0, 0, 0, 0, [], []), (42, .getfield 7, 0, 0, 0, [7, 1, 4, 131], []), (45, .iload_n 1, 0, 0, 0, [], []), (46, .iaload, 0, 0, 0, [], []), (47, .iconst 3, 0, 3, 0, [], []), (48, .if_icmp .ne 10, 0, 0, 0, [32], []), (51, .aload_n 0, 0, 0, 0, [], []), (52, .bipush (-6), 0, (-6), 0, [], []), (54, .invokevirtual 93, 0, 0, 0, [126, 1, 1, 7, 5, 24], []), (57, .ireturn, 0, 0, 0, [], []), (58, .aload_n 0, 0, 0, 0, [], []), (59, .iload_n 1, 0, 0, 0, [], []), (60, .iload_n 2, 0, 0, 0, [], []), (61, .invokevirtual 204, 0, 0, 0, [165, 2, 0, 7, 5, 175], []), (64, .iconst 1, 0, 1, 0, [], []), (65, .ireturn, 0, 0, 0, [], [])]
def zT_M_place : zT := [(0, .iconst 0, 0, 0, 0, [], []), (1, .istore_n 3, 0, 0, 0, [], []), (2, .iload_n 3, 3, 0, 0, [], []), (3, .aload_n 0, 0, 0, 0, [], []), (4, .getfield 19, 0, 0, 0, [7, 4, 4, 134], []), (7, .iload_n 1, 0, 0, 0, [], []), (8, .iaload, 0, 0, 0, [], []), (9, .if_icmp .ge 26, 0, 0, 0, [22], []), (12, .aload_n 0, 0, 0, 0, [], []), (13, .getfield 22, 0, 0, 0, [7, 5, 4, 135], []), (16, .bipush 16, 0, 16, 0, [], []), (18, .iload_n 1, 0, 0, 0, [], []), (19, .imul, 0, 0, 0, [], []), (20, .iload_n 3, 0, 0, 0, [], []), (21, .iadd, 0, 0, 0, [], []), (22, .iaload, 0, 0, 0, [], []), (23, .iload_n 2, 0, 0, 0, [], []), (24, .if_icmp .ne 5, 0, 0, 0, [20], []), (27, .iload_n 3, 0, 0, 0, [], []), (28, .ireturn, 0, 0, 0, [], []), (29, .iinc 3 1, 0, 1, 0, [], []), (32, .goto (-30), 0, 0, 0, [2], []), (35, .iconst (-1), 0, (-1), 0, [], []), (36, .ireturn, 0, 0, 0, [], [])]
def zT_M_found : zT := [(0, .iload_n 3, 0, 0, 0, [], []), (1, .istore 4, 0, 0, 0, [], []), (3, .iload 4, 3, 0, 0, [], [3]), (5, .aload_n 0, 0, 0, 0, [], []), (6, .getfield 19, 0, 0, 0, [7, 4, 4, 134], []), (9, .iload_n 1, 0, 0, 0, [], []), (10, .iaload, 0, 0, 0, [], []), (11, .if_icmp .ge 36, 0, 0, 0, [26], []), (14, .aload_n 0, 0, 0, 0, [], []), (15, .getfield 25, 0, 0, 0, [7, 6, 4, 136], []), (18, .aload_n 0, 0, 0, 0, [], []), (19, .getfield 22, 0, 0, 0, [7, 5, 4, 135], []), (22, .bipush 16, 0, 16, 0, [], []), (24, .iload_n 1, 0, 0, 0, [], []), (25, .imul, 0, 0, 0, [], []), (26, .iload 4, 0, 0, 0, [], []), (28, .iadd, 0, 0, 0, [], []), (29, .iaload, 0, 0, 0, [], []), (30, .iaload, 0, 0, 0, [], []), (31, .iload_n 2, 0, 0, 0, [], []), (32, .invokestatic 201, 0, 0, 0, [131, 2, 3, 0, 5, 172], []), (35, .ifCond .eq 6, 0, 0, 0, [24], []), (38, .iload 4, 0, 0, 0, [], []), (40, .ireturn, 0, 0, 0, [], []), (41, .iinc 4 1, 0, 1, 0, [], []), (44, .goto (-41), 0, 0, 0, [2], []), (47, .iconst (-1), 0, (-1), 0, [], []), (48, .ireturn, 0, 0, 0, [], [])]
def zT_M_family : zT := [(0, .iconst 0, 0, 0, 0, [], []), (1, .istore_n 2, 0, 0, 0, [], []), (2, .iconst 0, 0, 0, 0, [], []), (3, .istore_n 3, 0, 0, 0, [], []), (4, .iload_n 3, 5, 0, 0, [], []), (5, .aload_n 0, 0, 0, 0, [], []), (6, .getfield 97, 0, 0, 0, [7, 0, 4, 130], []), (9, .if_icmp .ge 25, 0, 0, 0, [22], []), (12, .aload_n 0, 0, 0, 0, [], []), (13, .iload_n 3, 0, 0, 0, [], []), (14, .iload_n 1, 0, 0, 0, [], []), (15, .invokevirtual 208, 0, 0, 0, [167, 2, 1, 7, 5, 191], []), (18, .iconst (-1), 0, (-1), 0, [], []), (19, .if_icmp .eq 9, 0, 0, 0, [20], []), (22, .iload_n 2, 0, 0, 0, [], []), (23, .iconst 1, 0, 1, 0, [], []), (24, .iload_n 3, 0, 0, 0, [], []), (25, .ishl, 0, 0, 0, [], []), (26, .ior, 0, 0, 0, [], []), (27, .istore_n 2, 0, 0, 0, [], []), (28, .iinc 3 1, 0, 1, 0, [], []), (31, .goto (-27), 0, 0, 0, [4], []), (34, .iload_n 2, 0, 0, 0, [], []), (35, .ireturn, 0, 0, 0, [], [])]
def zT_M_allFound : zT := [(0, .iconst 0, 0, 0, 0, [], []), (1, .istore_n 2, 0, 0, 0, [], []), (2, .iconst 0, 0, 0, 0, [], []), (3, .istore_n 3, 0, 0, 0, [], []), (4, .iload_n 3, 5, 0, 0, [], []), (5, .aload_n 0, 0, 0, 0, [], []), (6, .getfield 19, 0, 0, 0, [7, 4, 4, 134], []), (9, .iload_n 1, 0, 0, 0, [], []), (10, .iaload, 0, 0, 0, [], []), (11, .if_icmp .ge 28, 0, 0, 0, [26], []), (14, .iload_n 2, 0, 0, 0, [], []), (15, .aload_n 0, 0, 0, 0, [], []), (16, .getfield 25, 0, 0, 0, [7, 6, 4, 136], []), (19, .aload_n 0, 0, 0, 0, [], []), (20, .getfield 22, 0, 0, 0, [7, 5, 4, 135], []), (23, .bipush 16, 0, 16, 0, [], []), (25, .iload_n 1, 0, 0, 0, [], []), (26, .imul, 0, 0, 0, [], []), (27, .iload_n 3, 0, 0, 0, [], []), (28, .iadd, 0, 0, 0, [], []), (29, .iaload, 0, 0, 0, [], []), (30, .iaload, 0, 0, 0, [], []), (31, .ior, 0, 0, 0, [], []), (32, .istore_n 2, 0, 0, 0, [], []), (33, .iinc 3 1, 0, 1, 0, [], []), (36, .goto (-32), 0, 0, 0, [4], []), (39, .iload_n 2, 0, 0, 0, [], []), (40, .ireturn, 0, 0, 0, [], [])]
def zT_M_objectOf : zT := [(0, .aload_n 0, 0, 0, 0, [], []), (1, .iload_n 1, 0, 0, 0, [], []), (2, .invokevirtual 111, 0, 0, 0, [129, 1, 3, 7, 5, 52], []), (5, .ifCond .ne 10, 0, 0, 0, [8], []), (8, .aload_n 0, 0, 0, 0, [], []), (9, .bipush (-5), 0, (-5), 0, [], []), (11, .invokevirtual 93, 0, 0, 0, [126, 1, 1, 7, 5, 24], []), (14, .ireturn, 0, 0, 0, [], []), (15, .iload_n 2, 0, 0, 0, [], []), (16, .iconst 2, 0, 2, 0, [], []), (17, .iconst 4, 0, 4, 0, [], []), (18, .invokestatic 100, 0, 0, 0, [128, 3, 3, 0, 5, 21], []), (21, .ifCond .eq 16, 0, 0, 0, [24], []), (24, .aload_n 0, 0, 0, 0, [], []), (25, .getfield 16, 0, 0, 0, [7, 3, 4, 133], []), (28, .iconst 3, 0, 3, 0, [], []), (29, .iload_n 1, 0, 0, 0, [], []), (30, .imul, 0, 0, 0, [], []), (31, .iload_n 2, 0, 0, 0, [], []), (32, .iadd, 0, 0, 0, [], []), (33, .iconst 2, 0, 2, 0, [], []), (34, .isub, 0, 0, 0, [], []), (35, .iaload, 0, 0, 0, [], []), (36, .ireturn, 0, 0, 0, [], []), (37, .iload_n 2, 0, 0, 0, [], []), (38, .tableswitch 90 0 8 #[50, 57, 90, 90, 90, 64, 71, 77, 84], 0, 0, 0, [50, 54, 26, 31, 54, 54, 54, 36, 41, 45, 50], []), (88, .aload_n 0, 0, 0, 0, [], []), (89, .getfield 7, 0, 0, 0, [7, 1, 4, 131], []), (92, .iload_n 1, 0, 0, 0, [], []), (93, .iaload, 0, 0, 0, [], []), (94, .ireturn, 0, 0, 0, [], []), (95, .aload_n 0, 0, 0, 0, [], []), (96, .getfield 13, 0, 0, 0, [7, 2, 4, 132], []), (99, .iload_n 1, 0, 0, 0, [], []), (100, .iaload, 0, 0, 0, [], []), (101, .ireturn, 0, 0, 0, [], []), (102, .aload_n 0, 0, 0, 0, [], []), (103, .getfield 25, 0, 0, 0, [7, 6, 4, 136], []), (106, .iload_n 1, 0, 0, 0, [], []), (107, .iaload, 0, 0, 0, [], []), (108, .ireturn, 0, 0, 0, [], []), (109, .aload_n 0, 0, 0, 0, [], []), (110, .iload_n 1, 0, 0, 0, [], []), (111, .invokevirtual 211, 0, 0, 0, [170, 1, 1, 7, 5, 183], []), (114, .ireturn, 0, 0, 0, [], []), (115, .aload_n 0, 0, 0, 0, [], []), (116, .getfield 19, 0, 0, 0, [7, 4, 4, 134], []), (119, .iload_n 1, 0, 0, 0, [], []), (120, .iaload, 0, 0, 0, [], []), (121, .ireturn, 0, 0, 0, [], []), (122, .aload_n 0, 0, 0, 0, [], []), (123, .iload_n 1, 0, 0, 0, [], []), (124, .invokevirtual 214, 0, 0, 0, [169, 1, 1, 7, 5, 187], []), (127, .ireturn, 0, 0, 0, [], []), (128, .aload_n 0, 0, 0, 0, [], []), (129, .bipush (-5), 0, (-5), 0, [], []), (131, .invokevirtual 93, 0, 0, 0, [126, 1, 1, 7, 5, 24], []), (134, .ireturn, 0, 0, 0, [], [])]
def zT_M_order : zT := [(0, .aload_n 0, 0, 0, 0, [], []), (1, .iload_n 1, 0, 0, 0, [], []), (2, .invokevirtual 111, 0, 0, 0, [129, 1, 3, 7, 5, 52], []), (5, .ifCond .ne 9, 0, 0, 0, [8], []), (8, .aload_n 0, 0, 0, 0, [], []), (9, .iconst (-1), 0, (-1), 0, [], []), (10, .invokevirtual 151, 0, 0, 0, [127, 1, 1, 7, 5, 105], []), (13, .ireturn, 0, 0, 0, [], []), (14, .iload_n 2, 0, 0, 0, [], []), (15, .iconst 0, 0, 0, 0, [], []), (16, .aload_n 0, 0, 0, 0, [], []), (17, .getfield 19, 0, 0, 0, [7, 4, 4, 134], []), (20, .iload_n 1, 0, 0, 0, [], []), (21, .iaload, 0, 0, 0, [], []), (22, .iconst 1, 0, 1, 0, [], []), (23, .isub, 0, 0, 0, [], []), (24, .invokestatic 100, 0, 0, 0, [128, 3, 3, 0, 5, 21], []), (27, .ifCond .eq 17, 0, 0, 0, [27], []), (30, .aload_n 0, 0, 0, 0, [], []), (31, .getfield 22, 0, 0, 0, [7, 5, 4, 135], []), (34, .bipush 16, 0, 16, 0, [], []), (36, .iload_n 1, 0, 0, 0, [], []), (37, .imul, 0, 0, 0, [], []), (38, .iload_n 2, 0, 0, 0, [], []), (39, .iadd, 0, 0, 0, [], []), (40, .iaload, 0, 0, 0, [], []), (41, .goto 4, 0, 0, 0, [28], []), (44, .iconst (-1), 0, (-1), 0, [], []), (45, .ireturn, 0, 0, 0, [], [])]
def zT_M_distance : zT := [(0, .aload_n 0, 0, 0, 0, [], []), (1, .iload_n 1, 0, 0, 0, [], []), (2, .invokevirtual 111, 0, 0, 0, [129, 1, 3, 7, 5, 52], []), (5, .ifCond .eq 20, 0, 0, 0, [13], []), (8, .aload_n 0, 0, 0, 0, [], []), (9, .iload_n 2, 0, 0, 0, [], []), (10, .invokevirtual 111, 0, 0, 0, [129, 1, 3, 7, 5, 52], []), (13, .ifCond .eq 12, 0, 0, 0, [13], []), (16, .aload_n 0, 0, 0, 0, [], []), (17, .iload_n 1, 0, 0, 0, [], []), (18, .iload_n 2, 0, 0, 0, [], []), (19, .invokevirtual 208, 0, 0, 0, [167, 2, 1, 7, 5, 191], []), (22, .goto 8, 0, 0, 0, [16], []), (25, .aload_n 0, 0, 0, 0, [], []), (26, .iconst (-1), 0, (-1), 0, [], []), (27, .invokevirtual 151, 0, 0, 0, [127, 1, 1, 7, 5, 105], []), (30, .ireturn, 0, 0, 0, [], [])]
def zT_M_where : zT := [(0, .aload_n 0, 0, 0, 0, [], []), (1, .iload_n 1, 0, 0, 0, [], []), (2, .invokevirtual 111, 0, 0, 0, [129, 1, 3, 7, 5, 52], []), (5, .ifCond .eq 10, 0, 0, 0, [7], []), (8, .iload_n 2, 0, 0, 0, [], []), (9, .invokestatic 198, 0, 0, 0, [130, 1, 3, 0, 5, 161], []), (12, .ifCond .ne 9, 0, 0, 0, [11], []), (15, .aload_n 0, 0, 0, 0, [], []), (16, .iconst (-1), 0, (-1), 0, [], []), (17, .invokevirtual 151, 0, 0, 0, [127, 1, 1, 7, 5, 105], []), (20, .ireturn, 0, 0, 0, [], []), (21, .aload_n 0, 0, 0, 0, [], []), (22, .iload_n 1, 0, 0, 0, [], []), (23, .iload_n 2, 0, 0, 0, [], []), (24, .iconst 0, 0, 0, 0, [], []), (25, .invokevirtual 217, 0, 0, 0, [168, 3, 1, 7, 5, 207], []), (28, .istore_n 3, 0, 0, 0, [], []), (29, .iload_n 3, 0, 0, 0, [], []), (30, .iconst (-1), 0, (-1), 0, [], []), (31, .if_icmp .ne 7, 0, 0, 0, [22], []), (34, .iconst (-1), 0, (-1), 0, [], []), (35, .goto 14, 0, 0, 0, [30], []), (38, .aload_n 0, 0, 0, 0, [], []), (39, .getfield 22, 0, 0, 0, [7, 5, 4, 135], []), (42, .bipush 16, 0, 16, 0, [], []), (44, .iload_n 1, 0, 0, 0, [], []), (45, .imul, 0, 0, 0, [], []), (46, .iload_n 3, 0, 0, 0, [], []), (47, .iadd, 0, 0, 0, [], []), (48, .iaload, 0, 0, 0, [], []), (49, .ireturn, 0, 0, 0, [], [])]
def zT_M_hidden : zT := [(0, .aload_n 0, 0, 0, 0, [], []), (1, .iload_n 1, 0, 0, 0, [], []), (2, .invokevirtual 111, 0, 0, 0, [129, 1, 3, 7, 5, 52], []), (5, .ifCond .eq 11, 0, 0, 0, [8], []), (8, .aload_n 0, 0, 0, 0, [], []), (9, .iload_n 2, 0, 0, 0, [], []), (10, .invokevirtual 111, 0, 0, 0, [129, 1, 3, 7, 5, 52], []), (13, .ifCond .ne 9, 0, 0, 0, [12], []), (16, .aload_n 0, 0, 0, 0, [], []), (17, .iconst (-1), 0, (-1), 0, [], []), (18, .invokevirtual 93, 0, 0, 0, [126, 1, 1, 7, 5, 24], []), (21, .ireturn, 0, 0, 0, [], []), (22, .aload_n 0, 0, 0, 0, [], []), (23, .iload_n 1, 0, 0, 0, [], []), (24, .iload_n 2, 0, 0, 0, [], []), (25, .invokevirtual 208, 0, 0, 0, [167, 2, 1, 7, 5, 191], []), (28, .istore_n 3, 0, 0, 0, [], []), (29, .iload_n 3, 0, 0, 0, [], []), (30, .iconst (-1), 0, (-1), 0, [], []), (31, .if_icmp .ne 10, 0, 0, 0, [24], []), (34, .aload_n 0, 0, 0, 0, [], []), (35, .bipush (-6), 0, (-6), 0, [], []), (37, .invokevirtual 93, 0, 0, 0, [126, 1, 1, 7, 5, 24], []), (40, .ireturn, 0, 0, 0, [], []), (41, .aload_n 0, 0, 0, 0, [], []), (42, .getfield 25, 0, 0, 0, [7, 6, 4, 136], []), (45, .iload_n 2, 0, 0, 0, [], []), (46, .iaload, 0, 0, 0, [], []), (47, .istore 4, 0, 0, 0, [], []), (49, .iconst 0, 0, 0, 0, [], []), (50, .istore 5, 0, 0, 0, [], []), (52, .iload 5, 32, 0, 0, [], [2]), (54, .bipush 16, 0, 16, 0, [], []), (56, .if_icmp .ge 32, 0, 0, 0, [51], []), (59, .aload_n 0, 0, 0, 0, [], []), (60, .iload_n 1, 0, 0, 0, [], []), (61, .iload 5, 0, 0, 0, [], []), (63, .iconst 0, 0, 0, 0, [], []), (64, .invokevirtual 217, 0, 0, 0, [168, 3, 1, 7, 5, 207], []), (67, .iload_n 3, 0, 0, 0, [], []), (68, .if_icmp .ne 14, 0, 0, 0, [49], []), (71, .iload 4, 0, 0, 0, [], []), (73, .iconst 1, 0, 1, 0, [], []), (74, .iload 5, 0, 0, 0, [], []), (76, .ishl, 0, 0, 0, [], []), (77, .iconst (-1), 0, (-1), 0, [], []), (78, .ixor, 0, 0, 0, [], []), (79, .iand, 0, 0, 0, [], []), (80, .istore 4, 0, 0, 0, [], []), (82, .iinc 5 1, 0, 1, 0, [], []), (85, .goto (-33), 0, 0, 0, [31], []), (88, .iload 4, 0, 0, 0, [], []), (90, .ireturn, 0, 0, 0, [], [])]
def zT_M_slotOf : zT := [(0, .aload_n 0, 0, 0, 0, [], []), (1, .iload_n 1, 0, 0, 0, [], []), (2, .invokevirtual 111, 0, 0, 0, [129, 1, 3, 7, 5, 52], []), (5, .ifCond .eq 23, 0, 0, 0, [14], []), (8, .iload_n 2, 0, 0, 0, [], []), (9, .invokestatic 198, 0, 0, 0, [130, 1, 3, 0, 5, 161], []), (12, .ifCond .eq 16, 0, 0, 0, [14], []), (15, .aload_n 0, 0, 0, 0, [], []), (16, .getfield 25, 0, 0, 0, [7, 6, 4, 136], []), (19, .iload_n 1, 0, 0, 0, [], []), (20, .iaload, 0, 0, 0, [], []), (21, .iload_n 2, 0, 0, 0, [], []), (22, .invokestatic 201, 0, 0, 0, [131, 2, 3, 0, 5, 172], []), (25, .ifCond .ne 5, 0, 0, 0, [16], []), (28, .iconst 0, 0, 0, 0, [], []), (29, .ireturn, 0, 0, 0, [], []), (30, .iload_n 3, 0, 0, 0, [], []), (31, .tableswitch 60 0 2 #[25, 36, 48], 0, 0, 0, [25, 45, 18, 27, 36], []), (56, .aload_n 0, 0, 0, 0, [], []), (57, .getfield 28, 0, 0, 0, [7, 7, 4, 137], []), (60, .iload_n 1, 0, 0, 0, [], []), (61, .iaload, 0, 0, 0, [], []), (62, .iload_n 2, 0, 0, 0, [], []), (63, .ishr, 0, 0, 0, [], []), (64, .iconst 1, 0, 1, 0, [], []), (65, .iand, 0, 0, 0, [], []), (66, .ireturn, 0, 0, 0, [], []), (67, .aload_n 0, 0, 0, 0, [], []), (68, .getfield 31, 0, 0, 0, [7, 8, 4, 138], []), (71, .bipush 16, 0, 16, 0, [], []), (73, .iload_n 1, 0, 0, 0, [], []), (74, .imul, 0, 0, 0, [], []), (75, .iload_n 2, 0, 0, 0, [], []), (76, .iadd, 0, 0, 0, [], []), (77, .iaload, 0, 0, 0, [], []), (78, .ireturn, 0, 0, 0, [], []), (79, .aload_n 0, 0, 0, 0, [], []), (80, .getfield 34, 0, 0, 0, [7, 9, 4, 139], []), (83, .bipush 16, 0, 16, 0, [], []), (85, .iload_n 1, 0, 0, 0, [], []), (86, .imul, 0, 0, 0, [], []), (87, .iload_n 2, 0, 0, 0, [], []), (88, .iadd, 0, 0, 0, [], []), (89, .iaload, 0, 0, 0, [], []), (90, .ireturn, 0, 0, 0, [], []), (91, .iconst 0, 0, 0, 0, [], []), (92, .ireturn, 0, 0, 0, [], [])]
def zT_M_fails : zT := [(0, .aload_n 0, 0, 0, 0, [], []), (1, .iconst 1, 0, 1, 0, [], []), (2, .putfield 221, 0, 0, 0, [7, 28, 0, 4, 158], []), (5, .iconst 0, 0, 0, 0, [], []), (6, .ireturn, 0, 0, 0, [], [])]
def zT_M_slotOf2 : zT := [(0, .iload_n 0, 0, 0, 0, [], []), (1, .bipush 15, 0, 15, 0, [], []), (3, .iand, 0, 0, 0, [], []), (4, .ireturn, 0, 0, 0, [], [])]
def zT_M_sends : zT := [(0, .aload_n 0, 0, 0, 0, [], []), (1, .iload_n 1, 0, 0, 0, [], []), (2, .aload_n 0, 0, 0, 0, [], []), (3, .aload_n 0, 0, 0, 0, [], []), (4, .getfield 224, 0, 0, 0, [7, 38, 4, 168], []), (7, .iload_n 1, 0, 0, 0, [], []), (8, .iconst 0, 0, 0, 0, [], []), (9, .invokevirtual 217, 0, 0, 0, [168, 3, 1, 7, 5, 207], []), (12, .iload_n 2, 0, 0, 0, [], []), (13, .invokevirtual 227, 0, 0, 0, [180, 3, 1, 7, 5, 235], []), (16, .ireturn, 0, 0, 0, [], [])]
def zT_M_gives : zT := [(0, .iload_n 2, 0, 0, 0, [], []), (1, .iconst (-1), 0, (-1), 0, [], []), (2, .if_icmp .ne 8, 0, 0, 0, [6], []), (5, .aload_n 0, 0, 0, 0, [], []), (6, .invokevirtual 230, 0, 0, 0, [177, 0, 1, 7, 5, 239], []), (9, .ireturn, 0, 0, 0, [], []), (10, .aload_n 0, 0, 0, 0, [], []), (11, .getfield 22, 0, 0, 0, [7, 5, 4, 135], []), (14, .bipush 16, 0, 16, 0, [], []), (16, .aload_n 0, 0, 0, 0, [], []), (17, .getfield 224, 0, 0, 0, [7, 38, 4, 168], []), (20, .imul, 0, 0, 0, [], []), (21, .iload_n 2, 0, 0, 0, [], []), (22, .iadd, 0, 0, 0, [], []), (23, .iaload, 0, 0, 0, [], []), (24, .istore 4, 0, 0, 0, [], []), (26, .bipush 16, 0, 16, 0, [], []), (28, .iload 4, 0, 0, 0, [], []), (30, .imul, 0, 0, 0, [], []), (31, .iload_n 1, 0, 0, 0, [], []), (32, .iadd, 0, 0, 0, [], []), (33, .istore 5, 0, 0, 0, [], []), (35, .aload_n 0, 0, 0, 0, [], []), (36, .getfield 28, 0, 0, 0, [7, 7, 4, 137], []), (39, .iload 4, 0, 0, 0, [], []), (41, .iaload, 0, 0, 0, [], []), (42, .iload_n 1, 0, 0, 0, [], []), (43, .invokestatic 201, 0, 0, 0, [131, 2, 3, 0, 5, 172], []), (46, .ifCond .eq 28, 0, 0, 0, [44], []), (49, .aload_n 0, 0, 0, 0, [], []), (50, .aload_n 0, 0, 0, 0, [], []), (51, .getfield 31, 0, 0, 0, [7, 8, 4, 138], []), (54, .iload 5, 0, 0, 0, [], []), (56, .iaload, 0, 0, 0, [], []), (57, .aload_n 0, 0, 0, 0, [], []), (58, .getfield 34, 0, 0, 0, [7, 9, 4, 139], []), (61, .iload 5, 0, 0, 0, [], []), (63, .iaload, 0, 0, 0, [], []), (64, .iload_n 3, 0, 0, 0, [], []), (65, .iconst 0, 0, 0, 0, [], []), (66, .iload_n 1, 0, 0, 0, [], []), (67, .iload_n 2, 0, 0, 0, [], []), (68, .invokevirtual 233, 0, 0, 0, [183, 6, 1, 7, 6, 3], []), (71, .goto 10, 0, 0, 0, [48], []), (74, .aload_n 0, 0, 0, 0, [], []), (75, .getfield 34, 0, 0, 0, [7, 9, 4, 139], []), (78, .iload 5, 0, 0, 0, [], []), (80, .iaload, 0, 0, 0, [], []), (81, .ireturn, 0, 0, 0, [], [])]
def zT_M_next2 : zT := [(0, .iload_n 1, 0, 0, 0, [], []), (1, .tableswitch 111 0 2 #[27, 47, 80], 0, 0, 0, [27, 56, 2, 15, 36], []), (28, .aload_n 0, 0, 0, 0, [], []), (29, .iload_n 2, 0, 0, 0, [], []), (30, .aload_n 0, 0, 0, 0, [], []), (31, .aload_n 0, 0, 0, 0, [], []), (32, .getfield 224, 0, 0, 0, [7, 38, 4, 168], []), (35, .iload_n 2, 0, 0, 0, [], []), (36, .iload_n 3, 0, 0, 0, [], []), (37, .iconst 1, 0, 1, 0, [], []), (38, .iadd, 0, 0, 0, [], []), (39, .invokevirtual 217, 0, 0, 0, [168, 3, 1, 7, 5, 207], []), (42, .iload 4, 0, 0, 0, [], []), (44, .invokevirtual 227, 0, 0, 0, [180, 3, 1, 7, 5, 235], []), (47, .ireturn, 0, 0, 0, [], []), (48, .iload_n 3, 0, 0, 0, [], []), (49, .iconst 1, 0, 1, 0, [], []), (50, .iadd, 0, 0, 0, [], []), (51, .aload_n 0, 0, 0, 0, [], []), (52, .getfield 77, 0, 0, 0, [7, 37, 4, 167], []), (55, .iconst 3, 0, 3, 0, [], []), (56, .iaload, 0, 0, 0, [], []), (57, .if_icmp .ge 17, 0, 0, 0, [32], []), (60, .aload_n 0, 0, 0, 0, [], []), (61, .iconst 3, 0, 3, 0, [], []), (62, .iload_n 3, 0, 0, 0, [], []), (63, .iconst 1, 0, 1, 0, [], []), (64, .iadd, 0, 0, 0, [], []), (65, .iload 4, 0, 0, 0, [], []), (67, .iconst 1, 0, 1, 0, [], []), (68, .invokevirtual 237, 0, 0, 0, [185, 4, 1, 7, 6, 11], []), (71, .goto 9, 0, 0, 0, [35], []), (74, .aload_n 0, 0, 0, 0, [], []), (75, .iload 4, 0, 0, 0, [], []), (77, .invokevirtual 241, 0, 0, 0, [186, 1, 1, 7, 6, 19], []), (80, .ireturn, 0, 0, 0, [], []), (81, .iload_n 3, 0, 0, 0, [], []), (82, .iconst 1, 0, 1, 0, [], []), (83, .iadd, 0, 0, 0, [], []), (84, .aload_n 0, 0, 0, 0, [], []), (85, .getfield 77, 0, 0, 0, [7, 37, 4, 167], []), (88, .iconst 0, 0, 0, 0, [], []), (89, .iaload, 0, 0, 0, [], []), (90, .if_icmp .ge 17, 0, 0, 0, [53], []), (93, .aload_n 0, 0, 0, 0, [], []), (94, .iconst 0, 0, 0, 0, [], []), (95, .iload_n 3, 0, 0, 0, [], []), (96, .iconst 1, 0, 1, 0, [], []), (97, .iadd, 0, 0, 0, [], []), (98, .iload 4, 0, 0, 0, [], []), (100, .iconst 2, 0, 2, 0, [], []), (101, .invokevirtual 237, 0, 0, 0, [185, 4, 1, 7, 6, 11], []), (104, .goto 7, 0, 0, 0, [55], []), (107, .aload_n 0, 0, 0, 0, [], []), (108, .invokevirtual 230, 0, 0, 0, [177, 0, 1, 7, 5, 239], []), (111, .ireturn, 0, 0, 0, [], []), (112, .aload_n 0, 0, 0, 0, [], []), (113, .invokevirtual 230, 0, 0, 0, [177, 0, 1, 7, 5, 239], []), (116, .ireturn, 0, 0, 0, [], [])]
def zT_M_sets : zT := [(0, .aload_n 0, 0, 0, 0, [], []), (1, .getfield 7, 0, 0, 0, [7, 1, 4, 131], []), (4, .aload_n 0, 0, 0, 0, [], []), (5, .getfield 224, 0, 0, 0, [7, 38, 4, 168], []), (8, .iaload, 0, 0, 0, [], []), (9, .iconst 1, 0, 1, 0, [], []), (10, .if_icmp .eq 16, 0, 0, 0, [14], []), (13, .aload_n 0, 0, 0, 0, [], []), (14, .getfield 7, 0, 0, 0, [7, 1, 4, 131], []), (17, .aload_n 0, 0, 0, 0, [], []), (18, .getfield 224, 0, 0, 0, [7, 38, 4, 168], []), (21, .iaload, 0, 0, 0, [], []), (22, .iconst 3, 0, 3, 0, [], []), (23, .if_icmp .ne 8, 0, 0, 0, [17], []), (26, .aload_n 0, 0, 0, 0, [], []), (27, .invokevirtual 230, 0, 0, 0, [177, 0, 1, 7, 5, 239], []), (30, .ireturn, 0, 0, 0, [], []), (31, .aload_n 0, 0, 0, 0, [], []), (32, .aload_n 0, 0, 0, 0, [], []), (33, .getfield 224, 0, 0, 0, [7, 38, 4, 168], []), (36, .iload_n 1, 0, 0, 0, [], []), (37, .iconst 0, 0, 0, 0, [], []), (38, .iconst 0, 0, 0, 0, [], []), (39, .iload_n 2, 0, 0, 0, [], []), (40, .invokevirtual 185, 0, 0, 0, [162, 5, 0, 7, 5, 149], []), (43, .iload_n 2, 0, 0, 0, [], []), (44, .ireturn, 0, 0, 0, [], [])]
def zT_M_runs : zT := [(0, .aload_n 0, 0, 0, 0, [], []), (1, .getfield 244, 0, 0, 0, [7, 29, 4, 159], []), (4, .sipush 200, 0, 200, 0, [], []), (7, .if_icmp .ne 10, 0, 0, 0, [9], []), (10, .aload_n 0, 0, 0, 0, [], []), (11, .iconst 2, 0, 2, 0, [], []), (12, .putfield 221, 0, 0, 0, [7, 28, 0, 4, 158], []), (15, .iconst 0, 0, 0, 0, [], []), (16, .ireturn, 0, 0, 0, [], []), (17, .aload_n 0, 0, 0, 0, [], []), (18, .dup, 0, 0, 0, [], []), (19, .getfield 244, 0, 0, 0, [7, 29, 4, 159], []), (22, .iconst 1, 0, 1, 0, [], []), (23, .iadd, 0, 0, 0, [], []), (24, .putfield 244, 0, 0, 0, [7, 29, 0, 4, 159], []), (27, .aload_n 0, 0, 0, 0, [], []), (28, .getfield 244, 0, 0, 0, [7, 29, 4, 159], []), (31, .istore 7, 0, 0, 0, [], []), (33, .iload_n 1, 0, 0, 0, [], []), (34, .tableswitch 171 0 8 #[50, 54, 58, 72, 109, 119, 135, 145, 166], 0, 0, 0, [50, 94, 20, 24, 28, 37, 56, 62, 72, 78, 90], []), (84, .iload_n 3, 0, 0, 0, [], []), (85, .iload_n 2, 0, 0, 0, [], []), (86, .iadd, 0, 0, 0, [], []), (87, .ireturn, 0, 0, 0, [], []), (88, .iload_n 3, 0, 0, 0, [], []), (89, .iload_n 2, 0, 0, 0, [], []), (90, .imul, 0, 0, 0, [], []), (91, .ireturn, 0, 0, 0, [], []), (92, .aload_n 0, 0, 0, 0, [], []), (93, .iload 4, 0, 0, 0, [], []), (95, .iload 5, 0, 0, 0, [], []), (97, .iload 6, 0, 0, 0, [], []), (99, .iload_n 3, 0, 0, 0, [], []), (100, .iload_n 2, 0, 0, 0, [], []), (101, .iadd, 0, 0, 0, [], []), (102, .invokevirtual 247, 0, 0, 0, [181, 4, 1, 7, 6, 7], []), (105, .ireturn, 0, 0, 0, [], []), (106, .aload_n 0, 0, 0, 0, [], []), (107, .iload 4, 0, 0, 0, [], []), (109, .iload 5, 0, 0, 0, [], []), (111, .iload 6, 0, 0, 0, [], []), (113, .iload_n 3, 0, 0, 0, [], []), (114, .invokevirtual 247, 0, 0, 0, [181, 4, 1, 7, 6, 7], []), (117, .istore 8, 0, 0, 0, [], []), (119, .aload_n 0, 0, 0, 0, [], []), (120, .getfield 221, 0, 0, 0, [7, 28, 4, 158], []), (123, .ifCond .ne 18, 0, 0, 0, [54], []), (126, .aload_n 0, 0, 0, 0, [], []), (127, .iload 4, 0, 0, 0, [], []), (129, .iload 5, 0, 0, 0, [], []), (131, .iload 6, 0, 0, 0, [], []), (133, .iload 8, 0, 0, 0, [], []), (135, .invokevirtual 247, 0, 0, 0, [181, 4, 1, 7, 6, 7], []), (138, .goto 4, 0, 0, 0, [55], []), (141, .iconst 0, 0, 0, 0, [], []), (142, .ireturn, 0, 0, 0, [], []), (143, .aload_n 0, 0, 0, 0, [], []), (144, .iload_n 2, 0, 0, 0, [], []), (145, .invokestatic 249, 0, 0, 0, [178, 1, 1, 0, 6, 23], []), (148, .iload_n 3, 0, 0, 0, [], []), (149, .invokevirtual 252, 0, 0, 0, [179, 2, 1, 7, 5, 231], []), (152, .ireturn, 0, 0, 0, [], []), (153, .aload_n 0, 0, 0, 0, [], []), (154, .iload_n 2, 0, 0, 0, [], []), (155, .invokestatic 249, 0, 0, 0, [178, 1, 1, 0, 6, 23], []), (158, .iconst 0, 0, 0, 0, [], []), (159, .invokevirtual 252, 0, 0, 0, [179, 2, 1, 7, 5, 231], []), (162, .istore 8, 0, 0, 0, [], []), (164, .iload_n 3, 0, 0, 0, [], []), (165, .iload 8, 0, 0, 0, [], []), (167, .iadd, 0, 0, 0, [], []), (168, .ireturn, 0, 0, 0, [], []), (169, .aload_n 0, 0, 0, 0, [], []), (170, .iload_n 2, 0, 0, 0, [], []), (171, .invokestatic 249, 0, 0, 0, [178, 1, 1, 0, 6, 23], []), (174, .iload_n 3, 0, 0, 0, [], []), (175, .invokevirtual 255, 0, 0, 0, [182, 2, 1, 7, 6, 26], []), (178, .ireturn, 0, 0, 0, [], []), (179, .iload_n 3, 0, 0, 0, [], []), (180, .iload_n 2, 0, 0, 0, [], []), (181, .if_icmp .lt 7, 0, 0, 0, [83], []), (184, .iload_n 3, 0, 0, 0, [], []), (185, .goto 14, 0, 0, 0, [89], []), (188, .aload_n 0, 0, 0, 0, [], []), (189, .iload 4, 0, 0, 0, [], []), (191, .iload 5, 0, 0, 0, [], []), (193, .iload 6, 0, 0, 0, [], []), (195, .iload_n 3, 0, 0, 0, [], []), (196, .invokevirtual 247, 0, 0, 0, [181, 4, 1, 7, 6, 7], []), (199, .ireturn, 0, 0, 0, [], []), (200, .iload 7, 0, 0, 0, [], []), (202, .iload_n 3, 0, 0, 0, [], []), (203, .iadd, 0, 0, 0, [], []), (204, .ireturn, 0, 0, 0, [], []), (205, .aload_n 0, 0, 0, 0, [], []), (206, .iload 4, 0, 0, 0, [], []), (208, .iload 5, 0, 0, 0, [], []), (210, .iload 6, 0, 0, 0, [], []), (212, .iload_n 3, 0, 0, 0, [], []), (213, .invokevirtual 247, 0, 0, 0, [181, 4, 1, 7, 6, 7], []), (216, .istore 8, 0, 0, 0, [], []), (218, .aload_n 0, 0, 0, 0, [], []), (219, .getfield 221, 0, 0, 0, [7, 28, 4, 158], []), (222, .iconst 1, 0, 1, 0, [], []), (223, .if_icmp .eq 6, 0, 0, 0, [107], []), (226, .iload 8, 0, 0, 0, [], []), (228, .ireturn, 0, 0, 0, [], []), (229, .aload_n 0, 0, 0, 0, [], []), (230, .iconst 0, 0, 0, 0, [], []), (231, .putfield 221, 0, 0, 0, [7, 28, 0, 4, 158], []), (234, .iload_n 2, 0, 0, 0, [], []), (235, .ireturn, 0, 0, 0, [], [])]
def zT_M_way : zT := [(0, .aload_n 0, 0, 0, 0, [], []), (1, .getfield 37, 0, 0, 0, [7, 11, 4, 141], []), (4, .bipush 32, 0, 32, 0, [], []), (6, .iload_n 1, 0, 0, 0, [], []), (7, .imul, 0, 0, 0, [], []), (8, .iload_n 2, 0, 0, 0, [], []), (9, .iadd, 0, 0, 0, [], []), (10, .iaload, 0, 0, 0, [], []), (11, .ireturn, 0, 0, 0, [], [])]
def zT_M_goes : zT := [(0, .aload_n 0, 0, 0, 0, [], []), (1, .getfield 74, 0, 0, 0, [7, 36, 4, 166], []), (4, .bipush 32, 0, 32, 0, [], []), (6, .iload_n 1, 0, 0, 0, [], []), (7, .imul, 0, 0, 0, [], []), (8, .iload_n 2, 0, 0, 0, [], []), (9, .iadd, 0, 0, 0, [], []), (10, .iaload, 0, 0, 0, [], []), (11, .istore 5, 0, 0, 0, [], []), (13, .aload_n 0, 0, 0, 0, [], []), (14, .getfield 244, 0, 0, 0, [7, 29, 4, 159], []), (17, .sipush 200, 0, 200, 0, [], []), (20, .if_icmp .ge 33, 0, 0, 0, [29], []), (23, .aload_n 0, 0, 0, 0, [], []), (24, .getfield 258, 0, 0, 0, [7, 33, 4, 163], []), (27, .bipush 30, 0, 30, 0, [], []), (29, .if_icmp .ge 14, 0, 0, 0, [23], []), (32, .aload_n 0, 0, 0, 0, [], []), (33, .getfield 68, 0, 0, 0, [7, 34, 4, 164], []), (36, .aload_n 0, 0, 0, 0, [], []), (37, .getfield 258, 0, 0, 0, [7, 33, 4, 163], []), (40, .iload 5, 0, 0, 0, [], []), (42, .iastore, 0, 0, 0, [], []), (43, .aload_n 0, 0, 0, 0, [], []), (44, .dup, 0, 0, 0, [], []), (45, .getfield 258, 0, 0, 0, [7, 33, 4, 163], []), (48, .iconst 1, 0, 1, 0, [], []), (49, .iadd, 0, 0, 0, [], []), (50, .putfield 258, 0, 0, 0, [7, 33, 0, 4, 163], []), (53, .aload_n 0, 0, 0, 0, [], []), (54, .aload_n 0, 0, 0, 0, [], []), (55, .iconst 4, 0, 4, 0, [], []), (56, .iload 5, 0, 0, 0, [], []), (58, .invokevirtual 261, 0, 0, 0, [184, 2, 1, 7, 6, 15], []), (61, .aload_n 0, 0, 0, 0, [], []), (62, .iconst 5, 0, 5, 0, [], []), (63, .iload 5, 0, 0, 0, [], []), (65, .invokevirtual 261, 0, 0, 0, [184, 2, 1, 7, 6, 15], []), (68, .iload_n 3, 0, 0, 0, [], []), (69, .iload 4, 0, 0, 0, [], []), (71, .iconst 0, 0, 0, 0, [], []), (72, .iload_n 2, 0, 0, 0, [], []), (73, .invokevirtual 233, 0, 0, 0, [183, 6, 1, 7, 6, 3], []), (76, .ireturn, 0, 0, 0, [], [])]
def zT_M_core : zT := [(0, .aload_n 0, 0, 0, 0, [], []), (1, .getfield 77, 0, 0, 0, [7, 37, 4, 167], []), (4, .iconst 0, 0, 0, 0, [], []), (5, .iaload, 0, 0, 0, [], []), (6, .ifCond .ne 8, 0, 0, 0, [8], []), (9, .aload_n 0, 0, 0, 0, [], []), (10, .invokevirtual 230, 0, 0, 0, [177, 0, 1, 7, 5, 239], []), (13, .ireturn, 0, 0, 0, [], []), (14, .iconst 0, 0, 0, 0, [], []), (15, .istore_n 2, 0, 0, 0, [], []), (16, .iload_n 2, 11, 0, 0, [], [3]), (17, .aload_n 0, 0, 0, 0, [], []), (18, .getfield 77, 0, 0, 0, [7, 37, 4, 167], []), (21, .iconst 1, 0, 1, 0, [], []), (22, .iaload, 0, 0, 0, [], []), (23, .if_icmp .ge 25, 0, 0, 0, [28], []), (26, .aload_n 0, 0, 0, 0, [], []), (27, .getfield 221, 0, 0, 0, [7, 28, 4, 158], []), (30, .ifCond .ne 18, 0, 0, 0, [28], []), (33, .aload_n 0, 0, 0, 0, [], []), (34, .iconst 1, 0, 1, 0, [], []), (35, .iload_n 2, 0, 0, 0, [], []), (36, .iload_n 1, 0, 0, 0, [], []), (37, .iconst 3, 0, 3, 0, [], []), (38, .invokevirtual 237, 0, 0, 0, [185, 4, 1, 7, 6, 11], []), (41, .pop, 0, 0, 0, [], []), (42, .iinc 2 1, 0, 1, 0, [], []), (45, .goto (-29), 0, 0, 0, [10], []), (48, .aload_n 0, 0, 0, 0, [], []), (49, .getfield 221, 0, 0, 0, [7, 28, 4, 158], []), (52, .ifCond .ne 14, 0, 0, 0, [38], []), (55, .aload_n 0, 0, 0, 0, [], []), (56, .iconst 0, 0, 0, 0, [], []), (57, .iconst 0, 0, 0, 0, [], []), (58, .iload_n 1, 0, 0, 0, [], []), (59, .iconst 2, 0, 2, 0, [], []), (60, .invokevirtual 237, 0, 0, 0, [185, 4, 1, 7, 6, 11], []), (63, .goto 4, 0, 0, 0, [39], []), (66, .iconst 0, 0, 0, 0, [], []), (67, .istore_n 2, 0, 0, 0, [], []), (68, .aload_n 0, 0, 0, 0, [], []), (69, .getfield 77, 0, 0, 0, [7, 37, 4, 167], []), (72, .iconst 2, 0, 2, 0, [], []), (73, .iaload, 0, 0, 0, [], []), (74, .iconst 1, 0, 1, 0, [], []), (75, .isub, 0, 0, 0, [], []), (76, .istore_n 3, 0, 0, 0, [], []), (77, .iload_n 3, 48, 0, 0, [], [1]), (78, .ifCond .lt 25, 0, 0, 0, [61], []), (81, .aload_n 0, 0, 0, 0, [], []), (82, .getfield 221, 0, 0, 0, [7, 28, 4, 158], []), (85, .ifCond .ne 18, 0, 0, 0, [61], []), (88, .aload_n 0, 0, 0, 0, [], []), (89, .iconst 2, 0, 2, 0, [], []), (90, .iload_n 3, 0, 0, 0, [], []), (91, .iload_n 2, 0, 0, 0, [], []), (92, .iconst 3, 0, 3, 0, [], []), (93, .invokevirtual 237, 0, 0, 0, [185, 4, 1, 7, 6, 11], []), (96, .pop, 0, 0, 0, [], []), (97, .iinc 3 (-1), 0, (-1), 0, [], []), (100, .goto (-23), 0, 0, 0, [47], []), (103, .iload_n 2, 0, 0, 0, [], []), (104, .ireturn, 0, 0, 0, [], [])]
def zT_M_begins : zT := [(0, .aload_n 0, 0, 0, 0, [], []), (1, .iload_n 1, 0, 0, 0, [], []), (2, .putfield 224, 0, 0, 0, [7, 38, 0, 4, 168], []), (5, .aload_n 0, 0, 0, 0, [], []), (6, .iconst 0, 0, 0, 0, [], []), (7, .putfield 221, 0, 0, 0, [7, 28, 0, 4, 158], []), (10, .aload_n 0, 0, 0, 0, [], []), (11, .iconst 0, 0, 0, 0, [], []), (12, .putfield 258, 0, 0, 0, [7, 33, 0, 4, 163], []), (15, .aload_n 0, 0, 0, 0, [], []), (16, .aload_n 0, 0, 0, 0, [], []), (17, .getfield 83, 0, 0, 0, [7, 41, 4, 171], []), (20, .invokevirtual 263, 0, 0, 0, [209, 1, 0, 7, 5, 227], []), (23, .return_, 0, 0, 0, [], [])]
def zT_M_done : zT := [(0, .aload_n 0, 0, 0, 0, [], []), (1, .getfield 221, 0, 0, 0, [7, 28, 4, 158], []), (4, .ifCond .ne 5, 0, 0, 0, [5], []), (7, .iload_n 1, 0, 0, 0, [], []), (8, .ireturn, 0, 0, 0, [], []), (9, .aload_n 0, 0, 0, 0, [], []), (10, .aload_n 0, 0, 0, 0, [], []), (11, .getfield 83, 0, 0, 0, [7, 41, 4, 171], []), (14, .invokevirtual 267, 0, 0, 0, [210, 1, 0, 7, 6, 34], []), (17, .iconst 0, 0, 0, 0, [], []), (18, .ireturn, 0, 0, 0, [], [])]
def zT_M_send : zT := [(0, .aload_n 0, 0, 0, 0, [], []), (1, .iload_n 1, 0, 0, 0, [], []), (2, .invokevirtual 111, 0, 0, 0, [129, 1, 3, 7, 5, 52], []), (5, .ifCond .eq 10, 0, 0, 0, [7], []), (8, .iload_n 2, 0, 0, 0, [], []), (9, .invokestatic 198, 0, 0, 0, [130, 1, 3, 0, 5, 161], []), (12, .ifCond .ne 9, 0, 0, 0, [11], []), (15, .aload_n 0, 0, 0, 0, [], []), (16, .iconst (-1), 0, (-1), 0, [], []), (17, .invokevirtual 93, 0, 0, 0, [126, 1, 1, 7, 5, 24], []), (20, .ireturn, 0, 0, 0, [], []), (21, .aload_n 0, 0, 0, 0, [], []), (22, .iconst 0, 0, 0, 0, [], []), (23, .putfield 244, 0, 0, 0, [7, 29, 0, 4, 159], []), (26, .aload_n 0, 0, 0, 0, [], []), (27, .iload_n 1, 0, 0, 0, [], []), (28, .invokevirtual 270, 0, 0, 0, [187, 1, 0, 7, 5, 223], []), (31, .aload_n 0, 0, 0, 0, [], []), (32, .aload_n 0, 0, 0, 0, [], []), (33, .aload_n 0, 0, 0, 0, [], []), (34, .iload_n 2, 0, 0, 0, [], []), (35, .iload_n 3, 0, 0, 0, [], []), (36, .invokevirtual 252, 0, 0, 0, [179, 2, 1, 7, 5, 231], []), (39, .invokevirtual 274, 0, 0, 0, [188, 1, 1, 7, 6, 30], []), (42, .putfield 277, 0, 0, 0, [7, 30, 0, 4, 160], []), (45, .aload_n 0, 0, 0, 0, [], []), (46, .aload_n 0, 0, 0, 0, [], []), (47, .getfield 244, 0, 0, 0, [7, 29, 4, 159], []), (50, .putfield 280, 0, 0, 0, [7, 31, 0, 4, 161], []), (53, .aload_n 0, 0, 0, 0, [], []), (54, .getfield 221, 0, 0, 0, [7, 28, 4, 158], []), (57, .ireturn, 0, 0, 0, [], [])]
def zT_M_given : zT := [(0, .aload_n 0, 0, 0, 0, [], []), (1, .getfield 277, 0, 0, 0, [7, 30, 4, 160], []), (4, .ireturn, 0, 0, 0, [], [])]
def zT_M_tries : zT := [(0, .aload_n 0, 0, 0, 0, [], []), (1, .iload_n 1, 0, 0, 0, [], []), (2, .invokevirtual 270, 0, 0, 0, [187, 1, 0, 7, 5, 223], []), (5, .aload_n 0, 0, 0, 0, [], []), (6, .iload_n 2, 0, 0, 0, [], []), (7, .iload_n 3, 0, 0, 0, [], []), (8, .invokevirtual 252, 0, 0, 0, [179, 2, 1, 7, 5, 231], []), (11, .istore 4, 0, 0, 0, [], []), (13, .aload_n 0, 0, 0, 0, [], []), (14, .aload_n 0, 0, 0, 0, [], []), (15, .getfield 83, 0, 0, 0, [7, 41, 4, 171], []), (18, .invokevirtual 267, 0, 0, 0, [210, 1, 0, 7, 6, 34], []), (21, .iload 4, 0, 0, 0, [], []), (23, .ireturn, 0, 0, 0, [], [])]
def zT_M_trial : zT := [(0, .aload_n 0, 0, 0, 0, [], []), (1, .iload_n 1, 0, 0, 0, [], []), (2, .invokevirtual 111, 0, 0, 0, [129, 1, 3, 7, 5, 52], []), (5, .ifCond .eq 10, 0, 0, 0, [7], []), (8, .iload_n 2, 0, 0, 0, [], []), (9, .invokestatic 198, 0, 0, 0, [130, 1, 3, 0, 5, 161], []), (12, .ifCond .ne 9, 0, 0, 0, [11], []), (15, .aload_n 0, 0, 0, 0, [], []), (16, .iconst (-1), 0, (-1), 0, [], []), (17, .invokevirtual 93, 0, 0, 0, [126, 1, 1, 7, 5, 24], []), (20, .ireturn, 0, 0, 0, [], []), (21, .iload 4, 0, 0, 0, [], []), (23, .iconst 0, 0, 0, 0, [], []), (24, .iconst 1, 0, 1, 0, [], []), (25, .invokestatic 100, 0, 0, 0, [128, 3, 3, 0, 5, 21], []), (28, .ifCond .ne 10, 0, 0, 0, [20], []), (31, .aload_n 0, 0, 0, 0, [], []), (32, .bipush (-5), 0, (-5), 0, [], []), (34, .invokevirtual 93, 0, 0, 0, [126, 1, 1, 7, 5, 24], []), (37, .ireturn, 0, 0, 0, [], []), (38, .aload_n 0, 0, 0, 0, [], []), (39, .iconst 0, 0, 0, 0, [], []), (40, .putfield 244, 0, 0, 0, [7, 29, 0, 4, 159], []), (43, .aload_n 0, 0, 0, 0, [], []), (44, .iload_n 1, 0, 0, 0, [], []), (45, .iload_n 2, 0, 0, 0, [], []), (46, .iload_n 3, 0, 0, 0, [], []), (47, .invokevirtual 283, 0, 0, 0, [191, 3, 1, 7, 6, 46], []), (50, .pop, 0, 0, 0, [], []), (51, .iload 4, 0, 0, 0, [], []), (53, .ifCond .ne 10, 0, 0, 0, [34], []), (56, .aload_n 0, 0, 0, 0, [], []), (57, .getfield 221, 0, 0, 0, [7, 28, 4, 158], []), (60, .goto 7, 0, 0, 0, [36], []), (63, .aload_n 0, 0, 0, 0, [], []), (64, .getfield 244, 0, 0, 0, [7, 29, 4, 159], []), (67, .ireturn, 0, 0, 0, [], [])]
def zT_M_isGeneric : zT := [(0, .iload_n 0, 0, 0, 0, [], []), (1, .iconst 0, 0, 0, 0, [], []), (2, .bipush 7, 0, 7, 0, [], []), (4, .invokestatic 100, 0, 0, 0, [128, 3, 3, 0, 5, 21], []), (7, .ireturn, 0, 0, 0, [], [])]
def zT_M_way2 : zT := [(0, .iload_n 1, 0, 0, 0, [], []), (1, .invokestatic 286, 0, 0, 0, [193, 1, 3, 0, 6, 54], []), (4, .ifCond .eq 19, 0, 0, 0, [11], []), (7, .aload_n 0, 0, 0, 0, [], []), (8, .iload_n 2, 0, 0, 0, [], []), (9, .invokevirtual 111, 0, 0, 0, [129, 1, 3, 7, 5, 52], []), (12, .ifCond .eq 11, 0, 0, 0, [11], []), (15, .aload_n 0, 0, 0, 0, [], []), (16, .iload_n 3, 0, 0, 0, [], []), (17, .invokevirtual 111, 0, 0, 0, [129, 1, 3, 7, 5, 52], []), (20, .ifCond .ne 9, 0, 0, 0, [15], []), (23, .aload_n 0, 0, 0, 0, [], []), (24, .iconst (-1), 0, (-1), 0, [], []), (25, .invokevirtual 93, 0, 0, 0, [126, 1, 1, 7, 5, 24], []), (28, .ireturn, 0, 0, 0, [], []), (29, .iload 4, 0, 0, 0, [], []), (31, .iconst 0, 0, 0, 0, [], []), (32, .iconst 3, 0, 3, 0, [], []), (33, .invokestatic 100, 0, 0, 0, [128, 3, 3, 0, 5, 21], []), (36, .ifCond .eq 26, 0, 0, 0, [30], []), (39, .iload 5, 0, 0, 0, [], []), (41, .iconst 0, 0, 0, 0, [], []), (42, .bipush 9, 0, 9, 0, [], []), (44, .invokestatic 100, 0, 0, 0, [128, 3, 3, 0, 5, 21], []), (47, .ifCond .eq 15, 0, 0, 0, [30], []), (50, .iload 6, 0, 0, 0, [], []), (52, .bipush (-99), 0, (-99), 0, [], []), (54, .bipush 99, 0, 99, 0, [], []), (56, .invokestatic 100, 0, 0, 0, [128, 3, 3, 0, 5, 21], []), (59, .ifCond .ne 10, 0, 0, 0, [34], []), (62, .aload_n 0, 0, 0, 0, [], []), (63, .bipush (-6), 0, (-6), 0, [], []), (65, .invokevirtual 93, 0, 0, 0, [126, 1, 1, 7, 5, 24], []), (68, .ireturn, 0, 0, 0, [], []), (69, .aload_n 0, 0, 0, 0, [], []), (70, .getfield 289, 0, 0, 0, [7, 10, 4, 140], []), (73, .bipush 32, 0, 32, 0, [], []), (75, .if_icmp .ne 10, 0, 0, 0, [42], []), (78, .aload_n 0, 0, 0, 0, [], []), (79, .bipush (-7), 0, (-7), 0, [], []), (81, .invokevirtual 93, 0, 0, 0, [126, 1, 1, 7, 5, 24], []), (84, .ireturn, 0, 0, 0, [], []), (85, .aload_n 0, 0, 0, 0, [], []), (86, .getfield 37, 0, 0, 0, [7, 11, 4, 141], []), (89, .aload_n 0, 0, 0, 0, [], []), (90, .getfield 289, 0, 0, 0, [7, 10, 4, 140], []), (93, .iload_n 1, 0, 0, 0, [], []), (94, .iastore, 0, 0, 0, [], []), (95, .aload_n 0, 0, 0, 0, [], []), (96, .getfield 37, 0, 0, 0, [7, 11, 4, 141], []), (99, .bipush 32, 0, 32, 0, [], []), (101, .aload_n 0, 0, 0, 0, [], []), (102, .getfield 289, 0, 0, 0, [7, 10, 4, 140], []), (105, .iadd, 0, 0, 0, [], []), (106, .iload_n 2, 0, 0, 0, [], []), (107, .iastore, 0, 0, 0, [], []), (108, .aload_n 0, 0, 0, 0, [], []), (109, .getfield 37, 0, 0, 0, [7, 11, 4, 141], []), (112, .bipush 64, 0, 64, 0, [], []), (114, .aload_n 0, 0, 0, 0, [], []), (115, .getfield 289, 0, 0, 0, [7, 10, 4, 140], []), (118, .iadd, 0, 0, 0, [], []), (119, .iload_n 3, 0, 0, 0, [], []), (120, .iastore, 0, 0, 0, [], []), (121, .aload_n 0, 0, 0, 0, [], []), (122, .getfield 37, 0, 0, 0, [7, 11, 4, 141], []), (125, .bipush 96, 0, 96, 0, [], []), (127, .aload_n 0, 0, 0, 0, [], []), (128, .getfield 289, 0, 0, 0, [7, 10, 4, 140], []), (131, .iadd, 0, 0, 0, [], []), (132, .iload 4, 0, 0, 0, [], []), (134, .iastore, 0, 0, 0, [], []), (135, .aload_n 0, 0, 0, 0, [], []), (136, .getfield 37, 0, 0, 0, [7, 11, 4, 141], []), (139, .sipush 128, 0, 128, 0, [], []), (142, .aload_n 0, 0, 0, 0, [], []), (143, .getfield 289, 0, 0, 0, [7, 10, 4, 140], []), (146, .iadd, 0, 0, 0, [], []), (147, .iload 5, 0, 0, 0, [], []), (149, .iastore, 0, 0, 0, [], []), (150, .aload_n 0, 0, 0, 0, [], []), (151, .getfield 37, 0, 0, 0, [7, 11, 4, 141], []), (154, .sipush 160, 0, 160, 0, [], []), (157, .aload_n 0, 0, 0, 0, [], []), (158, .getfield 289, 0, 0, 0, [7, 10, 4, 140], []), (161, .iadd, 0, 0, 0, [], []), (162, .iload 6, 0, 0, 0, [], []), (164, .iastore, 0, 0, 0, [], []), (165, .aload_n 0, 0, 0, 0, [], []), (166, .dup, 0, 0, 0, [], []), (167, .getfield 289, 0, 0, 0, [7, 10, 4, 140], []), (170, .dup_x1, 0, 0, 0, [], []), (171, .iconst 1, 0, 1, 0, [], []), (172, .iadd, 0, 0, 0, [], []), (173, .putfield 289, 0, 0, 0, [7, 10, 0, 4, 140], []), (176, .ireturn, 0, 0, 0, [], [])]
def zT_M_wayOf : zT := [(0, .iload_n 1, 0, 0, 0, [], []), (1, .iconst 0, 0, 0, 0, [], []), (2, .aload_n 0, 0, 0, 0, [], []), (3, .getfield 289, 0, 0, 0, [7, 10, 4, 140], []), (6, .iconst 1, 0, 1, 0, [], []), (7, .isub, 0, 0, 0, [], []), (8, .invokestatic 100, 0, 0, 0, [128, 3, 3, 0, 5, 21], []), (11, .ifCond .eq 12, 0, 0, 0, [13], []), (14, .iload_n 2, 0, 0, 0, [], []), (15, .iconst 0, 0, 0, 0, [], []), (16, .iconst 5, 0, 5, 0, [], []), (17, .invokestatic 100, 0, 0, 0, [128, 3, 3, 0, 5, 21], []), (20, .ifCond .ne 10, 0, 0, 0, [17], []), (23, .aload_n 0, 0, 0, 0, [], []), (24, .bipush (-5), 0, (-5), 0, [], []), (26, .invokevirtual 93, 0, 0, 0, [126, 1, 1, 7, 5, 24], []), (29, .ireturn, 0, 0, 0, [], []), (30, .aload_n 0, 0, 0, 0, [], []), (31, .iload_n 2, 0, 0, 0, [], []), (32, .iload_n 1, 0, 0, 0, [], []), (33, .invokevirtual 261, 0, 0, 0, [184, 2, 1, 7, 6, 15], []), (36, .iload_n 2, 0, 0, 0, [], []), (37, .iconst 5, 0, 5, 0, [], []), (38, .if_icmp .ne 8, 0, 0, 0, [26], []), (41, .bipush 100, 0, 100, 0, [], []), (43, .goto 4, 0, 0, 0, [27], []), (46, .iconst 0, 0, 0, 0, [], []), (47, .iadd, 0, 0, 0, [], []), (48, .ireturn, 0, 0, 0, [], [])]
def zT_M_far : zT := [(0, .aload_n 0, 0, 0, 0, [], []), (1, .iload_n 2, 0, 0, 0, [], []), (2, .aload_n 0, 0, 0, 0, [], []), (3, .iconst 1, 0, 1, 0, [], []), (4, .iload_n 1, 0, 0, 0, [], []), (5, .invokevirtual 261, 0, 0, 0, [184, 2, 1, 7, 6, 15], []), (8, .invokevirtual 208, 0, 0, 0, [167, 2, 1, 7, 5, 191], []), (11, .aload_n 0, 0, 0, 0, [], []), (12, .iload_n 3, 0, 0, 0, [], []), (13, .aload_n 0, 0, 0, 0, [], []), (14, .iconst 2, 0, 2, 0, [], []), (15, .iload_n 1, 0, 0, 0, [], []), (16, .invokevirtual 261, 0, 0, 0, [184, 2, 1, 7, 6, 15], []), (19, .invokevirtual 208, 0, 0, 0, [167, 2, 1, 7, 5, 191], []), (22, .iadd, 0, 0, 0, [], []), (23, .ireturn, 0, 0, 0, [], [])]
def zT_M_isAhead : zT := [(0, .aload_n 0, 0, 0, 0, [], []), (1, .iload_n 1, 0, 0, 0, [], []), (2, .iload_n 3, 0, 0, 0, [], []), (3, .iload 4, 0, 0, 0, [], []), (5, .invokevirtual 292, 0, 0, 0, [196, 3, 1, 7, 6, 73], []), (8, .aload_n 0, 0, 0, 0, [], []), (9, .iload_n 2, 0, 0, 0, [], []), (10, .iload_n 3, 0, 0, 0, [], []), (11, .iload 4, 0, 0, 0, [], []), (13, .invokevirtual 292, 0, 0, 0, [196, 3, 1, 7, 6, 73], []), (16, .if_icmp .eq 28, 0, 0, 0, [26], []), (19, .aload_n 0, 0, 0, 0, [], []), (20, .iload_n 1, 0, 0, 0, [], []), (21, .iload_n 3, 0, 0, 0, [], []), (22, .iload 4, 0, 0, 0, [], []), (24, .invokevirtual 292, 0, 0, 0, [196, 3, 1, 7, 6, 73], []), (27, .aload_n 0, 0, 0, 0, [], []), (28, .iload_n 2, 0, 0, 0, [], []), (29, .iload_n 3, 0, 0, 0, [], []), (30, .iload 4, 0, 0, 0, [], []), (32, .invokevirtual 292, 0, 0, 0, [196, 3, 1, 7, 6, 73], []), (35, .if_icmp .ge 7, 0, 0, 0, [24], []), (38, .iconst 1, 0, 1, 0, [], []), (39, .goto 4, 0, 0, 0, [25], []), (42, .iconst 0, 0, 0, 0, [], []), (43, .ireturn, 0, 0, 0, [], []), (44, .aload_n 0, 0, 0, 0, [], []), (45, .iload_n 3, 0, 0, 0, [], []), (46, .aload_n 0, 0, 0, 0, [], []), (47, .iconst 1, 0, 1, 0, [], []), (48, .iload_n 1, 0, 0, 0, [], []), (49, .invokevirtual 261, 0, 0, 0, [184, 2, 1, 7, 6, 15], []), (52, .invokevirtual 208, 0, 0, 0, [167, 2, 1, 7, 5, 191], []), (55, .aload_n 0, 0, 0, 0, [], []), (56, .iload_n 3, 0, 0, 0, [], []), (57, .aload_n 0, 0, 0, 0, [], []), (58, .iconst 1, 0, 1, 0, [], []), (59, .iload_n 2, 0, 0, 0, [], []), (60, .invokevirtual 261, 0, 0, 0, [184, 2, 1, 7, 6, 15], []), (63, .invokevirtual 208, 0, 0, 0, [167, 2, 1, 7, 5, 191], []), (66, .if_icmp .eq 34, 0, 0, 0, [60], []), (69, .aload_n 0, 0, 0, 0, [], []), (70, .iload_n 3, 0, 0, 0, [], []), (71, .aload_n 0, 0, 0, 0, [], []), (72, .iconst 1, 0, 1, 0, [], []), (73, .iload_n 1, 0, 0, 0, [], []), (74, .invokevirtual 261, 0, 0, 0, [184, 2, 1, 7, 6, 15], []), (77, .invokevirtual 208, 0, 0, 0, [167, 2, 1, 7, 5, 191], []), (80, .aload_n 0, 0, 0, 0, [], []), (81, .iload_n 3, 0, 0, 0, [], []), (82, .aload_n 0, 0, 0, 0, [], []), (83, .iconst 1, 0, 1, 0, [], []), (84, .iload_n 2, 0, 0, 0, [], []), (85, .invokevirtual 261, 0, 0, 0, [184, 2, 1, 7, 6, 15], []), (88, .invokevirtual 208, 0, 0, 0, [167, 2, 1, 7, 5, 191], []), (91, .if_icmp .ge 7, 0, 0, 0, [58], []), (94, .iconst 1, 0, 1, 0, [], []), (95, .goto 4, 0, 0, 0, [59], []), (98, .iconst 0, 0, 0, 0, [], []), (99, .ireturn, 0, 0, 0, [], []), (100, .iload_n 1, 0, 0, 0, [], []), (101, .iload_n 2, 0, 0, 0, [], []), (102, .if_icmp .le 7, 0, 0, 0, [65], []), (105, .iconst 1, 0, 1, 0, [], []), (106, .goto 4, 0, 0, 0, [66], []), (109, .iconst 0, 0, 0, 0, [], []), (110, .ireturn, 0, 0, 0, [], [])]
def zT_M_stands : zT := [(0, .iconst 0, 0, 0, 0, [], []), (1, .istore 4, 0, 0, 0, [], []), (3, .iload 4, 3, 0, 0, [], [5, 6]), (5, .iconst 4, 0, 4, 0, [], []), (6, .if_icmp .ge 17, 0, 0, 0, [12], []), (9, .aload_n 0, 0, 0, 0, [], []), (10, .getfield 77, 0, 0, 0, [7, 37, 4, 167], []), (13, .iload 4, 0, 0, 0, [], []), (15, .iconst 0, 0, 0, 0, [], []), (16, .iastore, 0, 0, 0, [], []), (17, .iinc 4 1, 0, 1, 0, [], []), (20, .goto (-17), 0, 0, 0, [2], []), (23, .iconst 0, 0, 0, 0, [], []), (24, .istore 4, 0, 0, 0, [], []), (26, .iload 4, 15, 0, 0, [], [5, 6]), (28, .aload_n 0, 0, 0, 0, [], []), (29, .getfield 289, 0, 0, 0, [7, 10, 4, 140], []), (32, .if_icmp .ge 164, 0, 0, 0, [110], []), (35, .aload_n 0, 0, 0, 0, [], []), (36, .iconst 0, 0, 0, 0, [], []), (37, .iload 4, 0, 0, 0, [], []), (39, .invokevirtual 261, 0, 0, 0, [184, 2, 1, 7, 6, 15], []), (42, .iload_n 1, 0, 0, 0, [], []), (43, .if_icmp .ne 147, 0, 0, 0, [108], []), (46, .aload_n 0, 0, 0, 0, [], []), (47, .iload_n 2, 0, 0, 0, [], []), (48, .aload_n 0, 0, 0, 0, [], []), (49, .iconst 1, 0, 1, 0, [], []), (50, .iload 4, 0, 0, 0, [], []), (52, .invokevirtual 261, 0, 0, 0, [184, 2, 1, 7, 6, 15], []), (55, .invokevirtual 208, 0, 0, 0, [167, 2, 1, 7, 5, 191], []), (58, .iconst (-1), 0, (-1), 0, [], []), (59, .if_icmp .eq 131, 0, 0, 0, [108], []), (62, .aload_n 0, 0, 0, 0, [], []), (63, .iload_n 3, 0, 0, 0, [], []), (64, .aload_n 0, 0, 0, 0, [], []), (65, .iconst 2, 0, 2, 0, [], []), (66, .iload 4, 0, 0, 0, [], []), (68, .invokevirtual 261, 0, 0, 0, [184, 2, 1, 7, 6, 15], []), (71, .invokevirtual 208, 0, 0, 0, [167, 2, 1, 7, 5, 191], []), (74, .iconst (-1), 0, (-1), 0, [], []), (75, .if_icmp .ne 6, 0, 0, 0, [43], []), (78, .goto 112, 0, 0, 0, [108], []), (81, .aload_n 0, 0, 0, 0, [], []), (82, .iconst 3, 0, 3, 0, [], []), (83, .iload 4, 0, 0, 0, [], []), (85, .invokevirtual 261, 0, 0, 0, [184, 2, 1, 7, 6, 15], []), (88, .istore 5, 0, 0, 0, [], []), (90, .aload_n 0, 0, 0, 0, [], []), (91, .getfield 77, 0, 0, 0, [7, 37, 4, 167], []), (94, .iload 5, 0, 0, 0, [], []), (96, .iaload, 0, 0, 0, [], []), (97, .istore 6, 0, 0, 0, [], []), (99, .iload 6, 54, 0, 0, [], []), (101, .ifCond .le 63, 0, 0, 0, [91], []), (104, .aload_n 0, 0, 0, 0, [], []), (105, .iload 4, 0, 0, 0, [], []), (107, .aload_n 0, 0, 0, 0, [], []), (108, .getfield 74, 0, 0, 0, [7, 36, 4, 166], []), (111, .bipush 32, 0, 32, 0, [], []), (113, .iload 5, 0, 0, 0, [], []), (115, .imul, 0, 0, 0, [], []), (116, .iload 6, 0, 0, 0, [], []), (118, .iadd, 0, 0, 0, [], []), (119, .iconst 1, 0, 1, 0, [], []), (120, .isub, 0, 0, 0, [], []), (121, .iaload, 0, 0, 0, [], []), (122, .iload_n 2, 0, 0, 0, [], []), (123, .iload_n 3, 0, 0, 0, [], []), (124, .invokevirtual 295, 0, 0, 0, [197, 4, 3, 7, 6, 69], []), (127, .ifCond .eq 37, 0, 0, 0, [91], []), (130, .aload_n 0, 0, 0, 0, [], []), (131, .getfield 74, 0, 0, 0, [7, 36, 4, 166], []), (134, .bipush 32, 0, 32, 0, [], []), (136, .iload 5, 0, 0, 0, [], []), (138, .imul, 0, 0, 0, [], []), (139, .iload 6, 0, 0, 0, [], []), (141, .iadd, 0, 0, 0, [], []), (142, .aload_n 0, 0, 0, 0, [], []), (143, .getfield 74, 0, 0, 0, [7, 36, 4, 166], []), (146, .bipush 32, 0, 32, 0, [], []), (148, .iload 5, 0, 0, 0, [], []), (150, .imul, 0, 0, 0, [], []), (151, .iload 6, 0, 0, 0, [], []), (153, .iadd, 0, 0, 0, [], []), (154, .iconst 1, 0, 1, 0, [], []), (155, .isub, 0, 0, 0, [], []), (156, .iaload, 0, 0, 0, [], []), (157, .iastore, 0, 0, 0, [], []), (158, .iinc 6 (-1), 0, (-1), 0, [], []), (161, .goto (-62), 0, 0, 0, [53], []), (164, .aload_n 0, 0, 0, 0, [], []), (165, .getfield 74, 0, 0, 0, [7, 36, 4, 166], []), (168, .bipush 32, 0, 32, 0, [], []), (170, .iload 5, 0, 0, 0, [], []), (172, .imul, 0, 0, 0, [], []), (173, .iload 6, 0, 0, 0, [], []), (175, .iadd, 0, 0, 0, [], []), (176, .iload 4, 0, 0, 0, [], []), (178, .iastore, 0, 0, 0, [], []), (179, .aload_n 0, 0, 0, 0, [], []), (180, .getfield 77, 0, 0, 0, [7, 37, 4, 167], []), (183, .iload 5, 0, 0, 0, [], []), (185, .dup2, 0, 0, 0, [], []), (186, .iaload, 0, 0, 0, [], []), (187, .iconst 1, 0, 1, 0, [], []), (188, .iadd, 0, 0, 0, [], []), (189, .iastore, 0, 0, 0, [], []), (190, .iinc 4 1, 0, 1, 0, [], []), (193, .goto (-167), 0, 0, 0, [14], []), (196, .return_, 0, 0, 0, [], [])]
def zT_M_applies : zT := [(0, .iload_n 1, 0, 0, 0, [], []), (1, .invokestatic 286, 0, 0, 0, [193, 1, 3, 0, 6, 54], []), (4, .ifCond .eq 19, 0, 0, 0, [11], []), (7, .aload_n 0, 0, 0, 0, [], []), (8, .iload_n 2, 0, 0, 0, [], []), (9, .invokevirtual 111, 0, 0, 0, [129, 1, 3, 7, 5, 52], []), (12, .ifCond .eq 11, 0, 0, 0, [11], []), (15, .aload_n 0, 0, 0, 0, [], []), (16, .iload_n 3, 0, 0, 0, [], []), (17, .invokevirtual 111, 0, 0, 0, [129, 1, 3, 7, 5, 52], []), (20, .ifCond .ne 9, 0, 0, 0, [15], []), (23, .aload_n 0, 0, 0, 0, [], []), (24, .iconst (-1), 0, (-1), 0, [], []), (25, .invokevirtual 151, 0, 0, 0, [127, 1, 1, 7, 5, 105], []), (28, .ireturn, 0, 0, 0, [], []), (29, .iload 4, 0, 0, 0, [], []), (31, .iconst 0, 0, 0, 0, [], []), (32, .iconst 3, 0, 3, 0, [], []), (33, .invokestatic 100, 0, 0, 0, [128, 3, 3, 0, 5, 21], []), (36, .ifCond .ne 10, 0, 0, 0, [24], []), (39, .aload_n 0, 0, 0, 0, [], []), (40, .bipush (-6), 0, (-6), 0, [], []), (42, .invokevirtual 151, 0, 0, 0, [127, 1, 1, 7, 5, 105], []), (45, .ireturn, 0, 0, 0, [], []), (46, .aload_n 0, 0, 0, 0, [], []), (47, .iload_n 1, 0, 0, 0, [], []), (48, .iload_n 2, 0, 0, 0, [], []), (49, .iload_n 3, 0, 0, 0, [], []), (50, .invokevirtual 299, 0, 0, 0, [198, 3, 0, 7, 6, 65], []), (53, .iload 5, 0, 0, 0, [], []), (55, .iconst (-1), 0, (-1), 0, [], []), (56, .if_icmp .ne 13, 0, 0, 0, [37], []), (59, .aload_n 0, 0, 0, 0, [], []), (60, .getfield 77, 0, 0, 0, [7, 37, 4, 167], []), (63, .iload 4, 0, 0, 0, [], []), (65, .iaload, 0, 0, 0, [], []), (66, .goto 38, 0, 0, 0, [57], []), (69, .iload 5, 0, 0, 0, [], []), (71, .iconst 0, 0, 0, 0, [], []), (72, .aload_n 0, 0, 0, 0, [], []), (73, .getfield 77, 0, 0, 0, [7, 37, 4, 167], []), (76, .iload 4, 0, 0, 0, [], []), (78, .iaload, 0, 0, 0, [], []), (79, .iconst 1, 0, 1, 0, [], []), (80, .isub, 0, 0, 0, [], []), (81, .invokestatic 100, 0, 0, 0, [128, 3, 3, 0, 5, 21], []), (84, .ifCond .eq 19, 0, 0, 0, [56], []), (87, .aload_n 0, 0, 0, 0, [], []), (88, .getfield 74, 0, 0, 0, [7, 36, 4, 166], []), (91, .bipush 32, 0, 32, 0, [], []), (93, .iload 4, 0, 0, 0, [], []), (95, .imul, 0, 0, 0, [], []), (96, .iload 5, 0, 0, 0, [], []), (98, .iadd, 0, 0, 0, [], []), (99, .iaload, 0, 0, 0, [], []), (100, .goto 4, 0, 0, 0, [57], []), (103, .iconst (-1), 0, (-1), 0, [], []), (104, .ireturn, 0, 0, 0, [], [])]
def zT_M_tie : zT := [(0, .iload_n 1, 0, 0, 0, [], []), (1, .invokestatic 286, 0, 0, 0, [193, 1, 3, 0, 6, 54], []), (4, .ifCond .eq 19, 0, 0, 0, [11], []), (7, .aload_n 0, 0, 0, 0, [], []), (8, .iload_n 2, 0, 0, 0, [], []), (9, .invokevirtual 111, 0, 0, 0, [129, 1, 3, 7, 5, 52], []), (12, .ifCond .eq 11, 0, 0, 0, [11], []), (15, .aload_n 0, 0, 0, 0, [], []), (16, .iload_n 3, 0, 0, 0, [], []), (17, .invokevirtual 111, 0, 0, 0, [129, 1, 3, 7, 5, 52], []), (20, .ifCond .ne 9, 0, 0, 0, [15], []), (23, .aload_n 0, 0, 0, 0, [], []), (24, .iconst (-1), 0, (-1), 0, [], []), (25, .invokevirtual 93, 0, 0, 0, [126, 1, 1, 7, 5, 24], []), (28, .ireturn, 0, 0, 0, [], []), (29, .aload_n 0, 0, 0, 0, [], []), (30, .iload_n 1, 0, 0, 0, [], []), (31, .iload_n 2, 0, 0, 0, [], []), (32, .iload_n 3, 0, 0, 0, [], []), (33, .invokevirtual 299, 0, 0, 0, [198, 3, 0, 7, 6, 65], []), (36, .aload_n 0, 0, 0, 0, [], []), (37, .getfield 77, 0, 0, 0, [7, 37, 4, 167], []), (40, .iconst 0, 0, 0, 0, [], []), (41, .iaload, 0, 0, 0, [], []), (42, .iconst 1, 0, 1, 0, [], []), (43, .if_icmp .le 34, 0, 0, 0, [45], []), (46, .aload_n 0, 0, 0, 0, [], []), (47, .aload_n 0, 0, 0, 0, [], []), (48, .getfield 74, 0, 0, 0, [7, 36, 4, 166], []), (51, .iconst 0, 0, 0, 0, [], []), (52, .iaload, 0, 0, 0, [], []), (53, .iload_n 2, 0, 0, 0, [], []), (54, .iload_n 3, 0, 0, 0, [], []), (55, .invokevirtual 292, 0, 0, 0, [196, 3, 1, 7, 6, 73], []), (58, .aload_n 0, 0, 0, 0, [], []), (59, .aload_n 0, 0, 0, 0, [], []), (60, .getfield 74, 0, 0, 0, [7, 36, 4, 166], []), (63, .iconst 1, 0, 1, 0, [], []), (64, .iaload, 0, 0, 0, [], []), (65, .iload_n 2, 0, 0, 0, [], []), (66, .iload_n 3, 0, 0, 0, [], []), (67, .invokevirtual 292, 0, 0, 0, [196, 3, 1, 7, 6, 73], []), (70, .if_icmp .ne 7, 0, 0, 0, [45], []), (73, .iconst 1, 0, 1, 0, [], []), (74, .goto 4, 0, 0, 0, [46], []), (77, .iconst 0, 0, 0, 0, [], []), (78, .ireturn, 0, 0, 0, [], [])]
def zT_M_call : zT := [(0, .iload_n 1, 0, 0, 0, [], []), (1, .invokestatic 286, 0, 0, 0, [193, 1, 3, 0, 6, 54], []), (4, .ifCond .eq 19, 0, 0, 0, [11], []), (7, .aload_n 0, 0, 0, 0, [], []), (8, .iload_n 2, 0, 0, 0, [], []), (9, .invokevirtual 111, 0, 0, 0, [129, 1, 3, 7, 5, 52], []), (12, .ifCond .eq 11, 0, 0, 0, [11], []), (15, .aload_n 0, 0, 0, 0, [], []), (16, .iload_n 3, 0, 0, 0, [], []), (17, .invokevirtual 111, 0, 0, 0, [129, 1, 3, 7, 5, 52], []), (20, .ifCond .ne 9, 0, 0, 0, [15], []), (23, .aload_n 0, 0, 0, 0, [], []), (24, .iconst (-1), 0, (-1), 0, [], []), (25, .invokevirtual 93, 0, 0, 0, [126, 1, 1, 7, 5, 24], []), (28, .ireturn, 0, 0, 0, [], []), (29, .aload_n 0, 0, 0, 0, [], []), (30, .iload_n 1, 0, 0, 0, [], []), (31, .iload_n 2, 0, 0, 0, [], []), (32, .iload_n 3, 0, 0, 0, [], []), (33, .invokevirtual 299, 0, 0, 0, [198, 3, 0, 7, 6, 65], []), (36, .aload_n 0, 0, 0, 0, [], []), (37, .iconst 0, 0, 0, 0, [], []), (38, .putfield 244, 0, 0, 0, [7, 29, 0, 4, 159], []), (41, .aload_n 0, 0, 0, 0, [], []), (42, .iload_n 2, 0, 0, 0, [], []), (43, .invokevirtual 270, 0, 0, 0, [187, 1, 0, 7, 5, 223], []), (46, .aload_n 0, 0, 0, 0, [], []), (47, .aload_n 0, 0, 0, 0, [], []), (48, .aload_n 0, 0, 0, 0, [], []), (49, .iconst 1, 0, 1, 0, [], []), (50, .iconst 0, 0, 0, 0, [], []), (51, .iconst (-1), 0, (-1), 0, [], []), (52, .iload 4, 0, 0, 0, [], []), (54, .invokevirtual 247, 0, 0, 0, [181, 4, 1, 7, 6, 7], []), (57, .invokevirtual 274, 0, 0, 0, [188, 1, 1, 7, 6, 30], []), (60, .putfield 277, 0, 0, 0, [7, 30, 0, 4, 160], []), (63, .aload_n 0, 0, 0, 0, [], []), (64, .aload_n 0, 0, 0, 0, [], []), (65, .getfield 244, 0, 0, 0, [7, 29, 4, 159], []), (68, .putfield 280, 0, 0, 0, [7, 31, 0, 4, 161], []), (71, .aload_n 0, 0, 0, 0, [], []), (72, .aload_n 0, 0, 0, 0, [], []), (73, .getfield 258, 0, 0, 0, [7, 33, 4, 163], []), (76, .putfield 302, 0, 0, 0, [7, 32, 0, 4, 162], []), (79, .iconst 0, 0, 0, 0, [], []), (80, .istore 5, 0, 0, 0, [], []), (82, .iload 5, 47, 0, 0, [], [1, 2, 3, 4]), (84, .bipush 30, 0, 30, 0, [], []), (86, .if_icmp .ge 32, 0, 0, 0, [63], []), (89, .iload 5, 0, 0, 0, [], []), (91, .aload_n 0, 0, 0, 0, [], []), (92, .getfield 258, 0, 0, 0, [7, 33, 4, 163], []), (95, .if_icmp .ge 23, 0, 0, 0, [63], []), (98, .aload_n 0, 0, 0, 0, [], []), (99, .getfield 71, 0, 0, 0, [7, 35, 4, 165], []), (102, .iload 5, 0, 0, 0, [], []), (104, .aload_n 0, 0, 0, 0, [], []), (105, .getfield 68, 0, 0, 0, [7, 34, 4, 164], []), (108, .iload 5, 0, 0, 0, [], []), (110, .iaload, 0, 0, 0, [], []), (111, .iastore, 0, 0, 0, [], []), (112, .iinc 5 1, 0, 1, 0, [], []), (115, .goto (-33), 0, 0, 0, [46], []), (118, .aload_n 0, 0, 0, 0, [], []), (119, .getfield 221, 0, 0, 0, [7, 28, 4, 158], []), (122, .ireturn, 0, 0, 0, [], [])]
def zT_M_trace : zT := [(0, .iload_n 1, 0, 0, 0, [], []), (1, .iconst 0, 0, 0, 0, [], []), (2, .bipush 30, 0, 30, 0, [], []), (4, .aload_n 0, 0, 0, 0, [], []), (5, .getfield 302, 0, 0, 0, [7, 32, 4, 162], []), (8, .invokestatic 305, 0, 0, 0, [217, 2, 1, 0, 6, 89], []), (11, .iconst 1, 0, 1, 0, [], []), (12, .isub, 0, 0, 0, [], []), (13, .invokestatic 100, 0, 0, 0, [128, 3, 3, 0, 5, 21], []), (16, .ifCond .eq 12, 0, 0, 0, [15], []), (19, .aload_n 0, 0, 0, 0, [], []), (20, .getfield 71, 0, 0, 0, [7, 35, 4, 165], []), (23, .iload_n 1, 0, 0, 0, [], []), (24, .iaload, 0, 0, 0, [], []), (25, .goto 4, 0, 0, 0, [16], []), (28, .iconst (-1), 0, (-1), 0, [], []), (29, .ireturn, 0, 0, 0, [], [])]
def zT_M_read2 : zT := [(0, .aload_n 0, 0, 0, 0, [], []), (1, .getfield 46, 0, 0, 0, [7, 15, 4, 145], []), (4, .sipush 160, 0, 160, 0, [], []), (7, .iload_n 1, 0, 0, 0, [], []), (8, .imul, 0, 0, 0, [], []), (9, .iload_n 2, 0, 0, 0, [], []), (10, .iadd, 0, 0, 0, [], []), (11, .laload, 0, 0, 0, [], []), (12, .l2i, 0, 0, 0, [], []), (13, .ireturn, 0, 0, 0, [], [])]
def zT_M_judge : zT := [(0, .aload_n 0, 0, 0, 0, [], []), (1, .iload_n 1, 0, 0, 0, [], []), (2, .invokevirtual 108, 0, 0, 0, [134, 1, 1, 7, 5, 32], []), (5, .istore 5, 0, 0, 0, [], []), (7, .iload 5, 0, 0, 0, [], []), (9, .iconst (-1), 0, (-1), 0, [], []), (10, .if_icmp .eq 18, 0, 0, 0, [14], []), (13, .aload_n 0, 0, 0, 0, [], []), (14, .iload_n 2, 0, 0, 0, [], []), (15, .invokevirtual 111, 0, 0, 0, [129, 1, 3, 7, 5, 52], []), (18, .ifCond .eq 10, 0, 0, 0, [14], []), (21, .iload_n 3, 0, 0, 0, [], []), (22, .invokestatic 198, 0, 0, 0, [130, 1, 3, 0, 5, 161], []), (25, .ifCond .ne 9, 0, 0, 0, [18], []), (28, .aload_n 0, 0, 0, 0, [], []), (29, .iconst (-1), 0, (-1), 0, [], []), (30, .invokevirtual 151, 0, 0, 0, [127, 1, 1, 7, 5, 105], []), (33, .ireturn, 0, 0, 0, [], []), (34, .iload 5, 0, 0, 0, [], []), (36, .ifCond .ge 10, 0, 0, 0, [24], []), (39, .aload_n 0, 0, 0, 0, [], []), (40, .iload 5, 0, 0, 0, [], []), (42, .invokevirtual 151, 0, 0, 0, [127, 1, 1, 7, 5, 105], []), (45, .ireturn, 0, 0, 0, [], []), (46, .iload 4, 0, 0, 0, [], []), (48, .ifCond .ge 10, 0, 0, 0, [30], []), (51, .aload_n 0, 0, 0, 0, [], []), (52, .bipush (-4), 0, (-4), 0, [], []), (54, .invokevirtual 151, 0, 0, 0, [127, 1, 1, 7, 5, 105], []), (57, .ireturn, 0, 0, 0, [], []), (58, .ldc2_w 310, 0, 0, 2, [6, 96], []), (61, .iload 4, 0, 0, 0, [], []), (63, .i2l, 0, 0, 0, [], []), (64, .lmul, 0, 0, 0, [], []), (65, .aload_n 0, 0, 0, 0, [], []), (66, .getfield 43, 0, 0, 0, [7, 14, 4, 144], []), (69, .iload_n 1, 0, 0, 0, [], []), (70, .iaload, 0, 0, 0, [], []), (71, .i2l, 0, 0, 0, [], []), (72, .lcmp, 0, 0, 0, [], []), (73, .ifCond .le 10, 0, 0, 0, [45], []), (76, .aload_n 0, 0, 0, 0, [], []), (77, .bipush (-5), 0, (-5), 0, [], []), (79, .invokevirtual 151, 0, 0, 0, [127, 1, 1, 7, 5, 105], []), (82, .ireturn, 0, 0, 0, [], []), (83, .aload_n 0, 0, 0, 0, [], []), (84, .iconst 0, 0, 0, 0, [], []), (85, .putfield 244, 0, 0, 0, [7, 29, 0, 4, 159], []), (88, .iconst 0, 0, 0, 0, [], []), (89, .istore 6, 0, 0, 0, [], []), (91, .iload 6, 51, 0, 0, [], [5]), (93, .iload 4, 0, 0, 0, [], []), (95, .if_icmp .ge 48, 0, 0, 0, [79], []), (98, .aload_n 0, 0, 0, 0, [], []), (99, .iload_n 2, 0, 0, 0, [], []), (100, .iload_n 3, 0, 0, 0, [], []), (101, .aload_n 0, 0, 0, 0, [], []), (102, .iload_n 1, 0, 0, 0, [], []), (103, .iconst 2, 0, 2, 0, [], []), (104, .iload 6, 0, 0, 0, [], []), (106, .imul, 0, 0, 0, [], []), (107, .invokevirtual 312, 0, 0, 0, [203, 2, 1, 7, 6, 97], []), (110, .invokevirtual 283, 0, 0, 0, [191, 3, 1, 7, 6, 46], []), (113, .aload_n 0, 0, 0, 0, [], []), (114, .iload_n 1, 0, 0, 0, [], []), (115, .iconst 2, 0, 2, 0, [], []), (116, .iload 6, 0, 0, 0, [], []), (118, .imul, 0, 0, 0, [], []), (119, .iconst 1, 0, 1, 0, [], []), (120, .iadd, 0, 0, 0, [], []), (121, .invokevirtual 312, 0, 0, 0, [203, 2, 1, 7, 6, 97], []), (124, .if_icmp .ne 10, 0, 0, 0, [75], []), (127, .aload_n 0, 0, 0, 0, [], []), (128, .getfield 221, 0, 0, 0, [7, 28, 4, 158], []), (131, .ifCond .eq 6, 0, 0, 0, [77], []), (134, .iload 6, 0, 0, 0, [], []), (136, .ireturn, 0, 0, 0, [], []), (137, .iinc 6 1, 0, 1, 0, [], []), (140, .goto (-49), 0, 0, 0, [50], []), (143, .iconst (-1), 0, (-1), 0, [], []), (144, .ireturn, 0, 0, 0, [], [])]
def zT_M_draw : zT := [(0, .aload_n 0, 0, 0, 0, [], []), (1, .aload_n 0, 0, 0, 0, [], []), (2, .getfield 86, 0, 0, 0, [7, 12, 4, 142], []), (5, .ldc_w 315, 0, 1103515245, 0, [6, 109], []), (8, .imul, 0, 0, 0, [], []), (9, .sipush 12345, 0, 12345, 0, [], []), (12, .iadd, 0, 0, 0, [], []), (13, .putfield 86, 0, 0, 0, [7, 12, 0, 4, 142], []), (16, .aload_n 0, 0, 0, 0, [], []), (17, .getfield 86, 0, 0, 0, [7, 12, 4, 142], []), (20, .bipush 16, 0, 16, 0, [], []), (22, .iushr, 0, 0, 0, [], []), (23, .iload_n 1, 0, 0, 0, [], []), (24, .irem, 0, 0, 0, [], []), (25, .ireturn, 0, 0, 0, [], [])]
def zT_M_allSlots : zT := [(0, .iconst 0, 0, 0, 0, [], []), (1, .istore_n 1, 0, 0, 0, [], []), (2, .iconst 0, 0, 0, 0, [], []), (3, .istore_n 2, 0, 0, 0, [], []), (4, .iload_n 2, 5, 0, 0, [], []), (5, .aload_n 0, 0, 0, 0, [], []), (6, .getfield 97, 0, 0, 0, [7, 0, 4, 130], []), (9, .if_icmp .ge 21, 0, 0, 0, [18], []), (12, .iload_n 1, 0, 0, 0, [], []), (13, .aload_n 0, 0, 0, 0, [], []), (14, .getfield 25, 0, 0, 0, [7, 6, 4, 136], []), (17, .iload_n 2, 0, 0, 0, [], []), (18, .iaload, 0, 0, 0, [], []), (19, .invokestatic 114, 0, 0, 0, [215, 1, 1, 0, 5, 64], []), (22, .iadd, 0, 0, 0, [], []), (23, .istore_n 1, 0, 0, 0, [], []), (24, .iinc 2 1, 0, 1, 0, [], []), (27, .goto (-23), 0, 0, 0, [4], []), (30, .iload_n 1, 0, 0, 0, [], []), (31, .ireturn, 0, 0, 0, [], [])]
def zT_M_days : zT := [(0, .aload_n 0, 0, 0, 0, [], []), (1, .getfield 97, 0, 0, 0, [7, 0, 4, 130], []), (4, .ifCond .ne 10, 0, 0, 0, [7], []), (7, .aload_n 0, 0, 0, 0, [], []), (8, .bipush (-5), 0, (-5), 0, [], []), (10, .invokevirtual 93, 0, 0, 0, [126, 1, 1, 7, 5, 24], []), (13, .ireturn, 0, 0, 0, [], []), (14, .iload_n 1, 0, 0, 0, [], []), (15, .iconst 1, 0, 1, 0, [], []), (16, .bipush 40, 0, 40, 0, [], []), (18, .invokestatic 100, 0, 0, 0, [128, 3, 3, 0, 5, 21], []), (21, .ifCond .ne 10, 0, 0, 0, [16], []), (24, .aload_n 0, 0, 0, 0, [], []), (25, .bipush (-6), 0, (-6), 0, [], []), (27, .invokevirtual 93, 0, 0, 0, [126, 1, 1, 7, 5, 24], []), (30, .ireturn, 0, 0, 0, [], []), (31, .aload_n 0, 0, 0, 0, [], []), (32, .iconst 0, 0, 0, 0, [], []), (33, .putfield 244, 0, 0, 0, [7, 29, 0, 4, 159], []), (36, .iconst 0, 0, 0, 0, [], []), (37, .istore_n 2, 0, 0, 0, [], []), (38, .iload_n 2, 22, 0, 0, [], [3, 4, 5]), (39, .iload_n 1, 0, 0, 0, [], []), (40, .if_icmp .ge 104, 0, 0, 0, [77], []), (43, .aload_n 0, 0, 0, 0, [], []), (44, .aload_n 0, 0, 0, 0, [], []), (45, .getfield 97, 0, 0, 0, [7, 0, 4, 130], []), (48, .invokevirtual 316, 0, 0, 0, [205, 1, 1, 7, 6, 105], []), (51, .istore_n 3, 0, 0, 0, [], []), (52, .aload_n 0, 0, 0, 0, [], []), (53, .bipush 16, 0, 16, 0, [], []), (55, .invokevirtual 316, 0, 0, 0, [205, 1, 1, 7, 6, 105], []), (58, .istore 4, 0, 0, 0, [], []), (60, .aload_n 0, 0, 0, 0, [], []), (61, .iconst 3, 0, 3, 0, [], []), (62, .invokevirtual 316, 0, 0, 0, [205, 1, 1, 7, 6, 105], []), (65, .istore 5, 0, 0, 0, [], []), (67, .iload 5, 0, 0, 0, [], []), (69, .iconst 1, 0, 1, 0, [], []), (70, .if_icmp .ne 28, 0, 0, 0, [53], []), (73, .aload_n 0, 0, 0, 0, [], []), (74, .iload_n 3, 0, 0, 0, [], []), (75, .invokevirtual 270, 0, 0, 0, [187, 1, 0, 7, 5, 223], []), (78, .aload_n 0, 0, 0, 0, [], []), (79, .aload_n 0, 0, 0, 0, [], []), (80, .iload 4, 0, 0, 0, [], []), (82, .aload_n 0, 0, 0, 0, [], []), (83, .bipush 100, 0, 100, 0, [], []), (85, .invokevirtual 316, 0, 0, 0, [205, 1, 1, 7, 6, 105], []), (88, .invokevirtual 252, 0, 0, 0, [179, 2, 1, 7, 5, 231], []), (91, .invokevirtual 274, 0, 0, 0, [188, 1, 1, 7, 6, 30], []), (94, .pop, 0, 0, 0, [], []), (95, .goto 43, 0, 0, 0, [75], []), (98, .aload_n 0, 0, 0, 0, [], []), (99, .getfield 7, 0, 0, 0, [7, 1, 4, 131], []), (102, .iload_n 3, 0, 0, 0, [], []), (103, .iaload, 0, 0, 0, [], []), (104, .iconst 3, 0, 3, 0, [], []), (105, .if_icmp .eq 33, 0, 0, 0, [75], []), (108, .iload 5, 0, 0, 0, [], []), (110, .ifCond .ne 21, 0, 0, 0, [71], []), (113, .aload_n 0, 0, 0, 0, [], []), (114, .iload_n 3, 0, 0, 0, [], []), (115, .iload 4, 0, 0, 0, [], []), (117, .iconst 0, 0, 0, 0, [], []), (118, .iconst 0, 0, 0, 0, [], []), (119, .aload_n 0, 0, 0, 0, [], []), (120, .bipush 100, 0, 100, 0, [], []), (122, .invokevirtual 316, 0, 0, 0, [205, 1, 1, 7, 6, 105], []), (125, .invokevirtual 185, 0, 0, 0, [162, 5, 0, 7, 5, 149], []), (128, .goto 10, 0, 0, 0, [75], []), (131, .aload_n 0, 0, 0, 0, [], []), (132, .iload_n 3, 0, 0, 0, [], []), (133, .iload 4, 0, 0, 0, [], []), (135, .invokevirtual 204, 0, 0, 0, [165, 2, 0, 7, 5, 175], []), (138, .iinc 2 1, 0, 1, 0, [], []), (141, .goto (-103), 0, 0, 0, [21], []), (144, .aload_n 0, 0, 0, 0, [], []), (145, .invokevirtual 319, 0, 0, 0, [206, 0, 1, 7, 6, 110], []), (148, .ireturn, 0, 0, 0, [], [])]
def zT_M_seed : zT := [(0, .aload_n 0, 0, 0, 0, [], []), (1, .getfield 86, 0, 0, 0, [7, 12, 4, 142], []), (4, .istore_n 2, 0, 0, 0, [], []), (5, .aload_n 0, 0, 0, 0, [], []), (6, .iload_n 1, 0, 0, 0, [], []), (7, .putfield 86, 0, 0, 0, [7, 12, 0, 4, 142], []), (10, .iload_n 2, 0, 0, 0, [], []), (11, .ireturn, 0, 0, 0, [], [])]
def zT_M_keepSlots : zT := [(0, .iconst 0, 0, 0, 0, [], []), (1, .istore_n 2, 0, 0, 0, [], []), (2, .iload_n 2, 3, 0, 0, [], []), (3, .bipush 16, 0, 16, 0, [], []), (5, .if_icmp .ge 30, 0, 0, 0, [23], []), (8, .aload_n 1, 0, 0, 0, [], []), (9, .iload_n 2, 0, 0, 0, [], []), (10, .aload_n 0, 0, 0, 0, [], []), (11, .getfield 25, 0, 0, 0, [7, 6, 4, 136], []), (14, .iload_n 2, 0, 0, 0, [], []), (15, .iaload, 0, 0, 0, [], []), (16, .iastore, 0, 0, 0, [], []), (17, .aload_n 1, 0, 0, 0, [], []), (18, .bipush 16, 0, 16, 0, [], []), (20, .iload_n 2, 0, 0, 0, [], []), (21, .iadd, 0, 0, 0, [], []), (22, .aload_n 0, 0, 0, 0, [], []), (23, .getfield 28, 0, 0, 0, [7, 7, 4, 137], []), (26, .iload_n 2, 0, 0, 0, [], []), (27, .iaload, 0, 0, 0, [], []), (28, .iastore, 0, 0, 0, [], []), (29, .iinc 2 1, 0, 1, 0, [], []), (32, .goto (-30), 0, 0, 0, [2], []), (35, .iconst 0, 0, 0, 0, [], []), (36, .istore_n 2, 0, 0, 0, [], []), (37, .iload_n 2, 26, 0, 0, [], []), (38, .sipush 256, 0, 256, 0, [], []), (41, .if_icmp .ge 34, 0, 0, 0, [48], []), (44, .aload_n 1, 0, 0, 0, [], []), (45, .bipush 32, 0, 32, 0, [], []), (47, .iload_n 2, 0, 0, 0, [], []), (48, .iadd, 0, 0, 0, [], []), (49, .aload_n 0, 0, 0, 0, [], []), (50, .getfield 31, 0, 0, 0, [7, 8, 4, 138], []), (53, .iload_n 2, 0, 0, 0, [], []), (54, .iaload, 0, 0, 0, [], []), (55, .iastore, 0, 0, 0, [], []), (56, .aload_n 1, 0, 0, 0, [], []), (57, .sipush 288, 0, 288, 0, [], []), (60, .iload_n 2, 0, 0, 0, [], []), (61, .iadd, 0, 0, 0, [], []), (62, .aload_n 0, 0, 0, 0, [], []), (63, .getfield 34, 0, 0, 0, [7, 9, 4, 139], []), (66, .iload_n 2, 0, 0, 0, [], []), (67, .iaload, 0, 0, 0, [], []), (68, .iastore, 0, 0, 0, [], []), (69, .iinc 2 1, 0, 1, 0, [], []), (72, .goto (-35), 0, 0, 0, [25], []), (75, .return_, 0, 0, 0, [], [])]
def zT_M_slotsAgain : zT := [(0, .iconst 0, 0, 0, 0, [], []), (1, .istore_n 2, 0, 0, 0, [], []), (2, .iload_n 2, 3, 0, 0, [], []), (3, .bipush 16, 0, 16, 0, [], []), (5, .if_icmp .ge 30, 0, 0, 0, [23], []), (8, .aload_n 0, 0, 0, 0, [], []), (9, .getfield 25, 0, 0, 0, [7, 6, 4, 136], []), (12, .iload_n 2, 0, 0, 0, [], []), (13, .aload_n 1, 0, 0, 0, [], []), (14, .iload_n 2, 0, 0, 0, [], []), (15, .iaload, 0, 0, 0, [], []), (16, .iastore, 0, 0, 0, [], []), (17, .aload_n 0, 0, 0, 0, [], []), (18, .getfield 28, 0, 0, 0, [7, 7, 4, 137], []), (21, .iload_n 2, 0, 0, 0, [], []), (22, .aload_n 1, 0, 0, 0, [], []), (23, .bipush 16, 0, 16, 0, [], []), (25, .iload_n 2, 0, 0, 0, [], []), (26, .iadd, 0, 0, 0, [], []), (27, .iaload, 0, 0, 0, [], []), (28, .iastore, 0, 0, 0, [], []), (29, .iinc 2 1, 0, 1, 0, [], []), (32, .goto (-30), 0, 0, 0, [2], []), (35, .iconst 0, 0, 0, 0, [], []), (36, .istore_n 2, 0, 0, 0, [], []), (37, .iload_n 2, 26, 0, 0, [], []), (38, .sipush 256, 0, 256, 0, [], []), (41, .if_icmp .ge 34, 0, 0, 0, [48], []), (44, .aload_n 0, 0, 0, 0, [], []), (45, .getfield 31, 0, 0, 0, [7, 8, 4, 138], []), (48, .iload_n 2, 0, 0, 0, [], []), (49, .aload_n 1, 0, 0, 0, [], []), (50, .bipush 32, 0, 32, 0, [], []), (52, .iload_n 2, 0, 0, 0, [], []), (53, .iadd, 0, 0, 0, [], []), (54, .iaload, 0, 0, 0, [], []), (55, .iastore, 0, 0, 0, [], []), (56, .aload_n 0, 0, 0, 0, [], []), (57, .getfield 34, 0, 0, 0, [7, 9, 4, 139], []), (60, .iload_n 2, 0, 0, 0, [], []), (61, .aload_n 1, 0, 0, 0, [], []), (62, .sipush 288, 0, 288, 0, [], []), (65, .iload_n 2, 0, 0, 0, [], []), (66, .iadd, 0, 0, 0, [], []), (67, .iaload, 0, 0, 0, [], []), (68, .iastore, 0, 0, 0, [], []), (69, .iinc 2 1, 0, 1, 0, [], []), (72, .goto (-35), 0, 0, 0, [25], []), (75, .return_, 0, 0, 0, [], [])]
def zT_M_image : zT := [(0, .aload_n 0, 0, 0, 0, [], []), (1, .iconst 1, 0, 1, 0, [], []), (2, .putfield 322, 0, 0, 0, [7, 39, 1, 4, 169], []), (5, .aload_n 0, 0, 0, 0, [], []), (6, .aload_n 0, 0, 0, 0, [], []), (7, .getfield 80, 0, 0, 0, [7, 40, 4, 170], []), (10, .invokevirtual 263, 0, 0, 0, [209, 1, 0, 7, 5, 227], []), (13, .iconst 0, 0, 0, 0, [], []), (14, .istore_n 1, 0, 0, 0, [], []), (15, .iload_n 1, 10, 0, 0, [], []), (16, .bipush 16, 0, 16, 0, [], []), (18, .if_icmp .ge 57, 0, 0, 0, [44], []), (21, .aload_n 0, 0, 0, 0, [], []), (22, .getfield 80, 0, 0, 0, [7, 40, 4, 170], []), (25, .sipush 544, 0, 544, 0, [], []), (28, .iload_n 1, 0, 0, 0, [], []), (29, .iadd, 0, 0, 0, [], []), (30, .aload_n 0, 0, 0, 0, [], []), (31, .getfield 7, 0, 0, 0, [7, 1, 4, 131], []), (34, .iload_n 1, 0, 0, 0, [], []), (35, .iaload, 0, 0, 0, [], []), (36, .iastore, 0, 0, 0, [], []), (37, .aload_n 0, 0, 0, 0, [], []), (38, .getfield 80, 0, 0, 0, [7, 40, 4, 170], []), (41, .sipush 560, 0, 560, 0, [], []), (44, .iload_n 1, 0, 0, 0, [], []), (45, .iadd, 0, 0, 0, [], []), (46, .aload_n 0, 0, 0, 0, [], []), (47, .getfield 13, 0, 0, 0, [7, 2, 4, 132], []), (50, .iload_n 1, 0, 0, 0, [], []), (51, .iaload, 0, 0, 0, [], []), (52, .iastore, 0, 0, 0, [], []), (53, .aload_n 0, 0, 0, 0, [], []), (54, .getfield 80, 0, 0, 0, [7, 40, 4, 170], []), (57, .sipush 576, 0, 576, 0, [], []), (60, .iload_n 1, 0, 0, 0, [], []), (61, .iadd, 0, 0, 0, [], []), (62, .aload_n 0, 0, 0, 0, [], []), (63, .getfield 19, 0, 0, 0, [7, 4, 4, 134], []), (66, .iload_n 1, 0, 0, 0, [], []), (67, .iaload, 0, 0, 0, [], []), (68, .iastore, 0, 0, 0, [], []), (69, .iinc 1 1, 0, 1, 0, [], []), (72, .goto (-57), 0, 0, 0, [9], []), (75, .iconst 0, 0, 0, 0, [], []), (76, .istore_n 1, 0, 0, 0, [], []), (77, .iload_n 1, 47, 0, 0, [], []), (78, .bipush 48, 0, 48, 0, [], []), (80, .if_icmp .ge 25, 0, 0, 0, [61], []), (83, .aload_n 0, 0, 0, 0, [], []), (84, .getfield 80, 0, 0, 0, [7, 40, 4, 170], []), (87, .sipush 592, 0, 592, 0, [], []), (90, .iload_n 1, 0, 0, 0, [], []), (91, .iadd, 0, 0, 0, [], []), (92, .aload_n 0, 0, 0, 0, [], []), (93, .getfield 16, 0, 0, 0, [7, 3, 4, 133], []), (96, .iload_n 1, 0, 0, 0, [], []), (97, .iaload, 0, 0, 0, [], []), (98, .iastore, 0, 0, 0, [], []), (99, .iinc 1 1, 0, 1, 0, [], []), (102, .goto (-25), 0, 0, 0, [46], []), (105, .iconst 0, 0, 0, 0, [], []), (106, .istore_n 1, 0, 0, 0, [], []), (107, .iload_n 1, 64, 0, 0, [], []), (108, .sipush 256, 0, 256, 0, [], []), (111, .if_icmp .ge 25, 0, 0, 0, [78], []), (114, .aload_n 0, 0, 0, 0, [], []), (115, .getfield 80, 0, 0, 0, [7, 40, 4, 170], []), (118, .sipush 640, 0, 640, 0, [], []), (121, .iload_n 1, 0, 0, 0, [], []), (122, .iadd, 0, 0, 0, [], []), (123, .aload_n 0, 0, 0, 0, [], []), (124, .getfield 22, 0, 0, 0, [7, 5, 4, 135], []), (127, .iload_n 1, 0, 0, 0, [], []), (128, .iaload, 0, 0, 0, [], []), (129, .iastore, 0, 0, 0, [], []), (130, .iinc 1 1, 0, 1, 0, [], []), (133, .goto (-26), 0, 0, 0, [63], []), (136, .iconst 0, 0, 0, 0, [], []), (137, .istore_n 1, 0, 0, 0, [], []), (138, .iload_n 1, 81, 0, 0, [], []), (139, .sipush 192, 0, 192, 0, [], []), (142, .if_icmp .ge 25, 0, 0, 0, [95], []), (145, .aload_n 0, 0, 0, 0, [], []), (146, .getfield 80, 0, 0, 0, [7, 40, 4, 170], []), (149, .sipush 896, 0, 896, 0, [], []), (152, .iload_n 1, 0, 0, 0, [], []), (153, .iadd, 0, 0, 0, [], []), (154, .aload_n 0, 0, 0, 0, [], []), (155, .getfield 37, 0, 0, 0, [7, 11, 4, 141], []), (158, .iload_n 1, 0, 0, 0, [], []), (159, .iaload, 0, 0, 0, [], []), (160, .iastore, 0, 0, 0, [], []), (161, .iinc 1 1, 0, 1, 0, [], []), (164, .goto (-26), 0, 0, 0, [80], []), (167, .aload_n 0, 0, 0, 0, [], []), (168, .getfield 80, 0, 0, 0, [7, 40, 4, 170], []), (171, .sipush 1088, 0, 1088, 0, [], []), (174, .aload_n 0, 0, 0, 0, [], []), (175, .getfield 97, 0, 0, 0, [7, 0, 4, 130], []), (178, .iastore, 0, 0, 0, [], []), (179, .aload_n 0, 0, 0, 0, [], []), (180, .getfield 80, 0, 0, 0, [7, 40, 4, 170], []), (183, .sipush 1089, 0, 1089, 0, [], []), (186, .aload_n 0, 0, 0, 0, [], []), (187, .getfield 289, 0, 0, 0, [7, 10, 4, 140], []), (190, .iastore, 0, 0, 0, [], []), (191, .aload_n 0, 0, 0, 0, [], []), (192, .getfield 80, 0, 0, 0, [7, 40, 4, 170], []), (195, .sipush 1090, 0, 1090, 0, [], []), (198, .aload_n 0, 0, 0, 0, [], []), (199, .getfield 86, 0, 0, 0, [7, 12, 4, 142], []), (202, .iastore, 0, 0, 0, [], []), (203, .aload_n 0, 0, 0, 0, [], []), (204, .getfield 97, 0, 0, 0, [7, 0, 4, 130], []), (207, .ireturn, 0, 0, 0, [], [])]
def zT_M_restore : zT := [(0, .aload_n 0, 0, 0, 0, [], []), (1, .getfield 322, 0, 0, 0, [7, 39, 4, 169], []), (4, .ifCond .ne 10, 0, 0, 0, [7], []), (7, .aload_n 0, 0, 0, 0, [], []), (8, .bipush (-6), 0, (-6), 0, [], []), (10, .invokevirtual 93, 0, 0, 0, [126, 1, 1, 7, 5, 24], []), (13, .ireturn, 0, 0, 0, [], []), (14, .aload_n 0, 0, 0, 0, [], []), (15, .aload_n 0, 0, 0, 0, [], []), (16, .getfield 80, 0, 0, 0, [7, 40, 4, 170], []), (19, .invokevirtual 267, 0, 0, 0, [210, 1, 0, 7, 6, 34], []), (22, .iconst 0, 0, 0, 0, [], []), (23, .istore_n 1, 0, 0, 0, [], []), (24, .iload_n 1, 14, 0, 0, [], []), (25, .bipush 16, 0, 16, 0, [], []), (27, .if_icmp .ge 57, 0, 0, 0, [48], []), (30, .aload_n 0, 0, 0, 0, [], []), (31, .getfield 7, 0, 0, 0, [7, 1, 4, 131], []), (34, .iload_n 1, 0, 0, 0, [], []), (35, .aload_n 0, 0, 0, 0, [], []), (36, .getfield 80, 0, 0, 0, [7, 40, 4, 170], []), (39, .sipush 544, 0, 544, 0, [], []), (42, .iload_n 1, 0, 0, 0, [], []), (43, .iadd, 0, 0, 0, [], []), (44, .iaload, 0, 0, 0, [], []), (45, .iastore, 0, 0, 0, [], []), (46, .aload_n 0, 0, 0, 0, [], []), (47, .getfield 13, 0, 0, 0, [7, 2, 4, 132], []), (50, .iload_n 1, 0, 0, 0, [], []), (51, .aload_n 0, 0, 0, 0, [], []), (52, .getfield 80, 0, 0, 0, [7, 40, 4, 170], []), (55, .sipush 560, 0, 560, 0, [], []), (58, .iload_n 1, 0, 0, 0, [], []), (59, .iadd, 0, 0, 0, [], []), (60, .iaload, 0, 0, 0, [], []), (61, .iastore, 0, 0, 0, [], []), (62, .aload_n 0, 0, 0, 0, [], []), (63, .getfield 19, 0, 0, 0, [7, 4, 4, 134], []), (66, .iload_n 1, 0, 0, 0, [], []), (67, .aload_n 0, 0, 0, 0, [], []), (68, .getfield 80, 0, 0, 0, [7, 40, 4, 170], []), (71, .sipush 576, 0, 576, 0, [], []), (74, .iload_n 1, 0, 0, 0, [], []), (75, .iadd, 0, 0, 0, [], []), (76, .iaload, 0, 0, 0, [], []), (77, .iastore, 0, 0, 0, [], []), (78, .iinc 1 1, 0, 1, 0, [], []), (81, .goto (-57), 0, 0, 0, [13], []), (84, .iconst 0, 0, 0, 0, [], []), (85, .istore_n 1, 0, 0, 0, [], []), (86, .iload_n 1, 51, 0, 0, [], []), (87, .bipush 48, 0, 48, 0, [], []), (89, .if_icmp .ge 25, 0, 0, 0, [65], []), (92, .aload_n 0, 0, 0, 0, [], []), (93, .getfield 16, 0, 0, 0, [7, 3, 4, 133], []), (96, .iload_n 1, 0, 0, 0, [], []), (97, .aload_n 0, 0, 0, 0, [], []), (98, .getfield 80, 0, 0, 0, [7, 40, 4, 170], []), (101, .sipush 592, 0, 592, 0, [], []), (104, .iload_n 1, 0, 0, 0, [], []), (105, .iadd, 0, 0, 0, [], []), (106, .iaload, 0, 0, 0, [], []), (107, .iastore, 0, 0, 0, [], []), (108, .iinc 1 1, 0, 1, 0, [], []), (111, .goto (-25), 0, 0, 0, [50], []), (114, .iconst 0, 0, 0, 0, [], []), (115, .istore_n 1, 0, 0, 0, [], []), (116, .iload_n 1, 68, 0, 0, [], []), (117, .sipush 256, 0, 256, 0, [], []), (120, .if_icmp .ge 25, 0, 0, 0, [82], []), (123, .aload_n 0, 0, 0, 0, [], []), (124, .getfield 22, 0, 0, 0, [7, 5, 4, 135], []), (127, .iload_n 1, 0, 0, 0, [], []), (128, .aload_n 0, 0, 0, 0, [], []), (129, .getfield 80, 0, 0, 0, [7, 40, 4, 170], []), (132, .sipush 640, 0, 640, 0, [], []), (135, .iload_n 1, 0, 0, 0, [], []), (136, .iadd, 0, 0, 0, [], []), (137, .iaload, 0, 0, 0, [], []), (138, .iastore, 0, 0, 0, [], []), (139, .iinc 1 1, 0, 1, 0, [], []), (142, .goto (-26), 0, 0, 0, [67], []), (145, .iconst 0, 0, 0, 0, [], []), (146, .istore_n 1, 0, 0, 0, [], []), (147, .iload_n 1, 85, 0, 0, [], []), (148, .sipush 192, 0, 192, 0, [], []), (151, .if_icmp .ge 25, 0, 0, 0, [99], []), (154, .aload_n 0, 0, 0, 0, [], []), (155, .getfield 37, 0, 0, 0, [7, 11, 4, 141], []), (158, .iload_n 1, 0, 0, 0, [], []), (159, .aload_n 0, 0, 0, 0, [], []), (160, .getfield 80, 0, 0, 0, [7, 40, 4, 170], []), (163, .sipush 896, 0, 896, 0, [], []), (166, .iload_n 1, 0, 0, 0, [], []), (167, .iadd, 0, 0, 0, [], []), (168, .iaload, 0, 0, 0, [], []), (169, .iastore, 0, 0, 0, [], []), (170, .iinc 1 1, 0, 1, 0, [], []), (173, .goto (-26), 0, 0, 0, [84], []), (176, .aload_n 0, 0, 0, 0, [], []), (177, .aload_n 0, 0, 0, 0, [], []), (178, .getfield 80, 0, 0, 0, [7, 40, 4, 170], []), (181, .sipush 1088, 0, 1088, 0, [], []), (184, .iaload, 0, 0, 0, [], []), (185, .putfield 97, 0, 0, 0, [7, 0, 0, 4, 130], []), (188, .aload_n 0, 0, 0, 0, [], []), (189, .aload_n 0, 0, 0, 0, [], []), (190, .getfield 80, 0, 0, 0, [7, 40, 4, 170], []), (193, .sipush 1089, 0, 1089, 0, [], []), (196, .iaload, 0, 0, 0, [], []), (197, .putfield 289, 0, 0, 0, [7, 10, 0, 4, 140], []), (200, .aload_n 0, 0, 0, 0, [], []), (201, .aload_n 0, 0, 0, 0, [], []), (202, .getfield 80, 0, 0, 0, [7, 40, 4, 170], []), (205, .sipush 1090, 0, 1090, 0, [], []), (208, .iaload, 0, 0, 0, [], []), (209, .putfield 86, 0, 0, 0, [7, 12, 0, 4, 142], []), (212, .iconst 0, 0, 0, 0, [], []), (213, .istore_n 1, 0, 0, 0, [], []), (214, .iload_n 1, 120, 0, 0, [], []), (215, .bipush 8, 0, 8, 0, [], []), (217, .if_icmp .ge 37, 0, 0, 0, [140], []), (220, .aload_n 0, 0, 0, 0, [], []), (221, .iload_n 1, 0, 0, 0, [], []), (222, .invokevirtual 104, 0, 0, 0, [132, 1, 3, 7, 5, 36], []), (225, .ifCond .ne 23, 0, 0, 0, [138], []), (228, .aload_n 0, 0, 0, 0, [], []), (229, .getfield 40, 0, 0, 0, [7, 13, 4, 143], []), (232, .iload_n 1, 0, 0, 0, [], []), (233, .iaload, 0, 0, 0, [], []), (234, .aload_n 0, 0, 0, 0, [], []), (235, .getfield 97, 0, 0, 0, [7, 0, 4, 130], []), (238, .if_icmp .lt 10, 0, 0, 0, [138], []), (241, .aload_n 0, 0, 0, 0, [], []), (242, .getfield 40, 0, 0, 0, [7, 13, 4, 143], []), (245, .iload_n 1, 0, 0, 0, [], []), (246, .iconst (-1), 0, (-1), 0, [], []), (247, .iastore, 0, 0, 0, [], []), (248, .iinc 1 1, 0, 1, 0, [], []), (251, .goto (-37), 0, 0, 0, [119], []), (254, .aload_n 0, 0, 0, 0, [], []), (255, .getfield 97, 0, 0, 0, [7, 0, 4, 130], []), (258, .ireturn, 0, 0, 0, [], [])]
def zT_M_allMethods : zT := [(0, .iconst 0, 0, 0, 0, [], []), (1, .istore_n 1, 0, 0, 0, [], []), (2, .iconst 0, 0, 0, 0, [], []), (3, .istore_n 2, 0, 0, 0, [], []), (4, .iload_n 2, 5, 0, 0, [], []), (5, .aload_n 0, 0, 0, 0, [], []), (6, .getfield 97, 0, 0, 0, [7, 0, 4, 130], []), (9, .if_icmp .ge 21, 0, 0, 0, [18], []), (12, .iload_n 1, 0, 0, 0, [], []), (13, .aload_n 0, 0, 0, 0, [], []), (14, .getfield 28, 0, 0, 0, [7, 7, 4, 137], []), (17, .iload_n 2, 0, 0, 0, [], []), (18, .iaload, 0, 0, 0, [], []), (19, .invokestatic 114, 0, 0, 0, [215, 1, 1, 0, 5, 64], []), (22, .iadd, 0, 0, 0, [], []), (23, .istore_n 1, 0, 0, 0, [], []), (24, .iinc 2 1, 0, 1, 0, [], []), (27, .goto (-23), 0, 0, 0, [4], []), (30, .iload_n 1, 0, 0, 0, [], []), (31, .ireturn, 0, 0, 0, [], [])]
def zT_M_status : zT := [(0, .iload_n 1, 0, 0, 0, [], []), (1, .bipush 11, 0, 11, 0, [], []), (3, .bipush 17, 0, 17, 0, [], []), (5, .invokestatic 100, 0, 0, 0, [128, 3, 3, 0, 5, 21], []), (8, .ifCond .eq 13, 0, 0, 0, [12], []), (11, .aload_n 0, 0, 0, 0, [], []), (12, .getfield 53, 0, 0, 0, [7, 22, 4, 152], []), (15, .iload_n 1, 0, 0, 0, [], []), (16, .bipush 10, 0, 10, 0, [], []), (18, .isub, 0, 0, 0, [], []), (19, .iaload, 0, 0, 0, [], []), (20, .ireturn, 0, 0, 0, [], []), (21, .iload_n 1, 0, 0, 0, [], []), (22, .tableswitch 77 0 6 #[42, 47, 52, 57, 62, 67, 72], 0, 0, 0, [42, 35, 14, 17, 20, 23, 26, 29, 32], []), (64, .aload_n 0, 0, 0, 0, [], []), (65, .getfield 97, 0, 0, 0, [7, 0, 4, 130], []), (68, .ireturn, 0, 0, 0, [], []), (69, .aload_n 0, 0, 0, 0, [], []), (70, .getfield 289, 0, 0, 0, [7, 10, 4, 140], []), (73, .ireturn, 0, 0, 0, [], []), (74, .aload_n 0, 0, 0, 0, [], []), (75, .invokevirtual 319, 0, 0, 0, [206, 0, 1, 7, 6, 110], []), (78, .ireturn, 0, 0, 0, [], []), (79, .aload_n 0, 0, 0, 0, [], []), (80, .invokevirtual 326, 0, 0, 0, [213, 0, 1, 7, 6, 130], []), (83, .ireturn, 0, 0, 0, [], []), (84, .aload_n 0, 0, 0, 0, [], []), (85, .getfield 86, 0, 0, 0, [7, 12, 4, 142], []), (88, .ireturn, 0, 0, 0, [], []), (89, .aload_n 0, 0, 0, 0, [], []), (90, .getfield 302, 0, 0, 0, [7, 32, 4, 162], []), (93, .ireturn, 0, 0, 0, [], []), (94, .aload_n 0, 0, 0, 0, [], []), (95, .getfield 280, 0, 0, 0, [7, 31, 4, 161], []), (98, .ireturn, 0, 0, 0, [], []), (99, .iconst (-1), 0, (-1), 0, [], []), (100, .ireturn, 0, 0, 0, [], [])]
def zT_J_bitCount : zT := [(0, .iload_n 0, 0, 0, 0, [], []), (1, .iload_n 0, 0, 0, 0, [], []), (2, .iconst 1, 0, 1, 0, [], []), (3, .iushr, 0, 0, 0, [], []), (4, .ldc_w 265, 0, 1431655765, 0, [2, 161], []), (7, .iand, 0, 0, 0, [], []), (8, .isub, 0, 0, 0, [], []), (9, .istore_n 0, 0, 0, 0, [], []), (10, .iload_n 0, 0, 0, 0, [], []), (11, .ldc_w 266, 0, 858993459, 0, [2, 162], []), (14, .iand, 0, 0, 0, [], []), (15, .iload_n 0, 0, 0, 0, [], []), (16, .iconst 2, 0, 2, 0, [], []), (17, .iushr, 0, 0, 0, [], []), (18, .ldc_w 266, 0, 858993459, 0, [2, 162], []), (21, .iand, 0, 0, 0, [], []), (22, .iadd, 0, 0, 0, [], []), (23, .istore_n 0, 0, 0, 0, [], []), (24, .iload_n 0, 0, 0, 0, [], []), (25, .iload_n 0, 0, 0, 0, [], []), (26, .iconst 4, 0, 4, 0, [], []), (27, .iushr, 0, 0, 0, [], []), (28, .iadd, 0, 0, 0, [], []), (29, .ldc_w 267, 0, 252645135, 0, [2, 163], []), (32, .iand, 0, 0, 0, [], []), (33, .istore_n 0, 0, 0, 0, [], []), (34, .iload_n 0, 0, 0, 0, [], []), (35, .iload_n 0, 0, 0, 0, [], []), (36, .bipush 8, 0, 8, 0, [], []), (38, .iushr, 0, 0, 0, [], []), (39, .iadd, 0, 0, 0, [], []), (40, .istore_n 0, 0, 0, 0, [], []), (41, .iload_n 0, 0, 0, 0, [], []), (42, .iload_n 0, 0, 0, 0, [], []), (43, .bipush 16, 0, 16, 0, [], []), (45, .iushr, 0, 0, 0, [], []), (46, .iadd, 0, 0, 0, [], []), (47, .istore_n 0, 0, 0, 0, [], []), (48, .iload_n 0, 0, 0, 0, [], []), (49, .bipush 63, 0, 63, 0, [], []), (51, .iand, 0, 0, 0, [], []), (52, .ireturn, 0, 0, 0, [], [])]
def zT_J_floorMod : zT := [(0, .iload_n 0, 0, 0, 0, [], []), (1, .iload_n 1, 0, 0, 0, [], []), (2, .irem, 0, 0, 0, [], []), (3, .istore_n 2, 0, 0, 0, [], []), (4, .iload_n 0, 0, 0, 0, [], []), (5, .iload_n 1, 0, 0, 0, [], []), (6, .ixor, 0, 0, 0, [], []), (7, .ifCond .ge 11, 0, 0, 0, [14], []), (10, .iload_n 2, 0, 0, 0, [], []), (11, .ifCond .eq 7, 0, 0, 0, [14], []), (14, .iload_n 2, 0, 0, 0, [], []), (15, .iload_n 1, 0, 0, 0, [], []), (16, .iadd, 0, 0, 0, [], []), (17, .ireturn, 0, 0, 0, [], []), (18, .iload_n 2, 0, 0, 0, [], []), (19, .ireturn, 0, 0, 0, [], [])]
def zT_J_min : zT := [(0, .iload_n 0, 0, 0, 0, [], []), (1, .iload_n 1, 0, 0, 0, [], []), (2, .if_icmp .gt 7, 0, 0, 0, [5], []), (5, .iload_n 0, 0, 0, 0, [], []), (6, .goto 4, 0, 0, 0, [6], []), (9, .iload_n 1, 0, 0, 0, [], []), (10, .ireturn, 0, 0, 0, [], [])]
def zT_J_rangeCheck : zT := [(0, .iload_n 1, 0, 0, 0, [], []), (1, .iload_n 2, 0, 0, 0, [], []), (2, .if_icmp .le 44, 0, 0, 0, [21], []), (5, .new 43, 0, 0, 0, [], []), (8, .athrow, 0, 0, 0, [], []), (9, .new 45, 0, 0, 0, [], []), (12, .athrow, 0, 0, 0, [], []), (13, .athrow, 0, 0, 0, [], []), (16, .athrow, 0, 0, 0, [], []), (18, .athrow, 0, 0, 0, [], []), (21, .athrow, 0, 0, 0, [], []), (22, .athrow, 0, 0, 0, [], []), (25, .athrow, 0, 0, 0, [], []), (27, .athrow, 0, 0, 0, [], []), (30, .athrow, 0, 0, 0, [], []), (31, .athrow, 0, 0, 0, [], []), (34, .athrow, 0, 0, 0, [], []), (36, .athrow, 0, 0, 0, [], []), (39, .athrow, 0, 0, 0, [], []), (42, .athrow, 0, 0, 0, [], []), (45, .athrow, 0, 0, 0, [], []), (46, .iload_n 1, 0, 0, 0, [], []), (47, .ifCond .ge 12, 0, 0, 0, [28], []), (50, .new 68, 0, 0, 0, [], []), (53, .athrow, 0, 0, 0, [], []), (54, .athrow, 0, 0, 0, [], []), (55, .athrow, 0, 0, 0, [], []), (58, .athrow, 0, 0, 0, [], []), (59, .iload_n 2, 0, 0, 0, [], []), (60, .iload_n 0, 0, 0, 0, [], []), (61, .if_icmp .le 12, 0, 0, 0, [36], []), (64, .new 68, 0, 0, 0, [], []), (67, .athrow, 0, 0, 0, [], []), (68, .athrow, 0, 0, 0, [], []), (69, .athrow, 0, 0, 0, [], []), (72, .athrow, 0, 0, 0, [], []), (73, .return_, 0, 0, 0, [], [])]
def zT_J_fill : zT := [(0, .aload_n 0, 0, 0, 0, [], []), (1, .arraylength, 0, 0, 0, [], []), (2, .iload_n 1, 0, 0, 0, [], []), (3, .iload_n 2, 0, 0, 0, [], []), (4, .invokestatic 13, 0, 0, 0, [218, 3, 0, 0, 2, 70], []), (7, .iload_n 1, 0, 0, 0, [], []), (8, .istore 5, 0, 0, 0, [], []), (10, .iload 5, 8, 0, 0, [], [1, 4]), (12, .iload_n 2, 0, 0, 0, [], []), (13, .if_icmp .ge 14, 0, 0, 0, [16], []), (16, .aload_n 0, 0, 0, 0, [], []), (17, .iload 5, 0, 0, 0, [], []), (19, .lload_n 3, 0, 0, 0, [], []), (20, .lastore, 0, 0, 0, [], []), (21, .iinc 5 1, 0, 1, 0, [], []), (24, .goto (-14), 0, 0, 0, [7], []), (27, .return_, 0, 0, 0, [], [])]
def zT_J_fill2 : zT := [(0, .iconst 0, 0, 0, 0, [], []), (1, .istore_n 2, 0, 0, 0, [], []), (2, .aload_n 0, 0, 0, 0, [], []), (3, .arraylength, 0, 0, 0, [], []), (4, .istore_n 3, 0, 0, 0, [], []), (5, .iload_n 2, 6, 0, 0, [], []), (6, .iload_n 3, 0, 0, 0, [], []), (7, .if_icmp .ge 13, 0, 0, 0, [14], []), (10, .aload_n 0, 0, 0, 0, [], []), (11, .iload_n 2, 0, 0, 0, [], []), (12, .iload_n 1, 0, 0, 0, [], []), (13, .iastore, 0, 0, 0, [], []), (14, .iinc 2 1, 0, 1, 0, [], []), (17, .goto (-12), 0, 0, 0, [5], []), (20, .return_, 0, 0, 0, [], [])]
def zI_A_find : zMeth := (yX0_find, cX0_find, 8, none, 4, false, 0, zT_A_find)
def zI_A_insert : zMeth := (yX0_insert, cX0_insert, 5, none, 2, false, 0, zT_A_insert)
def zI_A_standsBefore : zMeth := (yX0_standsBefore, cX0_standsBefore, 3, some .boolean, 2, false, 3, zT_A_standsBefore)
def zI_A_wayAt : zMeth := (yX0_wayAt, cX0_wayAt, 3, some .int, 2, false, 1, zT_A_wayAt)
def zI_A_isTied : zMeth := (yX0_isTied, cX0_isTied, 1, some .boolean, 0, false, 3, zT_A_isTied)
def zI_G_tellFirst : zMeth := (yX1_tellFirst, cX1_tellFirst, 5, none, 4, false, 0, zT_G_tellFirst)
def zI_G_tellNone : zMeth := (yX1_tellNone, cX1_tellNone, 1, none, 0, false, 0, zT_G_tellNone)
def zI_G_tells : zMeth := (yX1_tells, cX1_tells, 3, some .boolean, 1, false, 3, zT_G_tells)
def zI_G_tellOneMore : zMeth := (yX1_tellOneMore, cX1_tellOneMore, 2, none, 1, false, 0, zT_G_tellOneMore)
def zI_G_standsAhead : zMeth := (yX1_standsAhead, cX1_standsAhead, 3, some .boolean, 1, false, 3, zT_G_standsAhead)
def zI_G_findOrder : zMeth := (yX1_findOrder, cX1_findOrder, 4, some .boolean, 1, false, 3, zT_G_findOrder)
def zI_G_layRows : zMeth := (yX1_layRows, cX1_layRows, 4, none, 1, false, 0, zT_G_layRows)
def zI_G_areAllEmpty : zMeth := (yX1_areAllEmpty, cX1_areAllEmpty, 2, some .boolean, 0, false, 3, zT_G_areAllEmpty)
def zI_G_findNext : zMeth := (yX1_findNext, cX1_findNext, 3, some .int, 0, false, 1, zT_G_findNext)
def zI_G_standsBehindAFirst : zMeth := (yX1_standsBehindAFirst, cX1_standsBehindAFirst, 4, some .boolean, 1, false, 3, zT_G_standsBehindAFirst)
def zI_G_takeOut : zMeth := (yX1_takeOut, cX1_takeOut, 3, none, 1, false, 0, zT_G_takeOut)
def zI_D_lay : zMeth := (yX2_lay, cX2_lay, 4, none, 2, false, 0, zT_D_lay)
def zI_D_readText : zMeth := (yX2_readText, cX2_readText, 6, some .int, 2, false, 1, zT_D_readText)
def zI_D_readItem : zMeth := (yX2_readItem, cX2_readItem, 5, some .boolean, 2, false, 3, zT_D_readItem)
def zI_D_readParents : zMeth := (yX2_readParents, cX2_readParents, 5, some .boolean, 2, false, 3, zT_D_readParents)
def zI_D_readSlots : zMeth := (yX2_readSlots, cX2_readSlots, 5, some .boolean, 2, false, 3, zT_D_readSlots)
def zI_D_readValue : zMeth := (yX2_readValue, cX2_readValue, 4, some .boolean, 3, false, 3, zT_D_readValue)
def zI_D_readMethod : zMeth := (yX2_readMethod, cX2_readMethod, 5, some .boolean, 3, false, 3, zT_D_readMethod)
def zI_D_readNumber : zMeth := (yX2_readNumber, cX2_readNumber, 3, some .boolean, 1, false, 3, zT_D_readNumber)
def zI_D_pass : zMeth := (yX2_pass, cX2_pass, 2, some .boolean, 1, false, 3, zT_D_pass)
def zI_D_stands : zMeth := (yX2_stands, cX2_stands, 2, some .boolean, 1, false, 3, zT_D_stands)
def zI_D_digitStands : zMeth := (yX2_digitStands, cX2_digitStands, 1, some .boolean, 0, false, 3, zT_D_digitStands)
def zI_D_markFault : zMeth := (yX2_markFault, cX2_markFault, 2, some .boolean, 1, false, 3, zT_D_markFault)
def zI_U_beginAct : zMeth := (yX3_beginAct, cX3_beginAct, 1, none, 0, false, 0, zT_U_beginAct)
def zI_U_sendSlot : zMeth := (yX3_sendSlot, cX3_sendSlot, 4, some .int, 3, false, 1, zT_U_sendSlot)
def zI_U_callGeneric : zMeth := (yX3_callGeneric, cX3_callGeneric, 5, some .int, 4, false, 1, zT_U_callGeneric)
def zI_U_undo : zMeth := (yX3_undo, cX3_undo, 1, none, 0, false, 0, zT_U_undo)
def zI_U_save : zMeth := (yX3_save, cX3_save, 1, none, 0, false, 0, zT_U_save)
def zI_U_carryOut : zMeth := (yX3_carryOut, cX3_carryOut, 4, some .int, 1, false, 1, zT_U_carryOut)
def zI_U_takeStep : zMeth := (yX3_takeStep, cX3_takeStep, 1, some .boolean, 0, false, 3, zT_U_takeStep)
def zI_U_comeNextTo : zMeth := (yX3_comeNextTo, cX3_comeNextTo, 5, none, 4, false, 0, zT_U_comeNextTo)
def zI_U_give : zMeth := (yX3_give, cX3_give, 2, none, 1, false, 0, zT_U_give)
def zI_U_comeToSlot : zMeth := (yX3_comeToSlot, cX3_comeToSlot, 3, none, 0, false, 0, zT_U_comeToSlot)
def zI_U_comeToWay : zMeth := (yX3_comeToWay, cX3_comeToWay, 1, none, 0, false, 0, zT_U_comeToWay)
def zI_U_startWay : zMeth := (yX3_startWay, cX3_startWay, 2, none, 1, false, 0, zT_U_startWay)
def zI_U_startMethod : zMeth := (yX3_startMethod, cX3_startMethod, 3, none, 2, false, 0, zT_U_startMethod)
def zI_U_run : zMeth := (yX3_run, cX3_run, 1, none, 0, false, 0, zT_U_run)
def zI_U_setOwn : zMeth := (yX3_setOwn, cX3_setOwn, 2, none, 1, false, 0, zT_U_setOwn)
def zI_U_leave : zMeth := (yX3_leave, cX3_leave, 6, none, 4, false, 0, zT_U_leave)
def zI_U_giveToFrame : zMeth := (yX3_giveToFrame, cX3_giveToFrame, 2, none, 0, false, 0, zT_U_giveToFrame)
def zI_U_goOnInCore : zMeth := (yX3_goOnInCore, cX3_goOnInCore, 3, none, 0, false, 0, zT_U_goOnInCore)
def zI_U_failFrame : zMeth := (yX3_failFrame, cX3_failFrame, 2, none, 0, false, 0, zT_U_failFrame)
def zI_H_isShelf : zMeth := (yX4_isShelf, cX4_isShelf, 2, some .boolean, 1, false, 3, zT_H_isShelf)
def zI_H_holdsRow : zMeth := (yX4_holdsRow, cX4_holdsRow, 2, some .boolean, 1, false, 3, zT_H_holdsRow)
def zI_H_holdsObject : zMeth := (yX4_holdsObject, cX4_holdsObject, 2, some .boolean, 1, false, 3, zT_H_holdsObject)
def zI_H_areOfTwoSorts : zMeth := (yX4_areOfTwoSorts, cX4_areOfTwoSorts, 3, some .boolean, 2, false, 3, zT_H_areOfTwoSorts)
def zI_H_whyNoRow : zMeth := (yX4_whyNoRow, cX4_whyNoRow, 2, some .int, 1, false, 1, zT_H_whyNoRow)
def zI_H_lay : zMeth := (yX4_lay, cX4_lay, 4, none, 3, false, 0, zT_H_lay)
def zI_H_hasElement : zMeth := (yX4_hasElement, cX4_hasElement, 3, some .boolean, 2, false, 3, zT_H_hasElement)
def zI_H_hasStretch : zMeth := (yX4_hasStretch, cX4_hasStretch, 4, some .boolean, 3, false, 3, zT_H_hasStretch)
def zI_H_put : zMeth := (yX4_put, cX4_put, 6, none, 3, false, 0, zT_H_put)
def zI_H_move : zMeth := (yX4_move, cX4_move, 6, none, 5, false, 0, zT_H_move)
def zI_H_longAt : zMeth := (yX4_longAt, cX4_longAt, 3, some .long, 2, false, 2, zT_H_longAt)
def zI_H_intAt : zMeth := (yX4_intAt, cX4_intAt, 3, some .int, 2, false, 1, zT_H_intAt)
def zI_H_dropObjectsFrom : zMeth := (yX4_dropObjectsFrom, cX4_dropObjectsFrom, 3, none, 1, false, 0, zT_H_dropObjectsFrom)
def zI_W_hasObject : zMeth := (yX5_hasObject, cX5_hasObject, 2, some .boolean, 1, false, 3, zT_W_hasObject)
def zI_W_isFull : zMeth := (yX5_isFull, cX5_isFull, 1, some .boolean, 0, false, 3, zT_W_isFull)
def zI_W_addObject : zMeth := (yX5_addObject, cX5_addObject, 5, some .int, 2, false, 1, zT_W_addObject)
def zI_W_parentAt : zMeth := (yX5_parentAt, cX5_parentAt, 3, some .int, 2, false, 1, zT_W_parentAt)
def zI_W_orderAt : zMeth := (yX5_orderAt, cX5_orderAt, 3, some .int, 2, false, 1, zT_W_orderAt)
def zI_W_wayPart : zMeth := (yX5_wayPart, cX5_wayPart, 3, some .int, 2, false, 1, zT_W_wayPart)
def zI_W_isOfKind : zMeth := (yX5_isOfKind, cX5_isOfKind, 3, some .boolean, 2, false, 3, zT_W_isOfKind)
def zI_W_distanceTo : zMeth := (yX5_distanceTo, cX5_distanceTo, 4, some .int, 2, false, 1, zT_W_distanceTo)
def zI_W_hasOwn : zMeth := (yX5_hasOwn, cX5_hasOwn, 3, some .boolean, 2, false, 3, zT_W_hasOwn)
def zI_W_putValue : zMeth := (yX5_putValue, cX5_putValue, 4, none, 3, false, 0, zT_W_putValue)
def zI_W_putMethod : zMeth := (yX5_putMethod, cX5_putMethod, 5, none, 4, false, 0, zT_W_putMethod)
def zI_W_drop : zMeth := (yX5_drop, cX5_drop, 3, none, 2, false, 0, zT_W_drop)
def zI_W_placeFrom : zMeth := (yX5_placeFrom, cX5_placeFrom, 5, some .int, 3, false, 1, zT_W_placeFrom)
def zI_W_foundIn : zMeth := (yX5_foundIn, cX5_foundIn, 4, some .int, 2, false, 1, zT_W_foundIn)
def zI_W_ownSlots : zMeth := (yX5_ownSlots, cX5_ownSlots, 4, some .int, 1, false, 1, zT_W_ownSlots)
def zI_W_foundSlots : zMeth := (yX5_foundSlots, cX5_foundSlots, 4, some .int, 1, false, 1, zT_W_foundSlots)
def zI_W_hiddenSlots : zMeth := (yX5_hiddenSlots, cX5_hiddenSlots, 5, some .int, 2, false, 1, zT_W_hiddenSlots)
def zI_W_family : zMeth := (yX5_family, cX5_family, 4, some .int, 1, false, 1, zT_W_family)
def zI_W_slotsOfAll : zMeth := (yX5_slotsOfAll, cX5_slotsOfAll, 3, some .int, 0, false, 1, zT_W_slotsOfAll)
def zI_W_methodsOfAll : zMeth := (yX5_methodsOfAll, cX5_methodsOfAll, 3, some .int, 0, false, 1, zT_W_methodsOfAll)
def zI_W_draw : zMeth := (yX5_draw, cX5_draw, 2, some .int, 1, false, 1, zT_W_draw)
def zI_W_takeFrom : zMeth := (yX5_takeFrom, cX5_takeFrom, 2, none, 1, false, 0, zT_W_takeFrom)
def zI_X_row : zMeth := (yX6_row, cX6_row, 4, some .int, 3, false, 1, zT_X_row)
def zI_X_set : zMeth := (yX6_set, cX6_set, 6, some .int, 3, false, 1, zT_X_set)
def zI_X_copy : zMeth := (yX6_copy, cX6_copy, 6, some .int, 5, false, 1, zT_X_copy)
def zI_X_element : zMeth := (yX6_element, cX6_element, 3, some .long, 2, false, 2, zT_X_element)
def zI_X_show : zMeth := (yX6_show, cX6_show, 3, some .int, 2, false, 1, zT_X_show)
def zI_X_holds : zMeth := (yX6_holds, cX6_holds, 2, some .int, 1, false, 1, zT_X_holds)
def zI_X_says : zMeth := (yX6_says, cX6_says, 4, some .int, 2, false, 1, zT_X_says)
def zI_X_read : zMeth := (yX6_read, cX6_read, 3, some .int, 1, false, 1, zT_X_read)
def zI_X_fault : zMeth := (yX6_fault, cX6_fault, 1, some .int, 0, false, 1, zT_X_fault)
def zI_X_make : zMeth := (yX6_make, cX6_make, 7, some .int, 5, false, 1, zT_X_make)
def zI_X_wouldBe : zMeth := (yX6_wouldBe, cX6_wouldBe, 7, some .int, 5, false, 1, zT_X_wouldBe)
def zI_X_value : zMeth := (yX6_value, cX6_value, 5, some .int, 3, false, 1, zT_X_value)
def zI_X_method : zMeth := (yX6_method, cX6_method, 6, some .int, 4, false, 1, zT_X_method)
def zI_X_remove : zMeth := (yX6_remove, cX6_remove, 3, some .int, 2, false, 1, zT_X_remove)
def zI_X_objectOf : zMeth := (yX6_objectOf, cX6_objectOf, 3, some .int, 2, false, 1, zT_X_objectOf)
def zI_X_order : zMeth := (yX6_order, cX6_order, 3, some .int, 2, false, 1, zT_X_order)
def zI_X_distance : zMeth := (yX6_distance, cX6_distance, 3, some .int, 2, false, 1, zT_X_distance)
def zI_X_where : zMeth := (yX6_where, cX6_where, 3, some .int, 2, false, 1, zT_X_where)
def zI_X_hidden : zMeth := (yX6_hidden, cX6_hidden, 3, some .int, 2, false, 1, zT_X_hidden)
def zI_X_slotOf : zMeth := (yX6_slotOf, cX6_slotOf, 5, some .int, 3, false, 1, zT_X_slotOf)
def zI_X_send : zMeth := (yX6_send, cX6_send, 5, some .int, 3, false, 1, zT_X_send)
def zI_X_given : zMeth := (yX6_given, cX6_given, 1, some .int, 0, false, 1, zT_X_given)
def zI_X_trial : zMeth := (yX6_trial, cX6_trial, 6, some .int, 4, false, 1, zT_X_trial)
def zI_X_way : zMeth := (yX6_way, cX6_way, 9, some .int, 6, false, 1, zT_X_way)
def zI_X_wayOf : zMeth := (yX6_wayOf, cX6_wayOf, 4, some .int, 2, false, 1, zT_X_wayOf)
def zI_X_applies : zMeth := (yX6_applies, cX6_applies, 7, some .int, 5, false, 1, zT_X_applies)
def zI_X_tie : zMeth := (yX6_tie, cX6_tie, 4, some .int, 3, false, 1, zT_X_tie)
def zI_X_call : zMeth := (yX6_call, cX6_call, 6, some .int, 4, false, 1, zT_X_call)
def zI_X_trace : zMeth := (yX6_trace, cX6_trace, 2, some .int, 1, false, 1, zT_X_trace)
def zI_X_judge : zMeth := (yX6_judge, cX6_judge, 8, some .int, 4, false, 1, zT_X_judge)
def zI_X_days : zMeth := (yX6_days, cX6_days, 3, some .int, 1, false, 1, zT_X_days)
def zI_X_seed : zMeth := (yX6_seed, cX6_seed, 3, some .int, 1, false, 1, zT_X_seed)
def zI_X_image : zMeth := (yX6_image, cX6_image, 1, some .int, 0, false, 1, zT_X_image)
def zI_X_restore : zMeth := (yX6_restore, cX6_restore, 1, some .int, 0, false, 1, zT_X_restore)
def zI_X_status : zMeth := (yX6_status, cX6_status, 2, some .int, 1, false, 1, zT_X_status)
def zI_X_refuse : zMeth := (yX6_refuse, cX6_refuse, 2, some .int, 1, false, 1, zT_X_refuse)
def zI_X_refuseByTen : zMeth := (yX6_refuseByTen, cX6_refuseByTen, 2, some .int, 1, false, 1, zT_X_refuseByTen)
def zI_X_whyNoParents : zMeth := (yX6_whyNoParents, cX6_whyNoParents, 6, some .int, 4, false, 1, zT_X_whyNoParents)
def zI_X_liveDay : zMeth := (yX6_liveDay, cX6_liveDay, 5, none, 0, false, 0, zT_X_liveDay)
def zI_X_isKind : zMeth := (yX6_isKind, cX6_isKind, 1, some .boolean, 1, true, 3, zT_X_isKind)
def zI_X_isSlot : zMeth := (yX6_isSlot, cX6_isSlot, 1, some .boolean, 1, true, 3, zT_X_isSlot)
def zI_X_isGeneric : zMeth := (yX6_isGeneric, cX6_isGeneric, 1, some .boolean, 1, true, 3, zT_X_isGeneric)
def zI_X_isSort : zMeth := (yX6_isSort, cX6_isSort, 1, some .boolean, 1, true, 3, zT_X_isSort)
def zI_X_isFunction : zMeth := (yX6_isFunction, cX6_isFunction, 2, some .boolean, 2, true, 3, zT_X_isFunction)
def zI_M_no : zMeth := (yX7_no, cX7_no, 2, some .int, 1, false, 1, zT_M_no)
def zI_M_no10 : zMeth := (yX7_no10, cX7_no10, 2, some .int, 1, false, 1, zT_M_no10)
def zI_M_within : zMeth := (yX7_within, cX7_within, 3, some .boolean, 3, true, 3, zT_M_within)
def zI_M_isOne : zMeth := (yX7_isOne, cX7_isOne, 2, some .boolean, 1, false, 3, zT_M_isOne)
def zI_M_isSlot : zMeth := (yX7_isSlot, cX7_isSlot, 1, some .boolean, 1, true, 3, zT_M_isSlot)
def zI_M_isIn : zMeth := (yX7_isIn, cX7_isIn, 2, some .boolean, 2, true, 3, zT_M_isIn)
def zI_M_isRow : zMeth := (yX7_isRow, cX7_isRow, 2, some .boolean, 1, false, 3, zT_M_isRow)
def zI_M_row : zMeth := (yX7_row, cX7_row, 5, some .int, 3, false, 1, zT_M_row)
def zI_M_noRow : zMeth := (yX7_noRow, cX7_noRow, 2, some .int, 1, false, 1, zT_M_noRow)
def zI_M_set : zMeth := (yX7_set, cX7_set, 7, some .int, 3, false, 1, zT_M_set)
def zI_M_copy : zMeth := (yX7_copy, cX7_copy, 7, some .int, 5, false, 1, zT_M_copy)
def zI_M_element : zMeth := (yX7_element, cX7_element, 3, some .long, 2, false, 2, zT_M_element)
def zI_M_show : zMeth := (yX7_show, cX7_show, 3, some .int, 2, false, 1, zT_M_show)
def zI_M_holds : zMeth := (yX7_holds, cX7_holds, 2, some .int, 1, false, 1, zT_M_holds)
def zI_M_says : zMeth := (yX7_says, cX7_says, 4, some .int, 2, false, 1, zT_M_says)
def zI_M_lays : zMeth := (yX7_lays, cX7_lays, 6, none, 4, false, 0, zT_M_lays)
def zI_M_isBehind : zMeth := (yX7_isBehind, cX7_isBehind, 5, some .boolean, 2, false, 3, zT_M_isBehind)
def zI_M_next : zMeth := (yX7_next, cX7_next, 3, some .int, 1, false, 1, zT_M_next)
def zI_M_merges : zMeth := (yX7_merges, cX7_merges, 7, some .boolean, 3, false, 3, zT_M_merges)
def zI_M_isFit : zMeth := (yX7_isFit, cX7_isFit, 4, some .boolean, 1, false, 3, zT_M_isFit)
def zI_M_newObject : zMeth := (yX7_newObject, cX7_newObject, 5, some .int, 2, false, 1, zT_M_newObject)
def zI_M_tells : zMeth := (yX7_tells, cX7_tells, 4, none, 3, false, 0, zT_M_tells)
def zI_M_areThere : zMeth := (yX7_areThere, cX7_areThere, 3, some .boolean, 1, false, 3, zT_M_areThere)
def zI_M_make : zMeth := (yX7_make, cX7_make, 6, some .int, 5, false, 1, zT_M_make)
def zI_M_wouldBe : zMeth := (yX7_wouldBe, cX7_wouldBe, 6, some .int, 5, false, 1, zT_M_wouldBe)
def zI_M_sign : zMeth := (yX7_sign, cX7_sign, 1, some .int, 0, false, 1, zT_M_sign)
def zI_M_is : zMeth := (yX7_is, cX7_is, 2, some .boolean, 1, false, 3, zT_M_is)
def zI_M_isDigit : zMeth := (yX7_isDigit, cX7_isDigit, 1, some .boolean, 0, false, 3, zT_M_isDigit)
def zI_M_isNumber : zMeth := (yX7_isNumber, cX7_isNumber, 1, some .boolean, 0, false, 3, zT_M_isNumber)
def zI_M_isDigit2 : zMeth := (yX7_isDigit_, cX7_isDigit_, 2, some .boolean, 1, false, 3, zT_M_isDigit2)
def zI_M_isParent : zMeth := (yX7_isParent, cX7_isParent, 4, some .boolean, 1, false, 3, zT_M_isParent)
def zI_M_isSigned : zMeth := (yX7_isSigned, cX7_isSigned, 2, some .boolean, 0, false, 3, zT_M_isSigned)
def zI_M_slots : zMeth := (yX7_slots, cX7_slots, 5, some .boolean, 1, false, 3, zT_M_slots)
def zI_M_item : zMeth := (yX7_item, cX7_item, 5, some .boolean, 0, false, 3, zT_M_item)
def zI_M_read : zMeth := (yX7_read, cX7_read, 5, some .int, 1, false, 1, zT_M_read)
def zI_M_fault : zMeth := (yX7_fault, cX7_fault, 1, some .int, 0, false, 1, zT_M_fault)
def zI_M_holds2 : zMeth := (yX7_holds_, cX7_holds_, 6, none, 5, false, 0, zT_M_holds2)
def zI_M_value : zMeth := (yX7_value, cX7_value, 5, some .int, 3, false, 1, zT_M_value)
def zI_M_method : zMeth := (yX7_method, cX7_method, 6, some .int, 4, false, 1, zT_M_method)
def zI_M_drops : zMeth := (yX7_drops, cX7_drops, 3, none, 2, false, 0, zT_M_drops)
def zI_M_remove : zMeth := (yX7_remove, cX7_remove, 3, some .int, 2, false, 1, zT_M_remove)
def zI_M_place : zMeth := (yX7_place, cX7_place, 4, some .int, 2, false, 1, zT_M_place)
def zI_M_found : zMeth := (yX7_found, cX7_found, 5, some .int, 3, false, 1, zT_M_found)
def zI_M_family : zMeth := (yX7_family, cX7_family, 4, some .int, 1, false, 1, zT_M_family)
def zI_M_allFound : zMeth := (yX7_allFound, cX7_allFound, 4, some .int, 1, false, 1, zT_M_allFound)
def zI_M_objectOf : zMeth := (yX7_objectOf, cX7_objectOf, 3, some .int, 2, false, 1, zT_M_objectOf)
def zI_M_order : zMeth := (yX7_order, cX7_order, 3, some .int, 2, false, 1, zT_M_order)
def zI_M_distance : zMeth := (yX7_distance, cX7_distance, 3, some .int, 2, false, 1, zT_M_distance)
def zI_M_where : zMeth := (yX7_where, cX7_where, 4, some .int, 2, false, 1, zT_M_where)
def zI_M_hidden : zMeth := (yX7_hidden, cX7_hidden, 6, some .int, 2, false, 1, zT_M_hidden)
def zI_M_slotOf : zMeth := (yX7_slotOf, cX7_slotOf, 4, some .int, 3, false, 1, zT_M_slotOf)
def zI_M_fails : zMeth := (yX7_fails, cX7_fails, 1, some .int, 0, false, 1, zT_M_fails)
def zI_M_slotOf2 : zMeth := (yX7_slotOf_, cX7_slotOf_, 1, some .int, 1, true, 1, zT_M_slotOf2)
def zI_M_sends : zMeth := (yX7_sends, cX7_sends, 3, some .int, 2, false, 1, zT_M_sends)
def zI_M_gives : zMeth := (yX7_gives, cX7_gives, 6, some .int, 3, false, 1, zT_M_gives)
def zI_M_next2 : zMeth := (yX7_next_, cX7_next_, 5, some .int, 4, false, 1, zT_M_next2)
def zI_M_sets : zMeth := (yX7_sets, cX7_sets, 3, some .int, 2, false, 1, zT_M_sets)
def zI_M_runs : zMeth := (yX7_runs, cX7_runs, 9, some .int, 6, false, 1, zT_M_runs)
def zI_M_way : zMeth := (yX7_way, cX7_way, 3, some .int, 2, false, 1, zT_M_way)
def zI_M_goes : zMeth := (yX7_goes, cX7_goes, 6, some .int, 4, false, 1, zT_M_goes)
def zI_M_core : zMeth := (yX7_core, cX7_core, 4, some .int, 1, false, 1, zT_M_core)
def zI_M_begins : zMeth := (yX7_begins, cX7_begins, 2, none, 1, false, 0, zT_M_begins)
def zI_M_done : zMeth := (yX7_done, cX7_done, 2, some .int, 1, false, 1, zT_M_done)
def zI_M_send : zMeth := (yX7_send, cX7_send, 4, some .int, 3, false, 1, zT_M_send)
def zI_M_given : zMeth := (yX7_given, cX7_given, 1, some .int, 0, false, 1, zT_M_given)
def zI_M_tries : zMeth := (yX7_tries, cX7_tries, 5, some .int, 3, false, 1, zT_M_tries)
def zI_M_trial : zMeth := (yX7_trial, cX7_trial, 5, some .int, 4, false, 1, zT_M_trial)
def zI_M_isGeneric : zMeth := (yX7_isGeneric, cX7_isGeneric, 1, some .boolean, 1, true, 3, zT_M_isGeneric)
def zI_M_way2 : zMeth := (yX7_way_, cX7_way_, 7, some .int, 6, false, 1, zT_M_way2)
def zI_M_wayOf : zMeth := (yX7_wayOf, cX7_wayOf, 3, some .int, 2, false, 1, zT_M_wayOf)
def zI_M_far : zMeth := (yX7_far, cX7_far, 4, some .int, 3, false, 1, zT_M_far)
def zI_M_isAhead : zMeth := (yX7_isAhead, cX7_isAhead, 5, some .boolean, 4, false, 3, zT_M_isAhead)
def zI_M_stands : zMeth := (yX7_stands, cX7_stands, 7, none, 3, false, 0, zT_M_stands)
def zI_M_applies : zMeth := (yX7_applies, cX7_applies, 6, some .int, 5, false, 1, zT_M_applies)
def zI_M_tie : zMeth := (yX7_tie, cX7_tie, 4, some .int, 3, false, 1, zT_M_tie)
def zI_M_call : zMeth := (yX7_call, cX7_call, 6, some .int, 4, false, 1, zT_M_call)
def zI_M_trace : zMeth := (yX7_trace, cX7_trace, 2, some .int, 1, false, 1, zT_M_trace)
def zI_M_read2 : zMeth := (yX7_read_, cX7_read_, 3, some .int, 2, false, 1, zT_M_read2)
def zI_M_judge : zMeth := (yX7_judge, cX7_judge, 7, some .int, 4, false, 1, zT_M_judge)
def zI_M_draw : zMeth := (yX7_draw, cX7_draw, 2, some .int, 1, false, 1, zT_M_draw)
def zI_M_allSlots : zMeth := (yX7_allSlots, cX7_allSlots, 3, some .int, 0, false, 1, zT_M_allSlots)
def zI_M_days : zMeth := (yX7_days, cX7_days, 6, some .int, 1, false, 1, zT_M_days)
def zI_M_seed : zMeth := (yX7_seed, cX7_seed, 3, some .int, 1, false, 1, zT_M_seed)
def zI_M_keepSlots : zMeth := (yX7_keepSlots, cX7_keepSlots, 3, none, 1, false, 0, zT_M_keepSlots)
def zI_M_slotsAgain : zMeth := (yX7_slotsAgain, cX7_slotsAgain, 3, none, 1, false, 0, zT_M_slotsAgain)
def zI_M_image : zMeth := (yX7_image, cX7_image, 2, some .int, 0, false, 1, zT_M_image)
def zI_M_restore : zMeth := (yX7_restore, cX7_restore, 2, some .int, 0, false, 1, zT_M_restore)
def zI_M_allMethods : zMeth := (yX7_allMethods, cX7_allMethods, 3, some .int, 0, false, 1, zT_M_allMethods)
def zI_M_status : zMeth := (yX7_status, cX7_status, 2, some .int, 1, false, 1, zT_M_status)
def zI_J_bitCount : zMeth := (yJ6_bitCount_0f7a4, cJ6_bitCount_0f7a4, 1, some .int, 1, true, 1, zT_J_bitCount)
def zI_J_floorMod : zMeth := (yJ9_floorMod_7cf53, cJ9_floorMod_7cf53, 3, some .int, 2, true, 1, zT_J_floorMod)
def zI_J_min : zMeth := (yJ9_min_7cf53, cJ9_min_7cf53, 2, some .int, 2, true, 1, zT_J_min)
def zI_J_rangeCheck : zMeth := (yJ7_rangeCheck_23922, cJ7_rangeCheck_23922, 3, none, 3, true, 0, zT_J_rangeCheck)
def zI_J_fill : zMeth := (yJ7_fill_bad5a, cJ7_fill_bad5a, 6, none, 4, true, 0, zT_J_fill)
def zI_J_fill2 : zMeth := (yJ7_fill_53178, cJ7_fill_53178, 4, none, 2, true, 0, zT_J_fill2)
def zMs : List zMeth := [zI_A_find, zI_A_insert, zI_A_standsBefore, zI_A_wayAt, zI_A_isTied, zI_G_tellFirst, zI_G_tellNone, zI_G_tells, zI_G_tellOneMore, zI_G_standsAhead, zI_G_findOrder, zI_G_layRows, zI_G_areAllEmpty, zI_G_findNext, zI_G_standsBehindAFirst, zI_G_takeOut, zI_D_lay, zI_D_readText, zI_D_readItem, zI_D_readParents, zI_D_readSlots, zI_D_readValue, zI_D_readMethod, zI_D_readNumber, zI_D_pass, zI_D_stands, zI_D_digitStands, zI_D_markFault, zI_U_beginAct, zI_U_sendSlot, zI_U_callGeneric, zI_U_undo, zI_U_save, zI_U_carryOut, zI_U_takeStep, zI_U_comeNextTo, zI_U_give, zI_U_comeToSlot, zI_U_comeToWay, zI_U_startWay, zI_U_startMethod, zI_U_run, zI_U_setOwn, zI_U_leave, zI_U_giveToFrame, zI_U_goOnInCore, zI_U_failFrame, zI_H_isShelf, zI_H_holdsRow, zI_H_holdsObject, zI_H_areOfTwoSorts, zI_H_whyNoRow, zI_H_lay, zI_H_hasElement, zI_H_hasStretch, zI_H_put, zI_H_move, zI_H_longAt, zI_H_intAt, zI_H_dropObjectsFrom, zI_W_hasObject, zI_W_isFull, zI_W_addObject, zI_W_parentAt, zI_W_orderAt, zI_W_wayPart, zI_W_isOfKind, zI_W_distanceTo, zI_W_hasOwn, zI_W_putValue, zI_W_putMethod, zI_W_drop, zI_W_placeFrom, zI_W_foundIn, zI_W_ownSlots, zI_W_foundSlots, zI_W_hiddenSlots, zI_W_family, zI_W_slotsOfAll, zI_W_methodsOfAll, zI_W_draw, zI_W_takeFrom, zI_X_row, zI_X_set, zI_X_copy, zI_X_element, zI_X_show, zI_X_holds, zI_X_says, zI_X_read, zI_X_fault, zI_X_make, zI_X_wouldBe, zI_X_value, zI_X_method, zI_X_remove, zI_X_objectOf, zI_X_order, zI_X_distance, zI_X_where, zI_X_hidden, zI_X_slotOf, zI_X_send, zI_X_given, zI_X_trial, zI_X_way, zI_X_wayOf, zI_X_applies, zI_X_tie, zI_X_call, zI_X_trace, zI_X_judge, zI_X_days, zI_X_seed, zI_X_image, zI_X_restore, zI_X_status, zI_X_refuse, zI_X_refuseByTen, zI_X_whyNoParents, zI_X_liveDay, zI_X_isKind, zI_X_isSlot, zI_X_isGeneric, zI_X_isSort, zI_X_isFunction, zI_M_no, zI_M_no10, zI_M_within, zI_M_isOne, zI_M_isSlot, zI_M_isIn, zI_M_isRow, zI_M_row, zI_M_noRow, zI_M_set, zI_M_copy, zI_M_element, zI_M_show, zI_M_holds, zI_M_says, zI_M_lays, zI_M_isBehind, zI_M_next, zI_M_merges, zI_M_isFit, zI_M_newObject, zI_M_tells, zI_M_areThere, zI_M_make, zI_M_wouldBe, zI_M_sign, zI_M_is, zI_M_isDigit, zI_M_isNumber, zI_M_isDigit2, zI_M_isParent, zI_M_isSigned, zI_M_slots, zI_M_item, zI_M_read, zI_M_fault, zI_M_holds2, zI_M_value, zI_M_method, zI_M_drops, zI_M_remove, zI_M_place, zI_M_found, zI_M_family, zI_M_allFound, zI_M_objectOf, zI_M_order, zI_M_distance, zI_M_where, zI_M_hidden, zI_M_slotOf, zI_M_fails, zI_M_slotOf2, zI_M_sends, zI_M_gives, zI_M_next2, zI_M_sets, zI_M_runs, zI_M_way, zI_M_goes, zI_M_core, zI_M_begins, zI_M_done, zI_M_send, zI_M_given, zI_M_tries, zI_M_trial, zI_M_isGeneric, zI_M_way2, zI_M_wayOf, zI_M_far, zI_M_isAhead, zI_M_stands, zI_M_applies, zI_M_tie, zI_M_call, zI_M_trace, zI_M_read2, zI_M_judge, zI_M_draw, zI_M_allSlots, zI_M_days, zI_M_seed, zI_M_keepSlots, zI_M_slotsAgain, zI_M_image, zI_M_restore, zI_M_allMethods, zI_M_status, zI_J_bitCount, zI_J_floorMod, zI_J_min, zI_J_rangeCheck, zI_J_fill, zI_J_fill2]
def skX : List zE := [.inr (.inr (6, [some 1, some 2, some 22, some 32, some 36, some 42, some 44, none, none, none, none])), .inr (.inr (3, [some 2, some 12, some 17, none, none, none, none, none, none, none, none, none, none, some 18, none, some 19, some 20, some 21])), .inr (.inr (5, [none, none, none, some 3, some 4, some 5, some 6, some 7, some 8, some 9, some 10, some 11])), .inl 16, .inl 16, .inl 48, .inl 16, .inl 256, .inl 256, .inl 256, .inl 256, .inl 192, .inr (.inr (0, [some 13, some 14, some 15, some 16])), .inl 4, .inl 128, .inl 32, .inl 32, .inl 30, .inl 804, .inl 16, .inl 16, .inl 16, .inr (.inr (5, [none, none, none, some 23, some 24, some 25, some 26, some 27, some 28, some 29, some 30, some 31])), .inl 16, .inl 16, .inl 48, .inl 16, .inl 256, .inl 256, .inl 256, .inl 256, .inl 192, .inr (.inr (4, [some 33, some 34, some 35])), .inl 8, .inl 8, .inr (.inl 1280), .inr (.inr (1, [some 37, none, some 38, none, some 39, some 40, some 41])), .inl 3, .inl 16, .inl 64, .inl 4, .inl 4, .inr (.inr (2, [none, some 43, none, none, none, none])), .inl 160, .inl 8]
def skM : List zE := [.inr (.inr (7, [none, some 1, some 2, some 3, some 4, some 5, some 6, some 7, some 8, some 9, none, some 10, none, some 11, some 12, some 13, none, none, none, none, none, some 14, some 15, some 16, some 17, some 18, some 19, none, none, none, none, none, none, none, some 20, some 21, some 22, some 23, none, none, some 24, some 25])), .inl 16, .inl 16, .inl 48, .inl 16, .inl 256, .inl 16, .inl 16, .inl 256, .inl 256, .inl 192, .inl 8, .inl 8, .inr (.inl 1280), .inl 3, .inl 8, .inl 68, .inl 4, .inl 4, .inl 17, .inl 30, .inl 30, .inl 128, .inl 4, .inl 1108, .inl 1108]
end
section
/-! THE SMALL MACHINE IS RIGHT: what it answers, the machine answers. -/
def zc (ad : Nat → Nat) : zV → Value
  | .inl x => .int x
  | .inr (.inl y) => .long y
  | .inr (.inr k) => .ref (ad k)
def zfv (ad : Nat → Nat) (σ : zS) (k j : Nat) : Option Nat → Value
  | some q => Value.ref (ad q)
  | none => Value.int (σ.1 k j)
def zfs (ad : Nat → Nat) (σ : zS) (k : Nat) (fs : List (Option Nat)) : List Value := fs.mapIdx (fun j f => zfv ad σ k j f)
def zcell (cI cJ : ClassId) (ad : Nat → Nat) (σ : zS) (k : Nat) : zE → va_E
  | .inl n => .inl (cI, n, .inl (σ.1 k))
  | .inr (.inl n) => .inl (cJ, n, .inr (.inl (σ.2 k)))
  | .inr (.inr o) => .inr (o.1, zfs ad σ k o.2)
def zW (cI cJ : ClassId) (ad : Nat → Nat) (sk : List zE) (σ : zS) : va_W := sk.mapIdx (fun k e => (ad k, zcell cI cJ ad σ k e))
theorem zW_get {cI cJ : ClassId} {ad : Nat → Nat} {sk : List zE} {σ : zS} {k : Nat} {e : zE} (h : sk[k]? = some e) : (zW cI cJ ad sk σ)[k]? = some (ad k, zcell cI cJ ad σ k e) := by
  simp [zW, List.getElem?_mapIdx, h]
theorem zW_set {cI cJ : ClassId} {ad : Nat → Nat} {sk : List zE} {σ σ' : zS} {q : Nat} {e : zE} (h : sk[q]? = some e) (ho : ∀ k e', k ≠ q → zcell cI cJ ad σ' k e' = zcell cI cJ ad σ k e') : (zW cI cJ ad sk σ).set q (ad q, zcell cI cJ ad σ' q e) = zW cI cJ ad sk σ' := by
  apply List.ext_getElem?
  intro k
  have hl : q < sk.length := (List.getElem?_eq_some_iff.mp h).1
  by_cases hk : k = q
  · subst hk
    rw [List.getElem?_set_self (by simp [zW]; exact hl), zW_get h]
  · rw [List.getElem?_set_ne (Ne.symm hk)]
    simp only [zW, List.getElem?_mapIdx]
    cases hs : sk[k]? with
    | none => rfl
    | some e' => simp [ho k e' hk]
theorem zup_ne {α : Type} {f : Nat → Nat → α} {k q j : Nat} {v : α} (h : k ≠ q) : zup f q j v k = f k := by
  funext b
  simp [zup, h]
theorem zup_eq (f : Nat → Nat → Int32) (q j : Nat) (v : Int32) : zup f q j v q = upd (f q) j v := by
  funext b
  simp [zup, upd]
theorem zup_eqL (f : Nat → Nat → Int64) (q j : Nat) (v : Int64) : zup f q j v q = vp_updL (f q) j v := by
  funext b
  simp [zup, vp_updL]
theorem zcp_ne {α : Type} {f : Nat → Nat → α} {a b sp dp n k : Nat} (h : k ≠ b) : zcp f a b sp dp n k = f k := by
  funext j
  simp [zcp, h]
theorem zcp_eq {α : Type} (f : Nat → Nat → α) (a b sp dp n : Nat) : zcp f a b sp dp n b = va_cpy (f a) (f b) sp dp n := by
  funext j
  simp [zcp]
theorem zcell_zs {cI cJ : ClassId} {ad : Nat → Nat} {σ : zS} {q j : Nat} {v : Int32} (k : Nat) (e : zE) (h : k ≠ q) : zcell cI cJ ad (zs σ q j v) k e = zcell cI cJ ad σ k e := by
  rcases e with n | n | o
  · simp only [zcell, zs, zup_ne h]
  · rfl
  · simp only [zcell, zfs, zfv, zs, zup_ne h]
theorem zcell_zsl {cI cJ : ClassId} {ad : Nat → Nat} {σ : zS} {q j : Nat} {v : Int64} (k : Nat) (e : zE) (h : k ≠ q) : zcell cI cJ ad (zsl σ q j v) k e = zcell cI cJ ad σ k e := by
  rcases e with n | n | o
  · rfl
  · simp only [zcell, zsl, zup_ne h]
  · rfl
theorem zcell_zsc {cI cJ : ClassId} {ad : Nat → Nat} {σ : zS} {a b sp dp n : Nat} (k : Nat) (e : zE) (h : k ≠ b) : zcell cI cJ ad (zsc σ a b sp dp n) k e = zcell cI cJ ad σ k e := by
  rcases e with m | m | o
  · simp only [zcell, zsc, zcp_ne h]
  · rfl
  · simp only [zcell, zfs, zfv, zsc, zcp_ne h]
theorem zcell_zslc {cI cJ : ClassId} {ad : Nat → Nat} {σ : zS} {a b sp dp n : Nat} (k : Nat) (e : zE) (h : k ≠ b) : zcell cI cJ ad (zslc σ a b sp dp n) k e = zcell cI cJ ad σ k e := by
  rcases e with m | m | o
  · rfl
  · simp only [zcell, zslc, zcp_ne h]
  · rfl
theorem zfs_get {ad : Nat → Nat} {σ : zS} {k j : Nat} {fs : List (Option Nat)} {o : Option Nat} (h : fs[j]? = some o) : (zfs ad σ k fs)[j]? = some (zfv ad σ k j o) := by
  simp only [zfs, List.getElem?_mapIdx, h]
  rfl
theorem zfs_set {ad : Nat → Nat} {σ : zS} {k j : Nat} {fs : List (Option Nat)} {x : Int32} (h : fs[j]? = some none) : (zfs ad σ k fs).set j (.int x) = zfs ad (zs σ k j x) k fs := by
  apply List.ext_getElem?
  intro i
  have hl : j < fs.length := (List.getElem?_eq_some_iff.mp h).1
  by_cases hk : i = j
  · subst hk
    rw [List.getElem?_set_self (by simp [zfs]; exact hl), zfs_get h]
    simp [zfv, zs, zup]
  · rw [List.getElem?_set_ne (Ne.symm hk)]
    simp only [zfs, List.getElem?_mapIdx]
    cases hs : fs[i]? with
    | none => rfl
    | some o =>
      cases o with
      | some q => rfl
      | none => simp [zfv, zs, zup, hk]
/-! the locals -/
def zloc (ad : Nat → Nat) (nL : Nat) (l : zL) (ls : Array Slot) : Prop := ls.size = nL ∧ lv_wf ls ∧ ∀ (i : Nat) (v : zV), l[i]? = some (some v) → ls[i]? = some (Slot.val (zc ad v))
def zas (ad : Nat → Nat) (l : zL) : List (Nat × Value) := (List.range l.length).filterMap (fun i => match l[i]? with
  | some (some v) => some (i, zc ad v)
  | _ => none)
theorem zas_mem {ad : Nat → Nat} {l : zL} {q : Nat × Value} : q ∈ zas ad l ↔ ∃ v, l[q.1]? = some (some v) ∧ q.2 = zc ad v := by
  constructor
  · intro h
    obtain ⟨i, -, hi⟩ := List.mem_filterMap.mp h
    split at hi
    next v hv =>
      cases hi
      exact ⟨v, hv, rfl⟩
    next => cases hi
  · rintro ⟨v, hv, hq⟩
    refine List.mem_filterMap.mpr ⟨q.1, List.mem_range.mpr (List.getElem?_eq_some_iff.mp hv).1, ?_⟩
    simp [hv, ← hq]
theorem zloc.has {ad : Nat → Nat} {nL : Nat} {l : zL} {ls : Array Slot} (h : zloc ad nL l ls) : lv_has ls nL (zas ad l) :=
  ⟨h.1, h.2.1, fun q hq => by obtain ⟨v, hv, e⟩ := zas_mem.mp hq; rw [e]; exact h.2.2 _ _ hv⟩
theorem zc_cat (ad : Nat → Nat) (v : zV) : (zc ad v).category = zw v := by
  rcases v with x | y | k <;> rfl
theorem zloc_set {ad : Nat → Nat} {nL : Nat} {l : zL} {ls ls' : Array Slot} {i : Nat} {x : Int32} (h : zloc ad nL l ls) (hf : zfree l i = true)
    (h' : lv_has ls' nL ((i, Value.int x) :: (zas ad l).filter (fun q => !(q.1 == i) && !(q.1 + 1 == i && q.2.category == 2)))) : zloc ad nL (l.set i (some (.inl x))) ls' := by
  refine ⟨h'.1, h'.2.1, fun j v hv => ?_⟩
  by_cases hj : j = i
  · subst hj
    have hlt : j < l.length := by
      have := (List.getElem?_eq_some_iff.mp hv).1
      simpa using this
    rw [List.getElem?_set_self hlt] at hv
    cases hv
    exact h'.2.2 (j, .int x) List.mem_cons_self
  · rw [List.getElem?_set_ne (Ne.symm hj)] at hv
    refine h'.2.2 (j, zc ad v) (List.mem_cons_of_mem _ (List.mem_filter.mpr ⟨zas_mem.mpr ⟨v, hv, rfl⟩, ?_⟩))
    have h2 : ¬ (j + 1 = i ∧ (zc ad v).category = 2) := by
      rintro ⟨e1, e2⟩
      subst e1
      rcases v with y | y | y
      · simp [zc, Value.category] at e2
      · simp [zfree, hv] at hf
      · simp [zc, Value.category] at e2
    simp only [Bool.and_eq_true, Bool.not_eq_true', beq_eq_false_iff_ne, ne_eq, hj, not_false_eq_true, true_and, Bool.and_eq_false_iff]
    by_cases e1 : j + 1 = i
    · exact Or.inr (fun e2 => h2 ⟨e1, by simpa using e2⟩)
    · exact Or.inl e1
theorem zloc_mask {ad : Nat → Nat} {nL : Nat} {ls : Array Slot} : ∀ (is : List Nat) {l : zL}, zloc ad nL l ls → zloc ad nL (zmask is l) ls
  | [], _, h => h
  | i :: is, l, h => zloc_mask is (l := l.set i none) ⟨h.1, h.2.1, fun j v hv => by
      by_cases hj : j = i
      · subst hj
        rw [List.getElem?_set] at hv
        split at hv
        · split at hv <;> cases hv
        · exact absurd rfl (by assumption)
      · rw [List.getElem?_set_ne (Ne.symm hj)] at hv
        exact h.2.2 j v hv⟩
theorem zargs_get (ad : Nat → Nat) : ∀ (vs : List zV) (b i : Nat) (v : zV), (zargs vs)[i]? = some (some v) → (b + i, zc ad v) ∈ lv_args b (vs.map (zc ad))
  | [], b, i, v, h => by simp [zargs] at h
  | .inl x :: vs, b, i, v, h => by
    cases i with
    | zero => simp only [zargs, List.getElem?_cons_zero] at h; cases h; exact List.mem_cons_self
    | succ i =>
      simp only [zargs, List.getElem?_cons_succ] at h
      have := zargs_get ad vs (b + 1) i v h
      refine List.mem_cons_of_mem _ ?_
      simpa [zc, Value.category, Nat.add_comm, Nat.add_left_comm, Nat.add_assoc] using this
  | .inr (.inr x) :: vs, b, i, v, h => by
    cases i with
    | zero => simp only [zargs, List.getElem?_cons_zero] at h; cases h; exact List.mem_cons_self
    | succ i =>
      simp only [zargs, List.getElem?_cons_succ] at h
      have := zargs_get ad vs (b + 1) i v h
      refine List.mem_cons_of_mem _ ?_
      simpa [zc, Value.category, Nat.add_comm, Nat.add_left_comm, Nat.add_assoc] using this
  | .inr (.inl x) :: vs, b, i, v, h => by
    cases i with
    | zero => simp only [zargs, List.getElem?_cons_zero] at h; cases h; exact List.mem_cons_self
    | succ i =>
      cases i with
      | zero => simp [zargs] at h
      | succ i =>
        simp only [zargs, List.getElem?_cons_succ] at h
        have := zargs_get ad vs (b + 2) i v h
        refine List.mem_cons_of_mem _ ?_
        simpa [zc, Value.category, Nat.add_comm, Nat.add_left_comm, Nat.add_assoc] using this
theorem zargs_len (ad : Nat → Nat) : ∀ (vs : List zV), (lg_sl (vs.map (zc ad))).length = (zargs vs).length
  | [] => rfl
  | .inl x :: vs => by
    have := zargs_len ad vs
    simp only [lg_sl, List.map_cons, List.flatMap_cons, List.length_append, zargs, List.length_cons] at this ⊢
    rw [this]; simp [zc, Value.category]; omega
  | .inr (.inr x) :: vs => by
    have := zargs_len ad vs
    simp only [lg_sl, List.map_cons, List.flatMap_cons, List.length_append, zargs, List.length_cons] at this ⊢
    rw [this]; simp [zc, Value.category]; omega
  | .inr (.inl x) :: vs => by
    have := zargs_len ad vs
    simp only [lg_sl, List.map_cons, List.flatMap_cons, List.length_append, zargs, List.length_cons] at this ⊢
    rw [this]; simp [zc, Value.category]; omega
theorem zloc_entry (ad : Nat → Nat) (vs : List zV) (n : Nat) (h : (zargs vs).length ≤ n) : zloc ad n (zfill n (zargs vs)) ((lg_sl (vs.map (zc ad)) ++ List.replicate (n - (lg_sl (vs.map (zc ad))).length) Slot.unset).toArray) := by
  have hv := lv_entry (vs.map (zc ad)) (n := n) (by rw [zargs_len]; exact h)
  refine ⟨hv.1, hv.2.1, fun i v hi => ?_⟩
  have h1 : (zargs vs)[i]? = some (some v) := by
    unfold zfill at hi
    by_cases hl : i < (zargs vs).length
    · rwa [List.getElem?_append_left hl] at hi
    · rw [List.getElem?_append_right (by omega), List.getElem?_replicate] at hi
      split at hi <;> cases hi
  have := hv.2.2 _ (zargs_get ad vs 0 i v h1)
  simpa using this
end
section
/-! ONE INSTRUCTION. What a table must be for its code (zspec), and that a step of the small machine is a step of the machine. -/
/-- the words that hold of any state of the launch -/
def zTb : List Cond := lw_tbl.filter goodWord
def zwd (a b : Nat) (w : Cond) : Bool := match a with
  | 1 => goodWord w && decide (tables_1_1[b]? = some w)
  | 2 => goodWord w && decide (tables_1_2[b]? = some w)
  | 3 => goodWord w && decide (tables_1_3[b]? = some w)
  | 4 => goodWord w && decide (tables_1_4[b]? = some w)
  | 5 => goodWord w && decide (tables_1_5[b]? = some w)
  | 6 => goodWord w && decide (tables_1_6[b]? = some w)
  | _ => false
theorem zwd_ok {a b : Nat} {w : Cond} (h : zwd a b w = true) : w ∈ zTb := by
  have key : w ∈ tables_1 ∧ goodWord w = true := by
    unfold zwd at h
    unfold tables_1
    simp only [List.mem_append]
    split at h <;> first
      | (simp only [Bool.and_eq_true] at h
         have h1 := List.mem_of_getElem? (of_decide_eq_true h.2)
         exact ⟨by simp [h1], h.1⟩)
      | (cases h)
  refine List.mem_filter.mpr ⟨?_, key.2⟩
  unfold lw_tbl
  exact List.mem_append_right _ key.1
/-- the one call of a nest mate's private static method -/
def zNw : Cond := .methodLinkNest "ProtoOrders$Reader" 54 yX6_isKind "ProtoOrders"
def zNk (U : State) : Prop := va_Nw zNw U
theorem zNk.warm {s U : State} (hW : s.WarmedH U.vm) (h : zNk s) : zNk U := va_Nw.warmM hW h
def zfall (es : zT) (pc : Nat) : Bool := match es with
  | e :: _ => Nat.beq e.1 pc
  | [] => false
def ztgt (T : zT) (a : Nat) (pc : Nat) (off : Int) : Bool := match T[a]? with
  | some e => decide ((pc : Int) + off = (e.1 : Int))
  | none => false
def ztgts (T : zT) (pc : Nat) : List Nat → List Int → Bool
  | [], [] => true
  | a :: as, o :: os => ztgt T a pc o && ztgts T pc as os
  | _, _ => false
def zdec (b : ByteArray) (pc : Nat) (i : Instr) (n : Nat) : Bool := decide (decode b pc = .ok (i, n))
def zspec (Ms : List zMeth) (own : String) (b : ByteArray) (nL : Nat) (T : zT) (pc : Nat) (i : Instr) (v : Int32) (w : Int64) (aux : List Nat) (es : zT) : Bool := match i with
  | .iconst n => zdec b pc i 1 && zfall es (pc + 1) && decide (Int32.ofInt n = v)
  | .bipush n => zdec b pc i 2 && zfall es (pc + 2) && decide ((Int8.ofInt n).toInt32 = v)
  | .sipush n => zdec b pc i 3 && zfall es (pc + 3) && decide ((Int16.ofInt n).toInt32 = v)
  | .ldc x => zdec b pc i 2 && zfall es (pc + 2) && (match aux with
    | a1 :: a2 :: _ => zwd a1 a2 (.constant own x v)
    | _ => false)
  | .ldc_w x => zdec b pc i 3 && zfall es (pc + 3) && (match aux with
    | a1 :: a2 :: _ => zwd a1 a2 (.constant own x v)
    | _ => false)
  | .ldc2_w x => zdec b pc i 3 && zfall es (pc + 3) && (match aux with
    | a1 :: a2 :: _ => zwd a1 a2 (.constantLong own x w)
    | _ => false)
  | .lconst n => zdec b pc i 1 && zfall es (pc + 1) && decide (Int64.ofNat (n : Nat) = w)
  | .iload _ => zdec b pc i 2 && zfall es (pc + 2)
  | .aload _ => zdec b pc i 2 && zfall es (pc + 2)
  | .lload _ => zdec b pc i 2 && zfall es (pc + 2)
  | .istore x => zdec b pc i 2 && zfall es (pc + 2) && decide (x < nL)
  | .istore_n x => zdec b pc i 1 && zfall es (pc + 1) && decide ((x : Nat) < nL)
  | .iinc x n => zdec b pc i 3 && zfall es (pc + 3) && decide (Int32.ofInt n = v) && decide (x < nL)
  | .goto off => zdec b pc i 3 && (match aux with
    | a :: _ => ztgt T a pc off
    | _ => false)
  | .ifCond _ off => zdec b pc i 3 && zfall es (pc + 3) && (match aux with
    | a :: _ => ztgt T a pc off
    | _ => false)
  | .if_icmp _ off => zdec b pc i 3 && zfall es (pc + 3) && (match aux with
    | a :: _ => ztgt T a pc off
    | _ => false)
  | .tableswitch d lo hi offs => (match aux with
    | n :: a :: as => zdec b pc i n && decide (Int32.ofInt lo = v) && decide (lo + (offs.toList.length : Int) = hi + 1) && decide (-1000 ≤ lo) && decide (hi ≤ 1000) && ztgt T a pc d && ztgts T pc as offs.toList
    | _ => false)
  | .getfield x => zdec b pc i 3 && zfall es (pc + 3) && (match aux with
    | ci :: j :: a1 :: a2 :: _ => match vwCl[ci]? with
      | some q => decide (j < q.2.2) && decide ((q.2.1 j).1 = q.1) && zwd a1 a2 (.fieldLink own x q.1 (q.2.1 j).2.1 (q.2.1 j).2.2.1)
      | none => false
    | _ => false)
  | .putfield x => zdec b pc i 3 && zfall es (pc + 3) && (match aux with
    | ci :: j :: z :: a1 :: a2 :: _ => match vwCl[ci]? with
      | some q => decide (j < q.2.2) && decide ((q.2.1 j).1 = q.1) && decide ((q.2.1 j).2.2.2 = false) && zwd a1 a2 (.fieldLink own x q.1 (q.2.1 j).2.1 (q.2.1 j).2.2.1) && decide ((q.2.1 j).2.2.1 = if z = 0 then "I" else "Z")
      | none => false
    | _ => false)
  | .invokevirtual x => zdec b pc i 3 && zfall es (pc + 3) && (match aux with
    | m :: n :: r :: ci :: a1 :: a2 :: _ => match Ms[m]? with
      | some y => zwd a1 a2 (.methodLink own x y.1) && decide (y.2.2.2.2.1 = n) && decide (y.2.2.2.2.2.1 = false) && decide ((vwCl[ci]?).map (fun q => q.1) = some y.1.cls) && decide (r = y.2.2.2.2.2.2.1)
      | none => false
    | [] => true
    | _ => false)
  | .invokestatic x => zdec b pc i 3 && zfall es (pc + 3) && (match aux with
    | m :: n :: r :: z :: a1 :: a2 :: _ => match Ms[m]? with
      | some y => (if z = 0 then zwd a1 a2 (.methodLink own x y.1) else decide (Cond.methodLinkNest own x y.1 "ProtoOrders" = zNw)) && decide (y.2.2.2.2.1 = n) && decide (y.2.2.2.2.2.1 = true) && decide (r = y.2.2.2.2.2.2.1)
      | none => false
    | [a1, a2] => zwd a1 a2 (.methodLink own x arraycopyName)
    | _ => false)
  | .ireturn => zdec b pc i 1
  | .lreturn => zdec b pc i 1
  | .return_ => zdec b pc i 1
  | .new _ => true
  | .athrow => true
  | .invokespecial _ => true
  | _ => zdec b pc i 1 && zfall es (pc + 1)
/-- what holds of a method's table -/
def zmok (Ms : List zMeth) (y : zMeth) : Prop := plainFor y.1 = true ∧ (y.1.cls ≠ "java/lang/invoke/MethodHandle" ∧ y.1.cls ≠ "java/lang/invoke/VarHandle") ∧ Cond.code y.1 y.2.1 y.2.2.1 y.2.2.2.1 ∈ zTb ∧ Cond.initialized y.1.cls ∈ zTb ∧ (parseMethodDescriptor y.1.desc).map (fun d => d.parameters.length) = some y.2.2.2.2.1 ∧
  (if y.2.2.2.2.2.1 = true then Cond.static y.1 ∈ zTb else (Cond.instanceMethod y.1 ∈ zTb ∧ Cond.selects y.1.cls y.1 y.1 ∈ zTb)) ∧
  y.2.2.2.1 = (match y.2.2.2.2.2.2.1 with
    | 0 => none
    | 1 => some .int
    | 2 => some .long
    | _ => some .boolean) ∧ y.2.2.1 ≤ 10 ∧ ((y.2.2.2.2.2.2.2[0]?).map (fun e => e.1) = some 0) ∧ (∀ n e, y.2.2.2.2.2.2.2[n]? = some e → e.2.2.1 = 0 ∨ e.2.2.1 = n + 1) ∧
  ∀ n e, y.2.2.2.2.2.2.2[n]? = some e → zspec Ms y.1.cls y.2.1 y.2.2.1 y.2.2.2.2.2.2.2 e.1 e.2.1 e.2.2.2.1 e.2.2.2.2.1 e.2.2.2.2.2.1 (y.2.2.2.2.2.2.2.drop (n + 1)) = true
/-- by program: all rows of a table -/
def zall (Ms : List zMeth) (own : String) (b : ByteArray) (nL : Nat) (T : zT) : zT → Bool
  | [] => true
  | e :: es => zspec Ms own b nL T e.1 e.2.1 e.2.2.2.1 e.2.2.2.2.1 e.2.2.2.2.2.1 es && zall Ms own b nL T es
theorem zall_ok {Ms : List zMeth} {own : String} {b : ByteArray} {nL : Nat} {T : zT} : ∀ (es : zT), zall Ms own b nL T es = true → ∀ n e, es[n]? = some e → zspec Ms own b nL T e.1 e.2.1 e.2.2.2.1 e.2.2.2.2.1 e.2.2.2.2.2.1 (es.drop (n + 1)) = true
  | [], _, n, e, h => by simp at h
  | e0 :: es, ha, n, e, h => by
    simp only [zall, Bool.and_eq_true] at ha
    cases n with
    | zero =>
      simp only [List.getElem?_cons_zero, Option.some.injEq] at h
      subst h
      exact ha.1
    | succ n =>
      simp only [List.getElem?_cons_succ] at h
      exact zall_ok es ha.2 n e h
def zcuts : Nat → zT → Bool
  | _, [] => true
  | n, e :: es => (Nat.beq e.2.2.1 0 || Nat.beq e.2.2.1 (n + 1)) && zcuts (n + 1) es
theorem zcuts_ok : ∀ (es : zT) (b : Nat), zcuts b es = true → ∀ n e, es[n]? = some e → e.2.2.1 = 0 ∨ e.2.2.1 = b + n + 1
  | [], _, _, n, e, h => by simp at h
  | e0 :: es, b, ha, n, e, h => by
    simp only [zcuts, Bool.and_eq_true, Bool.or_eq_true] at ha
    cases n with
    | zero =>
      simp only [List.getElem?_cons_zero, Option.some.injEq] at h
      subst h
      rcases ha.1 with h1 | h1
      · exact Or.inl (Nat.eq_of_beq_eq_true h1)
      · exact Or.inr (Nat.eq_of_beq_eq_true h1)
    | succ n =>
      simp only [List.getElem?_cons_succ] at h
      have := zcuts_ok es (b + 1) ha.2 n e h
      omega
def zB (D : va_G) (cI cJ : ClassId) (ad : Nat → Nat) (sk : List zE) (A : Nat → Prop) (σ : zS) : Unit → State → Prop := fun _ t => va_P D vwCl (zW cI cJ ad sk σ) t.heap ∧ va_K D vwCl [(cI, .int), (cJ, .long)] t ∧ va_D A (zW cI cJ ad sk σ)
def zQ (D : va_G) (cI cJ : ClassId) (ad : Nat → Nat) (sk : List zE) (res : Option zV × zS) (A : Nat → Prop) : Array Value → State → Outcome → State → Prop := match res.1 with
  | none => va_Qv (fun _ : Unit => True) (zB D cI cJ ad sk A res.2) A
  | some (.inl x) => va_Qi (fun (r : Int32) (_ : Unit) => r = x) (zB D cI cJ ad sk A res.2) A
  | some (.inr (.inl x)) => va_Ql (fun (r : Int64) (_ : Unit) => r = x) (zB D cI cJ ad sk A res.2) A
  | some (.inr (.inr _)) => fun _ _ _ _ => False
def zMet (l : Launch) (D : va_G) (cI cJ : ClassId) (ad : Nat → Nat) (sk : List zE) (rm : Room) (y : zMeth) (as : List zV) (σ : zS) (res : Option zV × zS) : Prop := ∀ sz : Nat,
  Met l y.1 (.code y.1 y.2.1 y.2.2.1 y.2.2.2.1 :: zTb) rm (va_Pc (as.map (zc ad)) (fun U => U.heap.size = sz ∧ va_P D vwCl (zW cI cJ ad sk σ) U.heap ∧ va_K D vwCl [(cI, .int), (cJ, .long)] U ∧ va_D (fun _ => True) (zW cI cJ ad sk σ) ∧ zNk U))
    (zQ D cI cJ ad sk res (va_A (zW cI cJ ad sk σ) sz)) 0 0 (va_A (zW cI cJ ad sk σ) sz)
def zrm (d : Nat) : Room := { frames := d, cells := 0, slots := 0, locals := 40 * d }
set_option maxRecDepth 100000 in
theorem zu_0 : ∀ w ∈ u_ws RX0 TX0 4, w ∈ zTb := List.forall_mem_cons.mpr ⟨zwd_ok (a := 1) (b := 101) (by decide +kernel), List.forall_mem_cons.mpr ⟨zwd_ok (a := 1) (b := 103) (by decide +kernel), List.forall_mem_cons.mpr ⟨zwd_ok (a := 1) (b := 105) (by decide +kernel), List.forall_mem_cons.mpr ⟨zwd_ok (a := 1) (b := 107) (by decide +kernel), fun _ h => absurd h List.not_mem_nil⟩⟩⟩⟩
set_option maxRecDepth 100000 in
theorem zu_1 : ∀ w ∈ u_ws RX1 TX1 7, w ∈ zTb := List.forall_mem_cons.mpr ⟨zwd_ok (a := 1) (b := 216) (by decide +kernel), List.forall_mem_cons.mpr ⟨zwd_ok (a := 1) (b := 218) (by decide +kernel), List.forall_mem_cons.mpr ⟨zwd_ok (a := 1) (b := 220) (by decide +kernel), List.forall_mem_cons.mpr ⟨zwd_ok (a := 1) (b := 222) (by decide +kernel), List.forall_mem_cons.mpr ⟨zwd_ok (a := 1) (b := 224) (by decide +kernel), List.forall_mem_cons.mpr ⟨zwd_ok (a := 1) (b := 226) (by decide +kernel), List.forall_mem_cons.mpr ⟨zwd_ok (a := 1) (b := 228) (by decide +kernel), fun _ h => absurd h List.not_mem_nil⟩⟩⟩⟩⟩⟩⟩
set_option maxRecDepth 100000 in
theorem zu_2 : ∀ w ∈ u_ws RX2 TX2 6, w ∈ zTb := List.forall_mem_cons.mpr ⟨zwd_ok (a := 2) (b := 4) (by decide +kernel), List.forall_mem_cons.mpr ⟨zwd_ok (a := 2) (b := 6) (by decide +kernel), List.forall_mem_cons.mpr ⟨zwd_ok (a := 2) (b := 8) (by decide +kernel), List.forall_mem_cons.mpr ⟨zwd_ok (a := 2) (b := 10) (by decide +kernel), List.forall_mem_cons.mpr ⟨zwd_ok (a := 2) (b := 12) (by decide +kernel), List.forall_mem_cons.mpr ⟨zwd_ok (a := 2) (b := 14) (by decide +kernel), fun _ h => absurd h List.not_mem_nil⟩⟩⟩⟩⟩⟩
set_option maxRecDepth 100000 in
theorem zu_3 : ∀ w ∈ u_ws RX3 TX3 18, w ∈ zTb := List.forall_mem_cons.mpr ⟨zwd_ok (a := 1) (b := 134) (by decide +kernel), List.forall_mem_cons.mpr ⟨zwd_ok (a := 1) (b := 136) (by decide +kernel), List.forall_mem_cons.mpr ⟨zwd_ok (a := 1) (b := 138) (by decide +kernel), List.forall_mem_cons.mpr ⟨zwd_ok (a := 1) (b := 140) (by decide +kernel), List.forall_mem_cons.mpr ⟨zwd_ok (a := 1) (b := 142) (by decide +kernel), List.forall_mem_cons.mpr ⟨zwd_ok (a := 1) (b := 144) (by decide +kernel), List.forall_mem_cons.mpr ⟨zwd_ok (a := 1) (b := 146) (by decide +kernel), List.forall_mem_cons.mpr ⟨zwd_ok (a := 1) (b := 148) (by decide +kernel), List.forall_mem_cons.mpr ⟨zwd_ok (a := 1) (b := 150) (by decide +kernel), List.forall_mem_cons.mpr ⟨zwd_ok (a := 1) (b := 152) (by decide +kernel), List.forall_mem_cons.mpr ⟨zwd_ok (a := 1) (b := 154) (by decide +kernel), List.forall_mem_cons.mpr ⟨zwd_ok (a := 1) (b := 156) (by decide +kernel), List.forall_mem_cons.mpr ⟨zwd_ok (a := 1) (b := 158) (by decide +kernel), List.forall_mem_cons.mpr ⟨zwd_ok (a := 1) (b := 160) (by decide +kernel), List.forall_mem_cons.mpr ⟨zwd_ok (a := 1) (b := 162) (by decide +kernel), List.forall_mem_cons.mpr ⟨zwd_ok (a := 1) (b := 164) (by decide +kernel), List.forall_mem_cons.mpr ⟨zwd_ok (a := 1) (b := 166) (by decide +kernel), List.forall_mem_cons.mpr ⟨zwd_ok (a := 1) (b := 168) (by decide +kernel), fun _ h => absurd h List.not_mem_nil⟩⟩⟩⟩⟩⟩⟩⟩⟩⟩⟩⟩⟩⟩⟩⟩⟩⟩
set_option maxRecDepth 100000 in
theorem zu_4 : ∀ w ∈ u_ws RX4 TX4 3, w ∈ zTb := List.forall_mem_cons.mpr ⟨zwd_ok (a := 1) (b := 188) (by decide +kernel), List.forall_mem_cons.mpr ⟨zwd_ok (a := 1) (b := 190) (by decide +kernel), List.forall_mem_cons.mpr ⟨zwd_ok (a := 1) (b := 192) (by decide +kernel), fun _ h => absurd h List.not_mem_nil⟩⟩⟩
set_option maxRecDepth 100000 in
theorem zu_5 : ∀ w ∈ u_ws RX5 TX5 12, w ∈ zTb := List.forall_mem_cons.mpr ⟨zwd_ok (a := 1) (b := 63) (by decide +kernel), List.forall_mem_cons.mpr ⟨zwd_ok (a := 1) (b := 65) (by decide +kernel), List.forall_mem_cons.mpr ⟨zwd_ok (a := 1) (b := 67) (by decide +kernel), List.forall_mem_cons.mpr ⟨zwd_ok (a := 1) (b := 69) (by decide +kernel), List.forall_mem_cons.mpr ⟨zwd_ok (a := 1) (b := 71) (by decide +kernel), List.forall_mem_cons.mpr ⟨zwd_ok (a := 1) (b := 73) (by decide +kernel), List.forall_mem_cons.mpr ⟨zwd_ok (a := 1) (b := 75) (by decide +kernel), List.forall_mem_cons.mpr ⟨zwd_ok (a := 1) (b := 77) (by decide +kernel), List.forall_mem_cons.mpr ⟨zwd_ok (a := 1) (b := 79) (by decide +kernel), List.forall_mem_cons.mpr ⟨zwd_ok (a := 1) (b := 81) (by decide +kernel), List.forall_mem_cons.mpr ⟨zwd_ok (a := 1) (b := 83) (by decide +kernel), List.forall_mem_cons.mpr ⟨zwd_ok (a := 1) (b := 85) (by decide +kernel), fun _ h => absurd h List.not_mem_nil⟩⟩⟩⟩⟩⟩⟩⟩⟩⟩⟩⟩
set_option maxRecDepth 100000 in
theorem zu_6 : ∀ w ∈ u_ws RX6 TX6 11, w ∈ zTb := List.forall_mem_cons.mpr ⟨zwd_ok (a := 2) (b := 28) (by decide +kernel), List.forall_mem_cons.mpr ⟨zwd_ok (a := 2) (b := 30) (by decide +kernel), List.forall_mem_cons.mpr ⟨zwd_ok (a := 2) (b := 32) (by decide +kernel), List.forall_mem_cons.mpr ⟨zwd_ok (a := 2) (b := 34) (by decide +kernel), List.forall_mem_cons.mpr ⟨zwd_ok (a := 2) (b := 36) (by decide +kernel), List.forall_mem_cons.mpr ⟨zwd_ok (a := 2) (b := 38) (by decide +kernel), List.forall_mem_cons.mpr ⟨zwd_ok (a := 2) (b := 40) (by decide +kernel), List.forall_mem_cons.mpr ⟨zwd_ok (a := 2) (b := 42) (by decide +kernel), List.forall_mem_cons.mpr ⟨zwd_ok (a := 2) (b := 44) (by decide +kernel), List.forall_mem_cons.mpr ⟨zwd_ok (a := 2) (b := 46) (by decide +kernel), List.forall_mem_cons.mpr ⟨zwd_ok (a := 2) (b := 48) (by decide +kernel), fun _ h => absurd h List.not_mem_nil⟩⟩⟩⟩⟩⟩⟩⟩⟩⟩⟩
set_option maxRecDepth 100000 in
theorem zu_7 : ∀ w ∈ u_ws RX7 TX7 42, w ∈ zTb := List.forall_mem_cons.mpr ⟨zwd_ok (a := 4) (b := 172) (by decide +kernel), List.forall_mem_cons.mpr ⟨zwd_ok (a := 4) (b := 174) (by decide +kernel), List.forall_mem_cons.mpr ⟨zwd_ok (a := 4) (b := 176) (by decide +kernel), List.forall_mem_cons.mpr ⟨zwd_ok (a := 4) (b := 178) (by decide +kernel), List.forall_mem_cons.mpr ⟨zwd_ok (a := 4) (b := 180) (by decide +kernel), List.forall_mem_cons.mpr ⟨zwd_ok (a := 4) (b := 182) (by decide +kernel), List.forall_mem_cons.mpr ⟨zwd_ok (a := 4) (b := 184) (by decide +kernel), List.forall_mem_cons.mpr ⟨zwd_ok (a := 4) (b := 186) (by decide +kernel), List.forall_mem_cons.mpr ⟨zwd_ok (a := 4) (b := 188) (by decide +kernel), List.forall_mem_cons.mpr ⟨zwd_ok (a := 4) (b := 190) (by decide +kernel), List.forall_mem_cons.mpr ⟨zwd_ok (a := 4) (b := 192) (by decide +kernel), List.forall_mem_cons.mpr ⟨zwd_ok (a := 4) (b := 194) (by decide +kernel), List.forall_mem_cons.mpr ⟨zwd_ok (a := 4) (b := 196) (by decide +kernel), List.forall_mem_cons.mpr ⟨zwd_ok (a := 4) (b := 198) (by decide +kernel), List.forall_mem_cons.mpr ⟨zwd_ok (a := 4) (b := 200) (by decide +kernel), List.forall_mem_cons.mpr ⟨zwd_ok (a := 4) (b := 202) (by decide +kernel), List.forall_mem_cons.mpr ⟨zwd_ok (a := 4) (b := 204) (by decide +kernel), List.forall_mem_cons.mpr ⟨zwd_ok (a := 4) (b := 206) (by decide +kernel), List.forall_mem_cons.mpr ⟨zwd_ok (a := 4) (b := 208) (by decide +kernel), List.forall_mem_cons.mpr ⟨zwd_ok (a := 4) (b := 210) (by decide +kernel), List.forall_mem_cons.mpr ⟨zwd_ok (a := 4) (b := 212) (by decide +kernel), List.forall_mem_cons.mpr ⟨zwd_ok (a := 4) (b := 214) (by decide +kernel), List.forall_mem_cons.mpr ⟨zwd_ok (a := 4) (b := 216) (by decide +kernel), List.forall_mem_cons.mpr ⟨zwd_ok (a := 4) (b := 218) (by decide +kernel), List.forall_mem_cons.mpr ⟨zwd_ok (a := 4) (b := 220) (by decide +kernel), List.forall_mem_cons.mpr ⟨zwd_ok (a := 4) (b := 222) (by decide +kernel), List.forall_mem_cons.mpr ⟨zwd_ok (a := 4) (b := 224) (by decide +kernel), List.forall_mem_cons.mpr ⟨zwd_ok (a := 4) (b := 226) (by decide +kernel), List.forall_mem_cons.mpr ⟨zwd_ok (a := 4) (b := 228) (by decide +kernel), List.forall_mem_cons.mpr ⟨zwd_ok (a := 4) (b := 230) (by decide +kernel), List.forall_mem_cons.mpr ⟨zwd_ok (a := 4) (b := 232) (by decide +kernel), List.forall_mem_cons.mpr ⟨zwd_ok (a := 4) (b := 234) (by decide +kernel), List.forall_mem_cons.mpr ⟨zwd_ok (a := 4) (b := 236) (by decide +kernel), List.forall_mem_cons.mpr ⟨zwd_ok (a := 4) (b := 238) (by decide +kernel), List.forall_mem_cons.mpr ⟨zwd_ok (a := 5) (b := 0) (by decide +kernel), List.forall_mem_cons.mpr ⟨zwd_ok (a := 5) (b := 2) (by decide +kernel), List.forall_mem_cons.mpr ⟨zwd_ok (a := 5) (b := 4) (by decide +kernel), List.forall_mem_cons.mpr ⟨zwd_ok (a := 5) (b := 6) (by decide +kernel), List.forall_mem_cons.mpr ⟨zwd_ok (a := 5) (b := 8) (by decide +kernel), List.forall_mem_cons.mpr ⟨zwd_ok (a := 5) (b := 10) (by decide +kernel), List.forall_mem_cons.mpr ⟨zwd_ok (a := 5) (b := 12) (by decide +kernel), List.forall_mem_cons.mpr ⟨zwd_ok (a := 5) (b := 14) (by decide +kernel), fun _ h => absurd h List.not_mem_nil⟩⟩⟩⟩⟩⟩⟩⟩⟩⟩⟩⟩⟩⟩⟩⟩⟩⟩⟩⟩⟩⟩⟩⟩⟩⟩⟩⟩⟩⟩⟩⟩⟩⟩⟩⟩⟩⟩⟩⟩⟩⟩
theorem ztbl_in : ∀ (ci : Nat) (q : vw_C), vwCl[ci]? = some q → (∀ w ∈ u_ws q.1 q.2.1 q.2.2, w ∈ zTb) ∧ ∃ ty : Nat → FieldType, (∀ k, k < q.2.2 → parseFieldDescriptor (q.2.1 k).2.2.1 = some (ty k)) ∧ ∀ a, a < q.2.2 → ∀ b, b < q.2.2 → a ≠ b → (q.2.1 a).2.1 ≠ (q.2.1 b).2.1 := by
  intro ci q h
  match ci, h with
  | 0, h => cases h; exact ⟨zu_0, tyX0, tyX0_ok, nmX0⟩
  | 1, h => cases h; exact ⟨zu_1, tyX1, tyX1_ok, nmX1⟩
  | 2, h => cases h; exact ⟨zu_2, tyX2, tyX2_ok, nmX2⟩
  | 3, h => cases h; exact ⟨zu_3, tyX3, tyX3_ok, nmX3⟩
  | 4, h => cases h; exact ⟨zu_4, tyX4, tyX4_ok, nmX4⟩
  | 5, h => cases h; exact ⟨zu_5, tyX5, tyX5_ok, nmX5⟩
  | 6, h => cases h; exact ⟨zu_6, tyX6, tyX6_ok, nmX6⟩
  | 7, h => cases h; exact ⟨zu_7, tyX7, tyX7_ok, nmX7⟩
  | n + 8, h => simp [vwCl] at h
theorem ztbl_good : ∀ w ∈ zTb, (w.onTables && w.keeps) = true ∨ ∃ ty, w = .arrayClass ty := fun _ hw => good_of_word (List.mem_filter.mp hw).2
end
section
section ZST
variable {p : Program} {l : Launch} {e : Env} {s : State} {m : MethodId} {args : Array Value} {below : List Frame} {meth : Method} {c : Code} {cc : ByteArray} {A : Nat → Prop} {D : va_G} {cI cJ : ClassId} {ad : Nat → Nat} {sk : List zE} {own : String} {nL : Nat} {Ms : List zMeth} {C : Nat → List zV → zS → zR} {T : zT} {rk d : Nat} {K : zK} {res : Option zV × zS} {ret0 : Option FieldType}
/-- what a place of the small machine is on the machine -/
def zAt (p : Program) (l : Launch) (e : Env) (R : Room) (s : State) (m : MethodId) (args : Array Value) (below : List Frame) (meth : Method) (c : Code) (A : Nat → Prop) (D : va_G) (cI cJ : ClassId) (ad : Nat → Nat) (sk : List zE) (nL : Nat) (Q : State → Prop) (pc : Nat) (lo : zL) (k : List zV) (σ : zS) : Prop :=
  ∀ (H : Heap) (locs : List Loc) (ls : Array Slot), va_P D vwCl (zW cI cJ ad sk σ) H → va_D A (zW cI cJ ad sk σ) → va_S A s.heap H locs → zloc ad nL lo ls → W p l e R s m args below meth c H locs 0 0 Q (F0 m pc ls (k.map (zc ad)))
theorem zfall_ok {es : zT} {pc : Nat} (h : zfall es pc = true) : ∃ e' es', es = e' :: es' ∧ e'.1 = pc := by
  unfold zfall at h
  split at h
  next e' es' => exact ⟨e', es', rfl, Nat.eq_of_beq_eq_true h⟩
  next => cases h
theorem ztgt_ok {T : zT} {a pc : Nat} {off : Int} (h : ztgt T a pc off = true) : ∃ e' es', T.drop a = e' :: es' ∧ (pc : Int) + off = (e'.1 : Int) := by
  unfold ztgt at h
  split at h
  next e' he =>
    obtain ⟨hl, he'⟩ := List.getElem?_eq_some_iff.mp he
    exact ⟨e', T.drop (a + 1), by rw [List.drop_eq_getElem_cons hl, he'], of_decide_eq_true h⟩
  next => cases h
theorem z1_inv {f : Int32 → Int32} {es : zT} {lo : zL} {k : List zV} {σ : zS} (h : z1 f K es lo k σ = some res) : ∃ x k', k = .inl x :: k' ∧ K es lo (.inl (f x) :: k') σ = some res := by
  unfold z1 at h
  split at h
  next x k' => exact ⟨x, k', rfl, h⟩
  next => cases h
theorem z2_inv {f : Int32 → Int32 → Int32} {es : zT} {lo : zL} {k : List zV} {σ : zS} (h : z2 f K es lo k σ = some res) : ∃ x y k', k = .inl y :: .inl x :: k' ∧ K es lo (.inl (f x y) :: k') σ = some res := by
  unfold z2 at h
  split at h
  next y x k' => exact ⟨x, y, k', rfl, h⟩
  next => cases h
theorem zl2_inv {f : Int64 → Int64 → Int64} {es : zT} {lo : zL} {k : List zV} {σ : zS} (h : zl2 f K es lo k σ = some res) : ∃ x y k', k = .inr (.inl y) :: .inr (.inl x) :: k' ∧ K es lo (.inr (.inl (f x y)) :: k') σ = some res := by
  unfold zl2 at h
  split at h
  next y x k' => exact ⟨x, y, k', rfl, h⟩
  next => cases h
theorem zldI_inv {i : Nat} {es : zT} {lo : zL} {k : List zV} {σ : zS} (h : zldI i K es lo k σ = some res) : ∃ x, lo[i]? = some (some (.inl x)) ∧ K es lo (.inl x :: k) σ = some res := by
  unfold zldI at h
  split at h
  next x hv => exact ⟨x, hv, h⟩
  next => cases h
theorem zldJ_inv {i : Nat} {es : zT} {lo : zL} {k : List zV} {σ : zS} (h : zldJ i K es lo k σ = some res) : ∃ x, lo[i]? = some (some (.inr (.inl x))) ∧ K es lo (.inr (.inl x) :: k) σ = some res := by
  unfold zldJ at h
  split at h
  next x hv => exact ⟨x, hv, h⟩
  next => cases h
theorem zldA_inv {i : Nat} {es : zT} {lo : zL} {k : List zV} {σ : zS} (h : zldA i K es lo k σ = some res) : ∃ x, lo[i]? = some (some (.inr (.inr x))) ∧ K es lo (.inr (.inr x) :: k) σ = some res := by
  unfold zldA at h
  split at h
  next x hv => exact ⟨x, hv, h⟩
  next => cases h
theorem zst_inv {i : Nat} {es : zT} {lo : zL} {k : List zV} {σ : zS} (h : zst i K es lo k σ = some res) : ∃ x k', k = .inl x :: k' ∧ zfree lo i = true ∧ K es (lo.set i (some (.inl x))) k' σ = some res := by
  unfold zst at h
  split at h
  next x k' =>
    split at h
    next hf => exact ⟨x, k', rfl, hf, h⟩
    next => cases h
  next => cases h
theorem zinc_inv {i : Nat} {v : Int32} {es : zT} {lo : zL} {k : List zV} {σ : zS} (h : zinc i v K es lo k σ = some res) : ∃ x, lo[i]? = some (some (.inl x)) ∧ zfree lo i = true ∧ K es (lo.set i (some (.inl (x + v)))) k σ = some res := by
  unfold zinc at h
  split at h
  next x hx =>
    split at h
    next hf => exact ⟨x, hx, hf, h⟩
    next => cases h
  next => cases h
theorem zif1_inv {c : Int32 → Prop} [DecidablePred c] {T : zT} {aux : List Nat} {es : zT} {lo : zL} {k : List zV} {σ : zS} (h : zif1 c T aux K es lo k σ = some res) : ∃ x k' a as, k = .inl x :: k' ∧ aux = a :: as ∧ (c x → K (T.drop a) lo k' σ = some res) ∧ (¬ c x → K es lo k' σ = some res) := by
  unfold zif1 at h
  split at h
  next x k' a as => exact ⟨x, k', a, as, rfl, rfl, fun hc => by rwa [if_pos hc] at h, fun hc => by rwa [if_neg hc] at h⟩
  next => cases h
theorem zif2_inv {c : Int32 → Int32 → Prop} [∀ x y, Decidable (c x y)] {T : zT} {aux : List Nat} {es : zT} {lo : zL} {k : List zV} {σ : zS} (h : zif2 c T aux K es lo k σ = some res) : ∃ x y k' a as, k = .inl y :: .inl x :: k' ∧ aux = a :: as ∧ (c x y → K (T.drop a) lo k' σ = some res) ∧ (¬ c x y → K es lo k' σ = some res) := by
  unfold zif2 at h
  split at h
  next y x k' a as => exact ⟨x, y, k', a, as, rfl, rfl, fun hc => by rwa [if_pos hc] at h, fun hc => by rwa [if_neg hc] at h⟩
  next => cases h
theorem zin_inv {i : Int32} {n : Nat} {r : zR} (h : zin i n r = some res) : vp_in i n ∧ r = some res := by
  unfold zin at h
  split at h
  next => cases h
  next hc => exact ⟨hc, h⟩
theorem zne_inv {y : Int32} {r : zR} (h : zne y r = some res) : ¬ y = 0 ∧ r = some res := by
  unfold zne at h
  split at h
  next => cases h
  next hc => exact ⟨hc, h⟩
theorem zbo_inv {y : Int32} {r : zR} (h : zbo y r = some res) : (y = 0 ∨ y = 1) ∧ r = some res := by
  unfold zbo at h
  split at h
  next hc => exact ⟨hc, h⟩
  next => cases h
theorem zgetf_inv {aux : List Nat} {es : zT} {lo : zL} {k : List zV} {σ : zS} (h : zgetf sk K aux es lo k σ = some res) : ∃ q k' ci j as fs o, k = .inr (.inr q) :: k' ∧ aux = ci :: j :: as ∧ sk[q]? = some (.inr (.inr (ci, fs))) ∧ fs[j]? = some o ∧ K es lo ((match o with
    | none => .inl (zg σ q j)
    | some r => .inr (.inr r)) :: k') σ = some res := by
  unfold zgetf at h
  split at h
  next q k' ci j as =>
    split at h
    next c fs hq =>
      split at h
      next hc =>
        have := Nat.eq_of_beq_eq_true hc
        subst this
        split at h
        next hj => exact ⟨q, k', _, j, as, fs, none, rfl, rfl, hq, hj, h⟩
        next r hj => exact ⟨q, k', _, j, as, fs, some r, rfl, rfl, hq, hj, h⟩
        next => cases h
      next => cases h
    next => cases h
  next => cases h
theorem zputf_inv {aux : List Nat} {es : zT} {lo : zL} {k : List zV} {σ : zS} (h : zputf sk K aux es lo k σ = some res) : ∃ x q k' ci j b as fs, k = .inl x :: .inr (.inr q) :: k' ∧ aux = ci :: j :: b :: as ∧ sk[q]? = some (.inr (.inr (ci, fs))) ∧ fs[j]? = some none ∧ (b = 0 ∨ (x = 0 ∨ x = 1)) ∧ K es lo k' (zs σ q j x) = some res := by
  unfold zputf at h
  split at h
  next x q k' ci j b as =>
    split at h
    next c fs hq =>
      split at h
      next hc =>
        have := Nat.eq_of_beq_eq_true hc
        subst this
        split at h
        next hj =>
          split at h
          next => exact ⟨x, q, k', _, j, 0, as, fs, rfl, rfl, hq, hj, Or.inl rfl, h⟩
          next => exact ⟨x, q, k', _, j, b, as, fs, rfl, rfl, hq, hj, Or.inr (zbo_inv h).1, (zbo_inv h).2⟩
        next => cases h
      next => cases h
    next => cases h
  next => cases h
theorem ziald_inv {es : zT} {lo : zL} {k : List zV} {σ : zS} (h : ziald sk K es lo k σ = some res) : ∃ i q k' n, k = .inl i :: .inr (.inr q) :: k' ∧ sk[q]? = some (.inl n) ∧ vp_in i n ∧ K es lo (.inl (zg σ q i.toNatClampNeg) :: k') σ = some res := by
  unfold ziald at h
  split at h
  next i q k' =>
    split at h
    next n hq => exact ⟨i, q, k', n, rfl, hq, (zin_inv h).1, (zin_inv h).2⟩
    next => cases h
  next => cases h
theorem ziast_inv {es : zT} {lo : zL} {k : List zV} {σ : zS} (h : ziast sk K es lo k σ = some res) : ∃ x i q k' n, k = .inl x :: .inl i :: .inr (.inr q) :: k' ∧ sk[q]? = some (.inl n) ∧ vp_in i n ∧ K es lo k' (zs σ q i.toNatClampNeg x) = some res := by
  unfold ziast at h
  split at h
  next x i q k' =>
    split at h
    next n hq => exact ⟨x, i, q, k', n, rfl, hq, (zin_inv h).1, (zin_inv h).2⟩
    next => cases h
  next => cases h
theorem zlald_inv {es : zT} {lo : zL} {k : List zV} {σ : zS} (h : zlald sk K es lo k σ = some res) : ∃ i q k' n, k = .inl i :: .inr (.inr q) :: k' ∧ sk[q]? = some (.inr (.inl n)) ∧ vp_in i n ∧ K es lo (.inr (.inl (zgl σ q i.toNatClampNeg)) :: k') σ = some res := by
  unfold zlald at h
  split at h
  next i q k' =>
    split at h
    next n hq => exact ⟨i, q, k', n, rfl, hq, (zin_inv h).1, (zin_inv h).2⟩
    next => cases h
  next => cases h
theorem zlast_inv {es : zT} {lo : zL} {k : List zV} {σ : zS} (h : zlast sk K es lo k σ = some res) : ∃ x i q k' n, k = .inr (.inl x) :: .inl i :: .inr (.inr q) :: k' ∧ sk[q]? = some (.inr (.inl n)) ∧ vp_in i n ∧ K es lo k' (zsl σ q i.toNatClampNeg x) = some res := by
  unfold zlast at h
  split at h
  next x i q k' =>
    split at h
    next n hq => exact ⟨x, i, q, k', n, rfl, hq, (zin_inv h).1, (zin_inv h).2⟩
    next => cases h
  next => cases h
theorem zalen_inv {es : zT} {lo : zL} {k : List zV} {σ : zS} (h : zalen sk K es lo k σ = some res) : ∃ q k' n, k = .inr (.inr q) :: k' ∧ (sk[q]? = some (.inl n) ∨ sk[q]? = some (.inr (.inl n))) ∧ K es lo (.inl (Int32.ofNat n) :: k') σ = some res := by
  unfold zalen at h
  split at h
  next q k' =>
    split at h
    next n hq => exact ⟨q, k', n, rfl, Or.inl hq, h⟩
    next n hq => exact ⟨q, k', n, rfl, Or.inr hq, h⟩
    next => cases h
  next => cases h
theorem zcpin_inv {sp dp n : Int32} {n0 n1 : Nat} {r : zR} (h : zcpin sp dp n n0 n1 r = some res) : (¬ sp < 0 ∧ ¬ dp < 0 ∧ ¬ n < 0 ∧ sp.toNatClampNeg + n.toNatClampNeg ≤ n0 ∧ dp.toNatClampNeg + n.toNatClampNeg ≤ n1) ∧ r = some res := by
  unfold zcpin at h
  split at h
  next => cases h
  next hc =>
    simp only [not_or] at hc
    exact ⟨⟨hc.1, hc.2.1, hc.2.2.1, by omega, by omega⟩, h⟩
theorem zcopy_inv {es : zT} {lo : zL} {k : List zV} {σ : zS} (h : zcopy sk K es lo k σ = some res) : ∃ n dp b sp a k' n0 n1, k = .inl n :: .inl dp :: .inr (.inr b) :: .inl sp :: .inr (.inr a) :: k' ∧ ((k'.map zw).sum ≤ 8) ∧ (¬ sp < 0 ∧ ¬ dp < 0 ∧ ¬ n < 0 ∧ sp.toNatClampNeg + n.toNatClampNeg ≤ n0 ∧ dp.toNatClampNeg + n.toNatClampNeg ≤ n1) ∧
    ((sk[a]? = some (.inl n0) ∧ sk[b]? = some (.inl n1) ∧ K es lo k' (zsc σ a b sp.toNatClampNeg dp.toNatClampNeg n.toNatClampNeg) = some res) ∨ (sk[a]? = some (.inr (.inl n0)) ∧ sk[b]? = some (.inr (.inl n1)) ∧ K es lo k' (zslc σ a b sp.toNatClampNeg dp.toNatClampNeg n.toNatClampNeg) = some res)) := by
  unfold zcopy at h
  split at h
  next n dp b sp a k' =>
    split at h
    next hw =>
      split at h
      next n0 n1 h0 h1 => exact ⟨n, dp, b, sp, a, k', n0, n1, rfl, Nat.le_of_ble_eq_true hw, (zcpin_inv h).1, Or.inl ⟨h0, h1, (zcpin_inv h).2⟩⟩
      next n0 n1 h0 h1 => exact ⟨n, dp, b, sp, a, k', n0, n1, rfl, Nat.le_of_ble_eq_true hw, (zcpin_inv h).1, Or.inr ⟨h0, h1, (zcpin_inv h).2⟩⟩
      next => cases h
    next => cases h
  next => cases h
theorem zinv_inv {mm n r : Nat} {es : zT} {lo : zL} {k : List zV} {σ : zS} (h : zinv C K mm n r es lo k σ = some res) : n ≤ k.length ∧ (((k.drop n).map zw).sum ≤ 8) ∧ ∃ v σ', C mm (k.take n).reverse σ = some (v, σ') ∧
    ((r = 0 ∧ v = none ∧ K es lo (k.drop n) σ' = some res) ∨ (r = 2 ∧ ∃ x, v = some (.inr (.inl x)) ∧ K es lo (.inr (.inl x) :: k.drop n) σ' = some res) ∨ (∃ x, v = some (.inl x) ∧ K es lo (.inl x :: k.drop n) σ' = some res)) := by
  unfold zinv at h
  split at h
  next hb =>
    simp only [Bool.and_eq_true] at hb
    refine ⟨Nat.le_of_ble_eq_true hb.1, Nat.le_of_ble_eq_true hb.2, ?_⟩
    split at h
    · unfold zcV at h
      split at h
      next σ' he => exact ⟨none, σ', he, Or.inl ⟨rfl, rfl, h⟩⟩
      next => cases h
    · unfold zcJ at h
      split at h
      next x σ' he => exact ⟨_, σ', he, Or.inr (Or.inl ⟨rfl, x, rfl, h⟩)⟩
      next => cases h
    · unfold zcI at h
      split at h
      next x σ' he => exact ⟨_, σ', he, Or.inr (Or.inr ⟨x, rfl, h⟩)⟩
      next => cases h
  next => cases h
theorem zrecv_inv {ci n : Nat} {k : List zV} (h : zrecv sk ci n k = true) : ∃ q k' fs, k.drop n = .inr (.inr q) :: k' ∧ sk[q]? = some (.inr (.inr (ci, fs))) := by
  unfold zrecv at h
  split at h
  next q k' hk =>
    split at h
    next c fs hq =>
      have := Nat.eq_of_beq_eq_true h
      subst this
      exact ⟨q, k', fs, hk, hq⟩
    next => cases h
  next => cases h
theorem zw_sum (ad : Nat → Nat) (k : List zV) : ((k.map (zc ad)).map fun v => v.category).sum = (k.map zw).sum := by
  rw [List.map_map]
  congr 1
  exact List.map_congr_left fun v _ => zc_cat ad v
end ZST
end
section
section ZST
variable {p : Program} {l : Launch} {e : Env} {s : State} {m : MethodId} {args : Array Value} {below : List Frame} {meth : Method} {c : Code} {cc : ByteArray} {A : Nat → Prop} {D : va_G} {cI cJ : ClassId} {ad : Nat → Nat} {sk : List zE} {own : String} {nL : Nat} {Ms : List zMeth} {C : Nat → List zV → zS → zR} {T : zT} {rk d : Nat} {K : zK} {res : Option zV × zS} {ret0 : Option FieldType}
theorem zdec_ok {b : ByteArray} {pc : Nat} {i : Instr} {n : Nat} (h : zdec b pc i n = true) : decode b pc = .ok (i, n) := of_decide_eq_true h
theorem zK0 (hK : va_K D vwCl [(cI, .int), (cJ, .long)] s) : True := trivial
theorem zP_set {σ σ' : zS} {q : Nat} {e0 : zE} {H : Heap} {x : va_E} (hq : sk[q]? = some e0) (ho : ∀ k e', k ≠ q → zcell cI cJ ad σ' k e' = zcell cI cJ ad σ k e') (hx : x = zcell cI cJ ad σ' q e0) (h : va_P D vwCl ((zW cI cJ ad sk σ).set q (ad q, x)) H) : va_P D vwCl (zW cI cJ ad sk σ') H := by
  subst hx
  rwa [zW_set hq ho] at h
theorem zD_set {σ σ' : zS} {q : Nat} {e0 : zE} {x : va_E} (hq : sk[q]? = some e0) (ho : ∀ k e', k ≠ q → zcell cI cJ ad σ' k e' = zcell cI cJ ad σ k e') (hx : x = zcell cI cJ ad σ' q e0) (h : va_D A ((zW cI cJ ad sk σ).set q (ad q, x))) : va_D A (zW cI cJ ad sk σ') := by
  subst hx
  rwa [zW_set hq ho] at h
theorem zD_any {B : Nat → Prop} {σ σ' : zS} (h : va_D B (zW cI cJ ad sk σ)) : va_D B (zW cI cJ ad sk σ') := by
  have key : ∀ (τ τ' : zS) (k : Nat) (q : Nat × va_E), (zW cI cJ ad sk τ)[k]? = some q → ∃ q', (zW cI cJ ad sk τ')[k]? = some q' ∧ q'.1 = q.1 := by
    intro τ τ' k q hk
    simp only [zW, List.getElem?_mapIdx] at hk ⊢
    cases hs : sk[k]? with
    | none => rw [hs] at hk; cases hk
    | some e' => rw [hs] at hk; cases hk; exact ⟨_, rfl, rfl⟩
  refine ⟨fun i j p q hi hj hpq => ?_, fun k q hk => ?_⟩
  · obtain ⟨p', h1, h2⟩ := key σ' σ i p hi
    obtain ⟨q', h3, h4⟩ := key σ' σ j q hj
    exact h.1 i j p' q' h1 h3 (by rw [h2, h4]; exact hpq)
  · obtain ⟨q', h1, h2⟩ := key σ' σ k q hk
    rw [← h2]
    exact h.2 k q' h1
theorem zA_any {σ σ' : zS} {sz q : Nat} (h : va_A (zW cI cJ ad sk σ) sz q) : va_A (zW cI cJ ad sk σ') sz q := by
  rcases h with ⟨k, e, h⟩ | h
  · left
    simp only [zW, List.getElem?_mapIdx] at h ⊢
    cases hs : sk[k]? with
    | none => rw [hs] at h; cases h
    | some e' => rw [hs] at h; cases h; exact ⟨k, zcell cI cJ ad σ' k e', by simp [hs]⟩
  · exact Or.inr h
/-- behind a call -/
theorem zcall_k {Q : State → Prop} {R : Room} {pc : Nat} {lo : zL} {σ : zS} {k rest : List zV} {v : Option zV} {σ' : zS} {H : Heap} {locs : List Loc} {ls : Array Slot} {av : Array Value}
    (hK : va_K D vwCl [(cI, .int), (cJ, .long)] s) (hA : ∀ q : Nat, s.heap.size ≤ q → A q) (hP : va_P D vwCl (zW cI cJ ad sk σ) H) (hD : va_D A (zW cI cJ ad sk σ)) (hS : va_S A s.heap H locs) (hl : zloc ad nL lo ls)
    (hrun : va_Run p l e R s m args below meth c H locs 0 0 0 0 (F0 m pc ls (k.map (zc ad))) (rest.map (zc ad)) (zQ D cI cJ ad sk (v, σ') (va_A (zW cI cJ ad sk σ) H.size) av) (va_A (zW cI cJ ad sk σ) H.size))
    (hgo : zAt p l e R s m args below meth c A D cI cJ ad sk nL Q (pc + 3) lo (v.toList ++ rest) σ') : W p l e R s m args below meth c H locs 0 0 Q (F0 m pc ls (k.map (zc ad))) := by
  have hF : ∀ q, va_A (zW cI cJ ad sk σ) H.size q → A q := by
    rintro q (⟨i, x, h⟩ | h)
    · exact hD.2 i (q, x) h
    · exact hA q (Nat.le_trans hS.1 h)
  have key : ∀ (t : State) (H1 : Heap) (locs1 : List Loc), t.heap = H1 → zB D cI cJ ad sk (va_A (zW cI cJ ad sk σ) H.size) σ' () t → va_S A s.heap H1 locs1 → W p l e R s m args below meth c H1 locs1 0 0 Q (F0 m (pc + 3) ls ((v.toList ++ rest).map (zc ad))) := by
    intro t H1 locs1 ht hB hS1
    obtain ⟨hP1, hK1, hD1⟩ := hB
    rw [ht] at hP1
    exact hgo H1 locs1 ls hP1 (hD1.weaken (fun _ q _ h => hF q.1 h)) hS1 hl
  rcases v with _ | (x | x | x)
  · exact va_callv (a := av) hrun hS (fun q _ h => hF q h) hF (fun u t H1 locs1 ht _ _ hB _ _ hS1 => key t H1 locs1 ht hB hS1)
  · exact va_calli (a := av) hrun hS (fun q _ h => hF q h) hF (fun r u t H1 locs1 ht _ hr hB _ _ hS1 => by subst hr; exact key t H1 locs1 ht hB hS1)
  · exact va_calll (a := av) hrun hS (fun q _ h => hF q h) hF (fun r u t H1 locs1 ht _ hr hB _ _ hS1 => by subst hr; exact key t H1 locs1 ht hB hS1)
  · intro T hT X
    obtain ⟨v, st0, t, T', L, h0, X', hL, e1, e2, hf, st⟩ := hrun T hT X
    exact hf.elim
end ZST
end
section
section ZST
variable {p : Program} {l : Launch} {e : Env} {s : State} {m : MethodId} {args : Array Value} {below : List Frame} {meth : Method} {c : Code} {cc : ByteArray} {A : Nat → Prop} {D : va_G} {cI cJ : ClassId} {ad : Nat → Nat} {sk : List zE} {own : String} {nL : Nat} {Ms : List zMeth} {C : Nat → List zV → zS → zR} {T : zT} {rk d : Nat} {K : zK} {res : Option zV × zS} {ret0 : Option FieldType}
theorem zsplit {k k' : List zV} {n : Nat} {r : zV} (hk : k.drop n = r :: k') : (k.take (n + 1)).reverse = r :: (k.take n).reverse ∧ k.drop (n + 1) = k' ∧ k = k.take n ++ r :: k' := by
  have h1 : k[n]? = some r := by
    have := congrArg (fun l => l[0]?) hk
    simpa [List.getElem?_drop] using this
  refine ⟨by rw [List.take_succ, h1]; simp, ?_, ?_⟩
  · have := congrArg (List.drop 1) hk
    simpa [List.drop_drop] using this
  · rw [← hk]
    exact (List.take_append_drop n k).symm
theorem zgood_all (y : zMeth) (h : Cond.code y.1 y.2.1 y.2.2.1 y.2.2.2.1 ∈ zTb) : ∀ w ∈ (Cond.code y.1 y.2.1 y.2.2.1 y.2.2.2.1 :: zTb), w ∈ zTb := fun w hw => (List.mem_cons.mp hw).elim (fun e => e ▸ h) id
set_option maxHeartbeats 4000000 in
theorem zcallV {Q : State → Prop} {y : zMeth} {pc idx q n ci : Nat} {lo : zL} {σ : zS} {k k' : List zV} {v : Option zV} {σ' : zS} {fs : List (Option Nat)}
    (hx : p.tables.exec = Jvm.exec) (hb : c.code = cc) (hml : c.maxLocals = nL) (hown : s.vm.findClass own = some m.cls) (hts : ∀ w ∈ zTb, w.before args s = true) (hK : va_K D vwCl [(cI, .int), (cJ, .long)] s) (hN : zNk s) (hA : ∀ q : Nat, s.heap.size ≤ q → A q)
    (hy : zmok Ms y) (hM : zMet l D cI cJ ad sk (zrm d) y (k.take (n + 1)).reverse σ (v, σ')) (hn : n + 1 ≤ k.length) (hk : k.drop n = .inr (.inr q) :: k') (hq : sk[q]? = some (.inr (.inr (ci, fs)))) (hci : (vwCl[ci]?).map (fun q => q.1) = some y.1.cls) (hnp : y.2.2.2.2.1 = n) (hst : y.2.2.2.2.2.1 = false) (hlink : Cond.methodLink own idx y.1 ∈ zTb)
    (hdec : decode cc pc = .ok (.invokevirtual idx, 3)) (hsum : ((k.drop (n + 1)).map zw).sum ≤ 8)
    (hgo : zAt p l e (zrm (d + 1)) s m args below meth c A D cI cJ ad sk nL Q (pc + 3) lo (v.toList ++ k.drop (n + 1)) σ') : zAt p l e (zrm (d + 1)) s m args below meth c A D cI cJ ad sk nL Q pc lo k σ := by
  intro H locs ls hP hD hS hl
  obtain ⟨s1, s2, s3⟩ := zsplit hk
  obtain ⟨m1, m2, m3, m4, m5, m6, m7, m8, -, -, -⟩ := hy
  rw [if_neg (by rw [hst]; decide)] at m6
  obtain ⟨q3, hq3, he3⟩ := Option.map_eq_some_iff.mp hci
  have hM0 := hM H.size
  rw [s1] at hM0
  have hgw : ∀ w ∈ wsV own idx y.1.cls y.1 (Cond.code y.1 y.2.1 y.2.2.1 y.2.2.2.1 :: zTb), w ∈ zTb := by
    intro w hw
    unfold wsV at hw
    rcases List.mem_append.mp hw with h | h
    · simp only [List.mem_cons, List.not_mem_nil, or_false] at h
      rcases h with rfl | rfl | rfl | rfl
      · exact hlink
      · exact m6.1
      · exact m6.2
      · exact m4
    · exact zgood_all y m3 w h
  refine zcall_k (rest := k.drop (n + 1)) (k := k) (av := (Value.ref (ad q) :: ((k.take n).reverse).map (zc ad)).toArray) hK hA hP hD hS hl ?_ hgo
  refine va_runV (C := y.1.cls) (As := ((k.take n).reverse).map (zc ad)) (b := ad q) (n := n) (mc := 0) (ms := 0) ⟨hx, hb, hml, hown, hts⟩ hM0 (cwV n hts (fun w hw => ⟨hgw w hw, ztbl_good w (hgw w hw)⟩) rfl rfl rfl ⟨rfl, m2.1, m2.2, by rw [m5, hnp]⟩ ⟨Nat.le_refl _, ?_⟩) ⟨?_, ?_, ?_⟩ rfl ?_ hl.1 ?_ (lv_room (by rw [zw_sum]; exact hsum)) hdec ⟨Nat.zero_le _, Nat.zero_le _⟩
  · show 8 + (y.2.2.1 + 11) + 40 * d ≤ 40 * (d + 1)
    omega
  · intro a U g mk q
    obtain ⟨q0, q1, qP, qK, qD, qN⟩ := q
    exact ⟨q0, q1, qP, va_K.moved (u := U) (U := U.calling g mk a) (Vm.Alike.refl U.vm) qK, qD, va_Nw.same (u := U) (U := U.calling g mk a) rfl rfl qN⟩
  · rw [← he3]
    exact va_recv hK hP hq3 (zW_get hq)
  · intro U hU hW
    exact ⟨rfl, by rw [hU], by rw [hU]; exact hP, va_K.moved hW.alike hK, hD.weaken (fun _ _ _ _ => trivial), zNk.warm hW hN⟩
  · simp only [List.length_map, List.length_reverse, List.length_take]
    omega
  · show k.map (zc ad) = _
    conv => lhs; rw [s3]
    rw [s2, List.map_append, List.map_reverse, List.reverse_reverse]
    rfl
set_option maxHeartbeats 4000000 in
theorem zcallS {Q : State → Prop} {y : zMeth} {pc idx n z : Nat} {lo : zL} {σ : zS} {k : List zV} {v : Option zV} {σ' : zS}
    (hx : p.tables.exec = Jvm.exec) (hb : c.code = cc) (hml : c.maxLocals = nL) (hown : s.vm.findClass own = some m.cls) (hts : ∀ w ∈ zTb, w.before args s = true) (hK : va_K D vwCl [(cI, .int), (cJ, .long)] s) (hN : zNk s) (hA : ∀ q : Nat, s.heap.size ≤ q → A q)
    (hy : zmok Ms y) (hM : zMet l D cI cJ ad sk (zrm d) y (k.take n).reverse σ (v, σ')) (hn : n ≤ k.length) (hnp : y.2.2.2.2.1 = n) (hst : y.2.2.2.2.2.1 = true) (hlink : if z = 0 then Cond.methodLink own idx y.1 ∈ zTb else Cond.methodLinkNest own idx y.1 "ProtoOrders" = zNw)
    (hdec : decode cc pc = .ok (.invokestatic idx, 3)) (hsum : ((k.drop n).map zw).sum ≤ 8)
    (hgo : zAt p l e (zrm (d + 1)) s m args below meth c A D cI cJ ad sk nL Q (pc + 3) lo (v.toList ++ k.drop n) σ') : zAt p l e (zrm (d + 1)) s m args below meth c A D cI cJ ad sk nL Q pc lo k σ := by
  intro H locs ls hP hD hS hl
  obtain ⟨m1, m2, m3, m4, m5, m6, m7, m8, -, -, -⟩ := hy
  rw [if_pos hst] at m6
  have hM0 := hM H.size
  have hpre : PreS s H (va_Pc (((k.take n).reverse).map (zc ad)) (fun U => U.heap.size = H.size ∧ va_P D vwCl (zW cI cJ ad sk σ) U.heap ∧ va_K D vwCl [(cI, .int), (cJ, .long)] U ∧ va_D (fun _ => True) (zW cI cJ ad sk σ) ∧ zNk U)) (((k.take n).reverse).map (zc ad)) := by
    refine ⟨?_, ?_⟩
    · intro a U g mk q
      obtain ⟨q0, q1, qP, qK, qD, qN⟩ := q
      exact ⟨q0, q1, qP, va_K.moved (u := U) (U := U.calling g mk a) (Vm.Alike.refl U.vm) qK, qD, va_Nw.same (u := U) (U := U.calling g mk a) rfl rfl qN⟩
    · intro U hU hW
      exact ⟨rfl, by rw [hU], by rw [hU]; exact hP, va_K.moved hW.alike hK, hD.weaken (fun _ _ _ _ => trivial), zNk.warm hW hN⟩
  have hlen : (((k.take n).reverse).map (zc ad)).length = n := by
    simp only [List.length_map, List.length_reverse, List.length_take]
    omega
  have hstack : k.map (zc ad) = (((k.take n).reverse).map (zc ad)).reverse ++ (k.drop n).map (zc ad) := by
    rw [List.map_reverse, List.reverse_reverse, ← List.map_append, List.take_append_drop]
  have hroom : 8 + (y.2.2.1 + 11) + 40 * d ≤ 40 * (d + 1) := by omega
  have hgood : GoodIn zTb (Cond.code y.1 y.2.1 y.2.2.1 y.2.2.2.1 :: zTb) := fun w hw => ⟨zgood_all y m3 w hw, ztbl_good w (zgood_all y m3 w hw)⟩
  refine zcall_k (rest := k.drop n) (k := k) (av := (((k.take n).reverse).map (zc ad)).toArray) hK hA hP hD hS hl ?_ hgo
  by_cases hz : z = 0
  · rw [if_pos hz] at hlink
    have hgw : ∀ w ∈ va_wsS own idx y.1 (Cond.code y.1 y.2.1 y.2.2.1 y.2.2.2.1 :: zTb), w ∈ zTb := by
      intro w hw
      unfold va_wsS at hw
      rcases List.mem_append.mp hw with h | h
      · simp only [List.mem_cons, List.not_mem_nil, or_false] at h
        rcases h with rfl | rfl | rfl
        · exact hlink
        · exact m6
        · exact m4
      · exact zgood_all y m3 w h
    exact va_runS (As := ((k.take n).reverse).map (zc ad)) (n := n) (mc := 0) (ms := 0) ⟨hx, hb, hml, hown, hts⟩ hM0 (va_cwS n hts (fun w hw => ⟨hgw w hw, ztbl_good w (hgw w hw)⟩) rfl rfl rfl ⟨m2.1, m2.2, by rw [m5, hnp]⟩ ⟨Nat.le_refl _, hroom⟩) hpre rfl hlen hl.1 hstack (lv_room (by rw [zw_sum]; exact hsum)) hdec ⟨Nat.zero_le _, Nat.zero_le _⟩
  · rw [if_neg hz] at hlink
    exact va_runSN (host := "ProtoOrders") (As := ((k.take n).reverse).map (zc ad)) (n := n) (mc := 0) (ms := 0) ⟨hx, hb, hml, hown, hts⟩ hM0 ⟨va_cnB n hts hgood rfl rfl rfl (hlink ▸ hN) (hts _ m4) ⟨m2.1, m2.2, by rw [m5, hnp]⟩ ⟨Nat.le_refl _, hroom⟩, hts _ m6, trivial⟩ hpre rfl hlen hl.1 hstack (lv_room (by rw [zw_sum]; exact hsum)) hdec ⟨Nat.zero_le _, Nat.zero_le _⟩
/-- the switch: outside, or at its j-th place -/
theorem zsw_inv {x : Int32} {pc : Nat} {lo : zL} {k : List zV} {σ : zS} {dd : Nat} : ∀ (offs : List Int) (as : List Nat) (v : Int32) (j0 : Nat), (-1000 ≤ v.toInt ∧ v.toInt + offs.length ≤ 1001) → ztgts T pc as offs = true → zsw x v T K lo k σ dd as = some res →
    ((∀ j : Nat, j < offs.length → x.toInt ≠ v.toInt + j) ∧ K (T.drop dd) lo k σ = some res) ∨ ∃ (j : Nat) (off : Int) (a : Nat), offs[j]? = some off ∧ x.toInt = v.toInt + j ∧ ztgt T a pc off = true ∧ K (T.drop a) lo k σ = some res
  | [], [], v, j0, hv, ht, h => Or.inl ⟨fun j hj => absurd hj (Nat.not_lt_zero j), h⟩
  | [], _ :: _, v, j0, hv, ht, h => by simp [ztgts] at ht
  | _ :: _, [], v, j0, hv, ht, h => by simp [ztgts] at ht
  | o :: offs, a :: as, v, j0, hv, ht, h => by
    simp only [ztgts, Bool.and_eq_true] at ht
    simp only [zsw] at h
    by_cases hx : x = v
    · rw [if_pos hx] at h
      exact Or.inr ⟨0, o, a, rfl, by rw [hx]; simp, ht.1, h⟩
    · rw [if_neg hx] at h
      simp only [List.length_cons] at hv
      have hv1 : (v + 1).toInt = v.toInt + 1 := by
        rw [Int32.toInt_add]
        have : (1 : Int32).toInt = 1 := by decide
        rw [this]
        apply Int.bmod_eq_of_le <;> omega
      rcases zsw_inv offs as (v + 1) j0 (by omega) ht.2 h with ⟨h1, h2⟩ | ⟨j, off, a', h1, h2, h3, h4⟩
      · refine Or.inl ⟨fun j hj => ?_, h2⟩
        cases j with
        | zero =>
          intro hc
          exact hx (Int32.toInt_inj.mp (by simpa using hc))
        | succ j =>
          have := h1 j (by simpa using hj)
          rw [hv1] at this
          intro hc
          apply this
          omega
      · exact Or.inr ⟨j + 1, off, a', h1, by rw [h2, hv1]; omega, h3, h4⟩
set_option maxHeartbeats 20000000 in
set_option maxRecDepth 100000 in
theorem zstep_ok {i : Instr} {v : Int32} {w : Int64} {aux : List Nat} {es : zT} {pc : Nat} {lo : zL} {k : List zV} {σ : zS}
    (hx : p.tables.exec = Jvm.exec) (hb : c.code = cc) (hr : meth.sig.returnType = ret0) (hret : ret0 = (match rk with
      | 0 => none
      | 1 => some .int
      | 2 => some .long
      | _ => some .boolean)) (hml : c.maxLocals = nL) (hown : s.vm.findClass own = some m.cls) (hts : ∀ w ∈ zTb, w.before args s = true) (hlocks : meth.locks = false) (hK : va_K D vwCl [(cI, .int), (cJ, .long)] s) (hN : zNk s) (hA : ∀ q : Nat, s.heap.size ≤ q → A q)
    (hC : ∀ mm as τ r', C mm as τ = some r' → ∃ y, Ms[mm]? = some y ∧ zmok Ms y ∧ zMet l D cI cJ ad sk (zrm d) y as τ r')
    (hgo : ∀ (e' : zEnt) (es' : zT) (lo' : zL) (k' : List zV) (σ' : zS), (es = e' :: es' ∨ ∃ a, T.drop a = e' :: es') → K (e' :: es') lo' k' σ' = some res → zAt p l e (zrm (d + 1)) s m args below meth c A D cI cJ ad sk nL (MQ below (zQ D cI cJ ad sk res A) args s 0 0 A) e'.1 lo' k' σ')
    (hs : zspec Ms own cc nL T pc i v w aux es = true) (h : zstep sk C T rk K i v w aux es lo k σ = some res) : zAt p l e (zrm (d + 1)) s m args below meth c A D cI cJ ad sk nL (MQ below (zQ D cI cJ ad sk res A) args s 0 0 A) pc lo k σ := by
  have fall : ∀ {pc' : Nat} {lo' : zL} {k' : List zV} {σ' : zS}, zfall es pc' = true → K es lo' k' σ' = some res → zAt p l e (zrm (d + 1)) s m args below meth c A D cI cJ ad sk nL (MQ below (zQ D cI cJ ad sk res A) args s 0 0 A) pc' lo' k' σ' := by
    intro pc' lo' k' σ' hf hk
    obtain ⟨e', es', he, hpc⟩ := zfall_ok hf
    rw [← hpc]
    exact hgo e' es' lo' k' σ' (Or.inl he) (he ▸ hk)
  have jump : ∀ {a : Nat} {off : Int}, ztgt T a pc off = true → ∃ tgt : Nat, (pc : Int) + off = (tgt : Int) ∧ ∀ {lo' : zL} {k' : List zV} {σ' : zS}, K (T.drop a) lo' k' σ' = some res → zAt p l e (zrm (d + 1)) s m args below meth c A D cI cJ ad sk nL (MQ below (zQ D cI cJ ad sk res A) args s 0 0 A) tgt lo' k' σ' := by
    intro a off ht
    obtain ⟨e', es', he, hpc⟩ := ztgt_ok ht
    exact ⟨e'.1, hpc, fun {lo' k' σ'} hk => hgo e' es' lo' k' σ' (Or.inr ⟨a, he⟩) (he ▸ hk)⟩
  cases i with
  | iconst n =>
    simp only [zspec, Bool.and_eq_true, decide_eq_true_eq] at hs
    intro H locs ls hP hD hS hl
    exact lv_iconst hx hb (zdec_ok hs.1.1) hs.2 (fall hs.1.2 h H locs ls hP hD hS hl)
  | bipush n =>
    simp only [zspec, Bool.and_eq_true, decide_eq_true_eq] at hs
    intro H locs ls hP hD hS hl
    exact lv_bipush hx hb (zdec_ok hs.1.1) hs.2 (fall hs.1.2 h H locs ls hP hD hS hl)
  | sipush n =>
    simp only [zspec, Bool.and_eq_true, decide_eq_true_eq] at hs
    intro H locs ls hP hD hS hl
    exact lv_sipush hx hb (zdec_ok hs.1.1) hs.2 (fall hs.1.2 h H locs ls hP hD hS hl)
  | lconst n =>
    simp only [zspec, Bool.and_eq_true, decide_eq_true_eq] at hs
    intro H locs ls hP hD hS hl
    exact lv_lconst hx hb (zdec_ok hs.1.1) hs.2 (fall hs.1.2 h H locs ls hP hD hS hl)
  | ldc x =>
    simp only [zspec, Bool.and_eq_true, decide_eq_true_eq] at hs
    obtain ⟨⟨h1, h2⟩, h3⟩ := hs
    split at h3
    · intro H locs ls hP hD hS hl
      exact lv_ldc hx hb hown (hts _ (zwd_ok h3)) (zdec_ok h1) (fall h2 h H locs ls hP hD hS hl)
    · cases h3
  | ldc_w x =>
    simp only [zspec, Bool.and_eq_true, decide_eq_true_eq] at hs
    obtain ⟨⟨h1, h2⟩, h3⟩ := hs
    split at h3
    · intro H locs ls hP hD hS hl
      exact lv_ldcw hx hb hown (hts _ (zwd_ok h3)) (zdec_ok h1) (fall h2 h H locs ls hP hD hS hl)
    · cases h3
  | ldc2_w x =>
    simp only [zspec, Bool.and_eq_true, decide_eq_true_eq] at hs
    obtain ⟨⟨h1, h2⟩, h3⟩ := hs
    split at h3
    · intro H locs ls hP hD hS hl
      exact lv_ldc2 hx hb hown (hts _ (zwd_ok h3)) (zdec_ok h1) (fall h2 h H locs ls hP hD hS hl)
    · cases h3
  | iload_n i0 =>
    simp only [zspec, Bool.and_eq_true, decide_eq_true_eq] at hs
    obtain ⟨x, hx1, h1⟩ := zldI_inv (K := K) h
    intro H locs ls hP hD hS hl
    exact lv_iload_n hx hb (zdec_ok hs.1) rfl (hl.2.2 _ _ hx1) (fall hs.2 h1 H locs ls hP hD hS hl)
  | iload i0 =>
    simp only [zspec, Bool.and_eq_true, decide_eq_true_eq] at hs
    obtain ⟨x, hx1, h1⟩ := zldI_inv (K := K) h
    intro H locs ls hP hD hS hl
    exact lv_iload hx hb (zdec_ok hs.1) (hl.2.2 _ _ hx1) (fall hs.2 h1 H locs ls hP hD hS hl)
  | aload_n i0 =>
    simp only [zspec, Bool.and_eq_true, decide_eq_true_eq] at hs
    obtain ⟨x, hx1, h1⟩ := zldA_inv (K := K) h
    intro H locs ls hP hD hS hl
    exact lv_aload_n hx hb (zdec_ok hs.1) rfl (hl.2.2 _ _ hx1) (fall hs.2 h1 H locs ls hP hD hS hl)
  | aload i0 =>
    simp only [zspec, Bool.and_eq_true, decide_eq_true_eq] at hs
    obtain ⟨x, hx1, h1⟩ := zldA_inv (K := K) h
    intro H locs ls hP hD hS hl
    exact lv_aload hx hb (zdec_ok hs.1) (hl.2.2 _ _ hx1) (fall hs.2 h1 H locs ls hP hD hS hl)
  | lload_n i0 =>
    simp only [zspec, Bool.and_eq_true, decide_eq_true_eq] at hs
    obtain ⟨x, hx1, h1⟩ := zldJ_inv (K := K) h
    intro H locs ls hP hD hS hl
    exact lv_lload_n hx hb (zdec_ok hs.1) rfl (hl.2.2 _ _ hx1) (fall hs.2 h1 H locs ls hP hD hS hl)
  | lload i0 =>
    simp only [zspec, Bool.and_eq_true, decide_eq_true_eq] at hs
    obtain ⟨x, hx1, h1⟩ := zldJ_inv (K := K) h
    intro H locs ls hP hD hS hl
    exact lv_lload hx hb (zdec_ok hs.1) (hl.2.2 _ _ hx1) (fall hs.2 h1 H locs ls hP hD hS hl)
  | istore_n i0 =>
    simp only [zspec, Bool.and_eq_true, decide_eq_true_eq] at hs
    obtain ⟨x, k', rfl, hf, h1⟩ := zst_inv (K := K) h
    intro H locs ls hP hD hS hl
    exact lv_istore_n hx hb (zdec_ok hs.1.1) rfl hl.has hs.2 rfl (fun ls' hl' => fall hs.1.2 h1 H locs ls' hP hD hS (zloc_set hl hf hl'))
  | istore i0 =>
    simp only [zspec, Bool.and_eq_true, decide_eq_true_eq] at hs
    obtain ⟨x, k', rfl, hf, h1⟩ := zst_inv (K := K) h
    intro H locs ls hP hD hS hl
    exact lv_istore hx hb (zdec_ok hs.1.1) hl.has hs.2 rfl (fun ls' hl' => fall hs.1.2 h1 H locs ls' hP hD hS (zloc_set hl hf hl'))
  | iinc i0 n =>
    simp only [zspec, Bool.and_eq_true, decide_eq_true_eq] at hs
    obtain ⟨x, hx1, hf, h1⟩ := zinc_inv (K := K) h
    intro H locs ls hP hD hS hl
    obtain ⟨j, hj⟩ := List.getElem?_of_mem (zas_mem (ad := ad).mpr ⟨_, hx1, rfl⟩ : ((i0, zc ad (.inl x)) : Nat × Value) ∈ zas ad lo)
    exact lv_iinc (v := x + v) hx hb (zdec_ok hs.1.1.1) hl.has (k := j) hj (by rw [hs.1.2]) hs.2 rfl (fun ls' hl' => fall hs.1.1.2 h1 H locs ls' hP hD hS (zloc_set hl hf hl'))
  | iadd =>
    simp only [zspec, Bool.and_eq_true, decide_eq_true_eq] at hs
    obtain ⟨x, y, k', rfl, h1⟩ := z2_inv (K := K) h
    intro H locs ls hP hD hS hl
    exact lv_iadd hx hb (zdec_ok hs.1) (fall hs.2 h1 H locs ls hP hD hS hl)
  | isub =>
    simp only [zspec, Bool.and_eq_true, decide_eq_true_eq] at hs
    obtain ⟨x, y, k', rfl, h1⟩ := z2_inv (K := K) h
    intro H locs ls hP hD hS hl
    exact lv_isub hx hb (zdec_ok hs.1) (fall hs.2 h1 H locs ls hP hD hS hl)
  | imul =>
    simp only [zspec, Bool.and_eq_true, decide_eq_true_eq] at hs
    obtain ⟨x, y, k', rfl, h1⟩ := z2_inv (K := K) h
    intro H locs ls hP hD hS hl
    exact lv_imul hx hb (zdec_ok hs.1) (fall hs.2 h1 H locs ls hP hD hS hl)
  | iand =>
    simp only [zspec, Bool.and_eq_true, decide_eq_true_eq] at hs
    obtain ⟨x, y, k', rfl, h1⟩ := z2_inv (K := K) h
    intro H locs ls hP hD hS hl
    exact lv_iand hx hb (zdec_ok hs.1) (fall hs.2 h1 H locs ls hP hD hS hl)
  | ior =>
    simp only [zspec, Bool.and_eq_true, decide_eq_true_eq] at hs
    obtain ⟨x, y, k', rfl, h1⟩ := z2_inv (K := K) h
    intro H locs ls hP hD hS hl
    exact lv_ior hx hb (zdec_ok hs.1) (fall hs.2 h1 H locs ls hP hD hS hl)
  | ixor =>
    simp only [zspec, Bool.and_eq_true, decide_eq_true_eq] at hs
    obtain ⟨x, y, k', rfl, h1⟩ := z2_inv (K := K) h
    intro H locs ls hP hD hS hl
    exact lv_ixor hx hb (zdec_ok hs.1) (fall hs.2 h1 H locs ls hP hD hS hl)
  | ishl =>
    simp only [zspec, Bool.and_eq_true, decide_eq_true_eq] at hs
    obtain ⟨x, y, k', rfl, h1⟩ := z2_inv (K := K) h
    intro H locs ls hP hD hS hl
    exact lv_ishl hx hb (zdec_ok hs.1) (fall hs.2 h1 H locs ls hP hD hS hl)
  | ishr =>
    simp only [zspec, Bool.and_eq_true, decide_eq_true_eq] at hs
    obtain ⟨x, y, k', rfl, h1⟩ := z2_inv (K := K) h
    intro H locs ls hP hD hS hl
    exact lv_ishr hx hb (zdec_ok hs.1) (fall hs.2 h1 H locs ls hP hD hS hl)
  | iushr =>
    simp only [zspec, Bool.and_eq_true, decide_eq_true_eq] at hs
    obtain ⟨x, y, k', rfl, h1⟩ := z2_inv (K := K) h
    intro H locs ls hP hD hS hl
    exact lv_iushr hx hb (zdec_ok hs.1) rfl (fall hs.2 h1 H locs ls hP hD hS hl)
  | ineg =>
    simp only [zspec, Bool.and_eq_true, decide_eq_true_eq] at hs
    obtain ⟨x, k', rfl, h1⟩ := z1_inv (K := K) h
    intro H locs ls hP hD hS hl
    exact lv_ineg hx hb (zdec_ok hs.1) (fall hs.2 h1 H locs ls hP hD hS hl)
  | i2b =>
    simp only [zspec, Bool.and_eq_true, decide_eq_true_eq] at hs
    obtain ⟨x, k', rfl, h1⟩ := z1_inv (K := K) h
    intro H locs ls hP hD hS hl
    exact lv_i2b hx hb (zdec_ok hs.1) rfl (fall hs.2 h1 H locs ls hP hD hS hl)
  | i2s =>
    simp only [zspec, Bool.and_eq_true, decide_eq_true_eq] at hs
    obtain ⟨x, k', rfl, h1⟩ := z1_inv (K := K) h
    intro H locs ls hP hD hS hl
    exact lv_i2s hx hb (zdec_ok hs.1) rfl (fall hs.2 h1 H locs ls hP hD hS hl)
  | ladd =>
    simp only [zspec, Bool.and_eq_true, decide_eq_true_eq] at hs
    obtain ⟨x, y, k', rfl, h1⟩ := zl2_inv (K := K) h
    intro H locs ls hP hD hS hl
    exact lv_ladd hx hb (zdec_ok hs.1) (fall hs.2 h1 H locs ls hP hD hS hl)
  | lmul =>
    simp only [zspec, Bool.and_eq_true, decide_eq_true_eq] at hs
    obtain ⟨x, y, k', rfl, h1⟩ := zl2_inv (K := K) h
    intro H locs ls hP hD hS hl
    exact lv_lmul hx hb (zdec_ok hs.1) (fall hs.2 h1 H locs ls hP hD hS hl)
  | irem =>
    simp only [zspec, Bool.and_eq_true, decide_eq_true_eq] at hs
    simp only [zstep] at h
    split at h
    · obtain ⟨hne, h1⟩ := zne_inv h
      intro H locs ls hP hD hS hl
      exact lv_irem hx hb (zdec_ok hs.1) hne (fall hs.2 h1 H locs ls hP hD hS hl)
    · cases h
  | i2l =>
    simp only [zspec, Bool.and_eq_true, decide_eq_true_eq] at hs
    simp only [zstep] at h
    split at h
    · intro H locs ls hP hD hS hl
      exact lv_i2l hx hb (zdec_ok hs.1) rfl (fall hs.2 h H locs ls hP hD hS hl)
    · cases h
  | l2i =>
    simp only [zspec, Bool.and_eq_true, decide_eq_true_eq] at hs
    simp only [zstep] at h
    split at h
    · intro H locs ls hP hD hS hl
      exact lv_l2i hx hb (zdec_ok hs.1) rfl (fall hs.2 h H locs ls hP hD hS hl)
    · cases h
  | lcmp =>
    simp only [zspec, Bool.and_eq_true, decide_eq_true_eq] at hs
    simp only [zstep] at h
    split at h
    · intro H locs ls hP hD hS hl
      exact W.lcmp hx hb (zdec_ok hs.1) (fall hs.2 h H locs ls hP hD hS hl)
    · cases h
  | dup =>
    simp only [zspec, Bool.and_eq_true, decide_eq_true_eq] at hs
    simp only [zstep] at h
    split at h
    · intro H locs ls hP hD hS hl
      exact lv_dup hx hb (zdec_ok hs.1) rfl (fall hs.2 h H locs ls hP hD hS hl)
    · intro H locs ls hP hD hS hl
      exact lv_dup hx hb (zdec_ok hs.1) rfl (fall hs.2 h H locs ls hP hD hS hl)
    · cases h
  | pop =>
    simp only [zspec, Bool.and_eq_true, decide_eq_true_eq] at hs
    simp only [zstep] at h
    split at h
    · intro H locs ls hP hD hS hl
      exact lv_pop hx hb (zdec_ok hs.1) rfl (fall hs.2 h H locs ls hP hD hS hl)
    · cases h
  | dup_x1 =>
    simp only [zspec, Bool.and_eq_true, decide_eq_true_eq] at hs
    simp only [zstep] at h
    split at h
    · intro H locs ls hP hD hS hl
      exact lv_dup_x1 hx hb (zdec_ok hs.1) rfl rfl (fall hs.2 h H locs ls hP hD hS hl)
    · intro H locs ls hP hD hS hl
      exact lv_dup_x1 hx hb (zdec_ok hs.1) rfl rfl (fall hs.2 h H locs ls hP hD hS hl)
    · cases h
  | dup2 =>
    simp only [zspec, Bool.and_eq_true, decide_eq_true_eq] at hs
    simp only [zstep] at h
    split at h
    · intro H locs ls hP hD hS hl
      exact lv_dup2_11 hx hb (zdec_ok hs.1) rfl rfl (fall hs.2 h H locs ls hP hD hS hl)
    · cases h
  | goto off =>
    simp only [zspec, Bool.and_eq_true, decide_eq_true_eq] at hs
    obtain ⟨h1, h2⟩ := hs
    split at h2
    next a as =>
      obtain ⟨tgt, ht, hj⟩ := jump h2
      intro H locs ls hP hD hS hl
      exact lv_goto hx hb (zdec_ok h1) ht (hj (show K (T.drop a) lo k σ = some res from h) H locs ls hP hD hS hl)
    next => cases h2
  | ifCond c0 off =>
    simp only [zspec, Bool.and_eq_true, decide_eq_true_eq] at hs
    obtain ⟨⟨h1, h2⟩, h3⟩ := hs
    cases c0 with
    | eq =>
      obtain ⟨x, k', a, as, rfl, rfl, hT, hF⟩ := zif1_inv (K := K) h
      obtain ⟨tgt, ht, hj⟩ := jump h3
      intro H locs ls hP hD hS hl
      exact lv_if_eq hx hb (zdec_ok h1) ht (fun hc => hj (hT hc) H locs ls hP hD hS hl) (fun hc => fall h2 (hF hc) H locs ls hP hD hS hl)
    | ne =>
      obtain ⟨x, k', a, as, rfl, rfl, hT, hF⟩ := zif1_inv (K := K) h
      obtain ⟨tgt, ht, hj⟩ := jump h3
      intro H locs ls hP hD hS hl
      exact lv_if_ne hx hb (zdec_ok h1) ht (fun hc => hj (hT hc) H locs ls hP hD hS hl) (fun hc => fall h2 (hF (not_not_intro hc)) H locs ls hP hD hS hl)
    | lt =>
      obtain ⟨x, k', a, as, rfl, rfl, hT, hF⟩ := zif1_inv (K := K) h
      obtain ⟨tgt, ht, hj⟩ := jump h3
      intro H locs ls hP hD hS hl
      exact lv_if_lt hx hb (zdec_ok h1) ht (fun hc => hj (hT hc) H locs ls hP hD hS hl) (fun hc => fall h2 (hF hc) H locs ls hP hD hS hl)
    | ge =>
      obtain ⟨x, k', a, as, rfl, rfl, hT, hF⟩ := zif1_inv (K := K) h
      obtain ⟨tgt, ht, hj⟩ := jump h3
      intro H locs ls hP hD hS hl
      exact lv_if_ge hx hb (zdec_ok h1) ht (fun hc => hj (hT hc) H locs ls hP hD hS hl) (fun hc => fall h2 (hF hc) H locs ls hP hD hS hl)
    | gt =>
      obtain ⟨x, k', a, as, rfl, rfl, hT, hF⟩ := zif1_inv (K := K) h
      obtain ⟨tgt, ht, hj⟩ := jump h3
      intro H locs ls hP hD hS hl
      exact lv_if_gt hx hb (zdec_ok h1) ht (fun hc => hj (hT hc) H locs ls hP hD hS hl) (fun hc => fall h2 (hF hc) H locs ls hP hD hS hl)
    | le =>
      obtain ⟨x, k', a, as, rfl, rfl, hT, hF⟩ := zif1_inv (K := K) h
      obtain ⟨tgt, ht, hj⟩ := jump h3
      intro H locs ls hP hD hS hl
      exact lv_if_le hx hb (zdec_ok h1) ht (fun hc => hj (hT hc) H locs ls hP hD hS hl) (fun hc => fall h2 (hF hc) H locs ls hP hD hS hl)
  | if_icmp c0 off =>
    simp only [zspec, Bool.and_eq_true, decide_eq_true_eq] at hs
    obtain ⟨⟨h1, h2⟩, h3⟩ := hs
    cases c0 with
    | eq =>
      obtain ⟨x, y, k', a, as, rfl, rfl, hT, hF⟩ := zif2_inv (K := K) h
      obtain ⟨tgt, ht, hj⟩ := jump h3
      intro H locs ls hP hD hS hl
      exact lv_icmp_eq hx hb (zdec_ok h1) ht (fun hc => hj (hT hc) H locs ls hP hD hS hl) (fun hc => fall h2 (hF hc) H locs ls hP hD hS hl)
    | ne =>
      obtain ⟨x, y, k', a, as, rfl, rfl, hT, hF⟩ := zif2_inv (K := K) h
      obtain ⟨tgt, ht, hj⟩ := jump h3
      intro H locs ls hP hD hS hl
      exact lv_icmp_ne hx hb (zdec_ok h1) ht (fun hc => hj (hT hc) H locs ls hP hD hS hl) (fun hc => fall h2 (hF (not_not_intro hc)) H locs ls hP hD hS hl)
    | lt =>
      obtain ⟨x, y, k', a, as, rfl, rfl, hT, hF⟩ := zif2_inv (K := K) h
      obtain ⟨tgt, ht, hj⟩ := jump h3
      intro H locs ls hP hD hS hl
      exact lv_icmp_lt hx hb (zdec_ok h1) ht (fun hc => hj (hT hc) H locs ls hP hD hS hl) (fun hc => fall h2 (hF hc) H locs ls hP hD hS hl)
    | ge =>
      obtain ⟨x, y, k', a, as, rfl, rfl, hT, hF⟩ := zif2_inv (K := K) h
      obtain ⟨tgt, ht, hj⟩ := jump h3
      intro H locs ls hP hD hS hl
      exact lv_icmp_ge hx hb (zdec_ok h1) ht (fun hc => hj (hT hc) H locs ls hP hD hS hl) (fun hc => fall h2 (hF hc) H locs ls hP hD hS hl)
    | gt =>
      obtain ⟨x, y, k', a, as, rfl, rfl, hT, hF⟩ := zif2_inv (K := K) h
      obtain ⟨tgt, ht, hj⟩ := jump h3
      intro H locs ls hP hD hS hl
      exact lv_icmp_gt hx hb (zdec_ok h1) ht (fun hc => hj (hT hc) H locs ls hP hD hS hl) (fun hc => fall h2 (hF hc) H locs ls hP hD hS hl)
    | le =>
      obtain ⟨x, y, k', a, as, rfl, rfl, hT, hF⟩ := zif2_inv (K := K) h
      obtain ⟨tgt, ht, hj⟩ := jump h3
      intro H locs ls hP hD hS hl
      exact lv_icmp_le hx hb (zdec_ok h1) ht (fun hc => hj (hT hc) H locs ls hP hD hS hl) (fun hc => fall h2 (hF hc) H locs ls hP hD hS hl)
  | tableswitch dflt lo0 hi offs =>
    simp only [zspec] at hs
    simp only [zstep] at h
    split at hs
    next n a as =>
      simp only [Bool.and_eq_true, decide_eq_true_eq] at hs
      obtain ⟨⟨⟨⟨⟨⟨h1, h2⟩, h3⟩, h4⟩, h5⟩, h6⟩, h7⟩ := hs
      split at h
      next x k' n' d' as' haux =>
        cases haux
        intro H locs ls hP hD hS hl
        have hlo : v.toInt = lo0 := by
          rw [← h2, Int32.toInt_ofInt]
          show lo0.bmod (2 ^ 32) = lo0
          have := offs.toList.length
          apply Int.bmod_eq_of_le <;> omega
        obtain ⟨td, htd, hjd⟩ := jump h6
        rcases zsw_inv (T := T) (pc := pc) offs.toList as v 0 (by omega) h7 h with ⟨hout, hk⟩ | ⟨j, off, a', hj, hxj, hta, hk⟩
        · refine lv_tableOut hx hb (zdec_ok h1) ?_ htd (hjd hk H locs ls hP hD hS hl)
          by_cases hlt : x.toInt < lo0
          · exact Or.inl hlt
          · right
            apply Int.not_le.mp
            intro hle
            exact hout (x.toInt - lo0).toNat (by omega) (by omega)
        · obtain ⟨t', ht', hj'⟩ := jump hta
          have hjl : j < offs.toList.length := (List.getElem?_eq_some_iff.mp hj).1
          refine lv_tableIn (off := off) hx hb (zdec_ok h1) (by omega) (by omega) ?_ ht' (hj' hk H locs ls hP hD hS hl)
          rw [show (x.toInt - lo0).toNat = j by omega, ← Array.getElem?_toList]
          exact hj
      next => cases h
    next => cases hs
  | getfield x0 =>
    simp only [zspec, Bool.and_eq_true, decide_eq_true_eq] at hs
    obtain ⟨⟨h1, h2⟩, h3⟩ := hs
    obtain ⟨q, k', ci, j, as, fs, o, rfl, rfl, hq, hj, hk⟩ := zgetf_inv (K := K) h
    split at h3
    next ci' j' a1 a2 as' heq =>
      cases heq
      split at h3
      next q3 hq3 =>
        simp only [Bool.and_eq_true, decide_eq_true_eq] at h3
        obtain ⟨⟨g1, g2⟩, g3⟩ := h3
        intro H locs ls hP hD hS hl
        have hlink := hts _ (zwd_ok g3)
        have hv := zfs_get (ad := ad) (σ := σ) (k := q) hj
        refine va_get (D := D) (cl := vwCl) (C := q3.1) (T := q3.2.1) (N := q3.2.2) (ci := ci) hx hb hts (ztbl_in ci q3 hq3).1 hown hK hP q (zW_get hq) hq3 j g1 hlink (fun z hz => by rw [g2] at hz; exact hz) hv (zdec_ok h1) ?_
        cases o with
        | none => exact fall h2 hk H locs ls hP hD hS hl
        | some r => exact fall h2 hk H locs ls hP hD hS hl
      next => cases h3
    next => cases h3
  | putfield x0 =>
    simp only [zspec, Bool.and_eq_true, decide_eq_true_eq] at hs
    obtain ⟨⟨h1, h2⟩, h3⟩ := hs
    obtain ⟨x, q, k', ci, j, b, as, fs, rfl, rfl, hq, hj, hz, hk⟩ := zputf_inv (K := K) h
    split at h3
    next ci' j' z' a1 a2 as' heq =>
      cases heq
      split at h3
      next q3 hq3 =>
        simp only [Bool.and_eq_true, decide_eq_true_eq] at h3
        obtain ⟨⟨⟨⟨g1, g2⟩, g3⟩, g4⟩, g5⟩ := h3
        intro H locs ls hP hD hS hl
        have hlink := hts _ (zwd_ok g4)
        have hv := zfs_get (ad := ad) (σ := σ) (k := q) hj
        obtain ⟨ty0, hty, hnm⟩ := (ztbl_in ci q3 hq3).2
        obtain ⟨ty, hd, hn, hfit⟩ : ∃ ty, parseFieldDescriptor (q3.2.1 j).2.2.1 = some ty ∧ narrow ty (.int x) = .int x ∧ fits ty (.int x) = true := by
          rw [g5]
          by_cases hb0 : b = 0
          · rw [if_pos hb0]
            exact ⟨.int, by decide +kernel, rfl, rfl⟩
          · rw [if_neg hb0]
            rcases hz with hz | rfl | rfl
            · exact absurd hz hb0
            · exact ⟨.boolean, by decide +kernel, by decide +kernel, by decide +kernel⟩
            · exact ⟨.boolean, by decide +kernel, by decide +kernel, by decide +kernel⟩
        have hx2 : (Sum.inr (ci, (zfs ad σ q fs).set j (.int x)) : va_E) = zcell cI cJ ad (zs σ q j x) q (.inr (.inr (ci, fs))) := by
          rw [zfs_set hj]
          rfl
        refine va_put (D := D) (cl := vwCl) (C := q3.1) (T := q3.2.1) (N := q3.2.2) (ci := ci) (v := .int x) hx hb hts (ztbl_in ci q3 hq3).1 ty0 hty hnm hown hK hP hD hS q (zW_get hq) hq3 j g1 hlink (fun z hz => by rw [g2] at hz; exact hz) g3 hd hn hfit (List.getElem?_eq_some_iff.mp hv).1 (zdec_ok h1) (fun H1 locs1 hP1 hD1 hS1 => ?_)
        exact fall h2 hk H1 locs1 ls (zP_set hq (fun k e' hk => zcell_zs k e' hk) hx2 hP1) (zD_set hq (fun k e' hk => zcell_zs (ad := ad) k e' hk) hx2 hD1) hS1 hl
      next => cases h3
    next => cases h3
  | iaload =>
    simp only [zspec, Bool.and_eq_true, decide_eq_true_eq] at hs
    obtain ⟨i, q, k', n, rfl, hq, hin, hk⟩ := ziald_inv (K := K) h
    intro H locs ls hP hD hS hl
    exact va_iald (D := D) (cl := vwCl) hx hb hK hP q 0 (zW_get hq) rfl hin (zdec_ok hs.1) (fall hs.2 hk H locs ls hP hD hS hl)
  | laload =>
    simp only [zspec, Bool.and_eq_true, decide_eq_true_eq] at hs
    obtain ⟨i, q, k', n, rfl, hq, hin, hk⟩ := zlald_inv (K := K) h
    intro H locs ls hP hD hS hl
    exact va_lald (D := D) (cl := vwCl) hx hb hK hP q 1 (zW_get hq) rfl hin (zdec_ok hs.1) (fall hs.2 hk H locs ls hP hD hS hl)
  | iastore =>
    simp only [zspec, Bool.and_eq_true, decide_eq_true_eq] at hs
    obtain ⟨x, i, q, k', n, rfl, hq, hin, hk⟩ := ziast_inv (K := K) h
    intro H locs ls hP hD hS hl
    have hx2 : (Sum.inl (cI, n, .inl (upd (σ.1 q) i.toNatClampNeg x)) : va_E) = zcell cI cJ ad (zs σ q i.toNatClampNeg x) q (.inl n) := by
      simp only [zcell, zs, zup_eq]
    exact va_iast (D := D) (cl := vwCl) hx hb hK hP hD hS q 0 (zW_get hq) rfl hin (zdec_ok hs.1) (fun H1 locs1 hP1 hD1 hS1 => fall hs.2 hk H1 locs1 ls (zP_set hq (fun k e' hk => zcell_zs k e' hk) hx2 hP1) (zD_set hq (fun k e' hk => zcell_zs (ad := ad) k e' hk) hx2 hD1) hS1 hl)
  | lastore =>
    simp only [zspec, Bool.and_eq_true, decide_eq_true_eq] at hs
    obtain ⟨x, i, q, k', n, rfl, hq, hin, hk⟩ := zlast_inv (K := K) h
    intro H locs ls hP hD hS hl
    have hx2 : (Sum.inl (cJ, n, .inr (.inl (vp_updL (σ.2 q) i.toNatClampNeg x))) : va_E) = zcell cI cJ ad (zsl σ q i.toNatClampNeg x) q (.inr (.inl n)) := by
      simp only [zcell, zsl, zup_eqL]
    exact va_last (D := D) (cl := vwCl) hx hb hK hP hD hS q 1 (zW_get hq) rfl hin (zdec_ok hs.1) (fun H1 locs1 hP1 hD1 hS1 => fall hs.2 hk H1 locs1 ls (zP_set hq (fun k e' hk => zcell_zsl k e' hk) hx2 hP1) (zD_set hq (fun k e' hk => zcell_zsl (ad := ad) k e' hk) hx2 hD1) hS1 hl)
  | arraylength =>
    simp only [zspec, Bool.and_eq_true, decide_eq_true_eq] at hs
    obtain ⟨q, k', n, rfl, hq, hk⟩ := zalen_inv (K := K) h
    intro H locs ls hP hD hS hl
    rcases hq with hq | hq
    · exact va_alen (D := D) (cl := vwCl) hx hb hK hP q 0 (zW_get hq) rfl rfl (zdec_ok hs.1) (fall hs.2 hk H locs ls hP hD hS hl)
    · exact va_alen (D := D) (cl := vwCl) hx hb hK hP q 1 (zW_get hq) rfl rfl (zdec_ok hs.1) (fall hs.2 hk H locs ls hP hD hS hl)
  | invokevirtual x0 =>
    simp only [zspec, Bool.and_eq_true, decide_eq_true_eq] at hs
    obtain ⟨⟨h1, h2⟩, h3⟩ := hs
    simp only [zstep] at h
    split at h
    next mm n r ci as =>
      split at h
      next hrc =>
        split at h3
        next mm' n' r' ci' a1 a2 as' heq =>
          cases heq
          obtain ⟨i1, i2, v', σ', hc, hk⟩ := zinv_inv (K := K) h
          obtain ⟨q, k', fs, hkd, hq⟩ := zrecv_inv hrc
          obtain ⟨y, hy1, hy2, hy3⟩ := hC _ _ _ _ hc
          rw [hy1] at h3
          simp only [Bool.and_eq_true, decide_eq_true_eq] at h3
          obtain ⟨⟨⟨⟨g1, g2⟩, g3⟩, g4⟩, g5⟩ := h3
          refine zcallV hx hb hml hown hts hK hN hA hy2 hy3 i1 hkd hq g4 g2 g3 (zwd_ok g1) (zdec_ok h1) i2 ?_
          rcases hk with ⟨-, rfl, hk⟩ | ⟨-, x, rfl, hk⟩ | ⟨x, rfl, hk⟩ <;> exact fall h2 hk
        next heq => cases heq
        next => cases h3
      next => cases h
    next => cases h
  | invokestatic x0 =>
    simp only [zspec, Bool.and_eq_true, decide_eq_true_eq] at hs
    obtain ⟨⟨h1, h2⟩, h3⟩ := hs
    simp only [zstep] at h
    split at h
    next mm n r z as =>
      split at h3
      next mm' n' r' z' a1 a2 as' heq =>
        cases heq
        obtain ⟨i1, i2, v', σ', hc, hk⟩ := zinv_inv (K := K) h
        obtain ⟨y, hy1, hy2, hy3⟩ := hC _ _ _ _ hc
        rw [hy1] at h3
        simp only [Bool.and_eq_true, decide_eq_true_eq] at h3
        obtain ⟨⟨⟨g1, g2⟩, g3⟩, g4⟩ := h3
        refine zcallS (z := z) hx hb hml hown hts hK hN hA hy2 hy3 i1 g2 g3 ?_ (zdec_ok h1) i2 ?_
        · by_cases hz : z = 0
          · rw [if_pos hz] at g1 ⊢
            exact zwd_ok g1
          · rw [if_neg hz] at g1 ⊢
            exact of_decide_eq_true g1
        · rcases hk with ⟨-, rfl, hk⟩ | ⟨-, x, rfl, hk⟩ | ⟨x, rfl, hk⟩ <;> exact fall h2 hk
      next heq => cases heq
      next => cases h3
    next hno =>
      obtain ⟨n, dp, b, sp, a, k', n0, n1, rfl, hsum, ⟨b1, b2, b3, b4, b5⟩, hcp⟩ := zcopy_inv (K := K) h
      split at h3
      next mm' n' r' z' a1 a2 as' => exact absurd rfl (hno _ _ _ _ _)
      next a1 a2 =>
        intro H locs ls hP hD hS hl
        have hroom : ((k'.map (zc ad)).map fun v => v.category).sum + (nativeFrameWords "java/lang/System" "arraycopy" 5 + 11) ≤ (zrm (d + 1)).locals := by
          rw [zw_sum]
          have : nativeFrameWords "java/lang/System" "arraycopy" 5 = 7 := by decide +kernel
          show _ ≤ 40 * (d + 1)
          omega
        have w1 : Cond.native arraycopyName ∈ zTb := zwd_ok (a := 2) (b := 118) (by decide +kernel)
        have w2 : Cond.static arraycopyName ∈ zTb := zwd_ok (a := 2) (b := 117) (by decide +kernel)
        have w3 : Cond.initialized "java/lang/System" ∈ zTb := zwd_ok (a := 1) (b := 10) (by decide +kernel)
        rcases hcp with ⟨hq0, hq1, hk⟩ | ⟨hq0, hq1, hk⟩
        · have hx2 : (Sum.inl (cI, n1, .inl (va_cpy (σ.1 a) (σ.1 b) sp.toNatClampNeg dp.toNatClampNeg n.toNatClampNeg)) : va_E) = zcell cI cJ ad (zsc σ a b sp.toNatClampNeg dp.toNatClampNeg n.toNatClampNeg) b (.inl n1) := by
            simp only [zcell, zsc, zcp_eq]
          exact va_copyi (ty := .int) hx hb (hml.trans hl.1.symm) hown (hts _ (zwd_ok h3)) (hts _ w1) (hts _ w2) (hts _ w3) hK hP hD hS a b 0 0 (zW_get hq0) (zW_get hq1) rfl rfl rfl b1 b2 b3 b4 b5 (fun _ _ => rfl) (Nat.le_add_left 1 d) hroom (zdec_ok h1) (fun H1 locs1 hP1 hD1 hS1 => fall h2 hk H1 locs1 ls (zP_set hq1 (fun k e' hk => zcell_zsc k e' hk) hx2 hP1) (zD_set hq1 (fun k e' hk => zcell_zsc (ad := ad) k e' hk) hx2 hD1) hS1 hl)
        · have hx2 : (Sum.inl (cJ, n1, .inr (.inl (va_cpy (σ.2 a) (σ.2 b) sp.toNatClampNeg dp.toNatClampNeg n.toNatClampNeg))) : va_E) = zcell cI cJ ad (zslc σ a b sp.toNatClampNeg dp.toNatClampNeg n.toNatClampNeg) b (.inr (.inl n1)) := by
            simp only [zcell, zslc, zcp_eq]
          exact va_copyl (ty := .long) hx hb (hml.trans hl.1.symm) hown (hts _ (zwd_ok h3)) (hts _ w1) (hts _ w2) (hts _ w3) hK hP hD hS a b 1 1 (zW_get hq0) (zW_get hq1) rfl rfl rfl b1 b2 b3 b4 b5 (fun _ _ => rfl) (Nat.le_add_left 1 d) hroom (zdec_ok h1) (fun H1 locs1 hP1 hD1 hS1 => fall h2 hk H1 locs1 ls (zP_set hq1 (fun k e' hk => zcell_zslc k e' hk) hx2 hP1) (zD_set hq1 (fun k e' hk => zcell_zslc (ad := ad) k e' hk) hx2 hD1) hS1 hl)
      next => cases h3
  | ireturn =>
    simp only [zspec] at hs
    simp only [zstep] at h
    split at h
    next x =>
      split at h
      next =>
        cases h
        intro H locs ls hP hD hS hl
        exact W.iret hx hb (hr.trans hret) (fun t ht hW => ⟨⟨x, (), rfl, rfl, by rw [ht]; exact hP, va_K.moved hW.alike hK, hD⟩, hS.F ht⟩) hS.2.2 (zdec_ok hs) hlocks
      next =>
        obtain ⟨hz, h⟩ := zbo_inv h
        cases h
        intro H locs ls hP hD hS hl
        exact W.zret (ty := .boolean) hx hb (hr.trans hret) (by rcases hz with rfl | rfl <;> decide +kernel) (fun t ht hW => ⟨⟨x, (), rfl, rfl, by rw [ht]; exact hP, va_K.moved hW.alike hK, hD⟩, hS.F ht⟩) hS.2.2 (zdec_ok hs) hlocks
      next => cases h
    next => cases h
  | lreturn =>
    simp only [zspec] at hs
    simp only [zstep] at h
    split at h
    next x =>
      split at h
      next =>
        cases h
        intro H locs ls hP hD hS hl
        exact W.lret hx hb (hr.trans hret) (fun t ht hW => ⟨⟨x, (), rfl, rfl, by rw [ht]; exact hP, va_K.moved hW.alike hK, hD⟩, hS.F ht⟩) hS.2.2 (zdec_ok hs) hlocks
      next => cases h
    next => cases h
  | return_ =>
    simp only [zspec] at hs
    simp only [zstep] at h
    split at h
    next =>
      split at h
      next =>
        cases h
        intro H locs ls hP hD hS hl
        exact W.vret hx hb (hr.trans hret) (fun t ht hW => ⟨⟨(), rfl, trivial, by rw [ht]; exact hP, va_K.moved hW.alike hK, hD⟩, hS.F ht⟩) hS.2.2 (zdec_ok hs) hlocks
      next => cases h
    next => cases h
  | _ => exact absurd (show (none : zR) = some res from h) (by intro h9; cases h9)
end ZST
end
section
/-- Met.ofW, for a method of which it is known that no entry runs in its place -/
theorem zofW {l : Launch} {y : MethodName} {ws ws' : List Cond} {rm : Room} {Pc : Array Value → State → Prop} {Qc : Array Value → State → Outcome → State → Prop} {mc ms : Nat} {free : Addr → Prop} {cc : ByteArray} {maxL : Nat} {ret : Option FieldType}
    (hy : plainFor y = true) (hw : ws = Cond.code y cc maxL ret :: ws')
    (body : ∀ p e s m args below meth c s₁, BodyLoose p l y (headSpec ws rm) cc maxL ret e s m args below meth c s₁ → c.maxLocals = maxL → Pc args s →
      W p l e (headSpec ws rm).room s m args below meth c s.heap [] 0 0 (MQ below Qc args s mc ms free) (entryFrame m args maxL)) : Met l y ws rm Pc Qc mc ms free := by
  refine MetFree.of_bodySF (code := cc) (maxLocals := maxL) (ret := ret) hy ?_ ?_
  · intro args s m h hn
    obtain ⟨meth, c, h1, h2, h3, h4, h5, h6, -, -⟩ := Cond.code_spec hn (atoms_spec (ws := ws) h _ (by rw [hw]; exact List.mem_cons_self))
    exact ⟨meth, c, h1, h2, h3, h4, h5, h6⟩
  · intro p e s m args below meth c s₁ B hml hP _
    have hh0 : s₁.heap = s.heap := by rw [B.state]; rfl
    obtain ⟨t, a1, o, b1, b2, b3⟩ := body p e s m args below meth c s₁ B hml hP s₁ hh0 (Stand.of_body B)
    exact ⟨t, o, a1, b1, b2, ⟨b3.1, b3.2⟩⟩
section ZCL
variable {p : Program} {l : Launch} {e : Env} {s : State} {m : MethodId} {args : Array Value} {below : List Frame} {meth : Method} {c : Code} {cc : ByteArray} {A : Nat → Prop} {D : va_G} {cI cJ : ClassId} {ad : Nat → Nat} {sk : List zE} {own : String} {nL : Nat} {Ms : List zMeth} {C : Nat → List zV → zS → zR} {T : zT} {rk d : Nat} {res : Option zV × zS} {ret0 : Option FieldType} {J : Nat → zL → List zV → zS → zR}
theorem zdrop_get {n : Nat} {e' : zEnt} {es' : zT} (h : T.drop n = e' :: es') : T[n]? = some e' ∧ es' = T.drop (n + 1) := by
  have h1 : T[n]? = some e' := by
    have := congrArg (fun l => l[0]?) h
    simpa [List.getElem?_drop] using this
  refine ⟨h1, ?_⟩
  have := congrArg (List.drop 1) h
  simpa [List.drop_drop] using this.symm
theorem zline_ok
    (hx : p.tables.exec = Jvm.exec) (hb : c.code = cc) (hr : meth.sig.returnType = ret0) (hret : ret0 = (match rk with
      | 0 => none
      | 1 => some .int
      | 2 => some .long
      | _ => some .boolean)) (hml : c.maxLocals = nL) (hown : s.vm.findClass own = some m.cls) (hts : ∀ w ∈ zTb, w.before args s = true) (hlocks : meth.locks = false) (hK : va_K D vwCl [(cI, .int), (cJ, .long)] s) (hN : zNk s) (hA : ∀ q : Nat, s.heap.size ≤ q → A q)
    (hC : ∀ mm as τ r', C mm as τ = some r' → ∃ y, Ms[mm]? = some y ∧ zmok Ms y ∧ zMet l D cI cJ ad sk (zrm d) y as τ r')
    (hcut : ∀ (n : Nat) (e' : zEnt), T[n]? = some e' → e'.2.2.1 = 0 ∨ e'.2.2.1 = n + 1)
    (hsp : ∀ (n : Nat) (e' : zEnt), T[n]? = some e' → zspec Ms own cc nL T e'.1 e'.2.1 e'.2.2.2.1 e'.2.2.2.2.1 e'.2.2.2.2.2.1 (T.drop (n + 1)) = true)
    (hJ : ∀ (o : Nat) (e' : zEnt) (es' : zT) (lo' : zL) (k' : List zV) (σ' : zS), T.drop o = e' :: es' → J o lo' k' σ' = some res → zAt p l e (zrm (d + 1)) s m args below meth c A D cI cJ ad sk nL (MQ below (zQ D cI cJ ad sk res A) args s 0 0 A) e'.1 lo' k' σ') :
    ∀ (g n : Nat) (e' : zEnt) (es' : zT) (lo : zL) (k : List zV) (σ : zS), T.drop n = e' :: es' → zline sk C J T rk g (e' :: es') lo k σ = some res → zAt p l e (zrm (d + 1)) s m args below meth c A D cI cJ ad sk nL (MQ below (zQ D cI cJ ad sk res A) args s 0 0 A) e'.1 lo k σ := by
  intro g
  induction g with
  | zero => intro n e' es' lo k σ he h; cases h
  | succ g ih =>
    intro n e' es' lo k σ he h
    obtain ⟨h1, h2⟩ := zdrop_get he
    have hs := hsp n e' h1
    rw [← h2] at hs
    unfold zline at h
    dsimp only at h
    refine zstep_ok hx hb hr hret hml hown hts hlocks hK hN hA hC ?_ hs h
    intro e2 es2 lo2 k2 σ2 hpos hk
    obtain ⟨n2, hn2⟩ : ∃ n2, T.drop n2 = e2 :: es2 := by
      rcases hpos with hp | ⟨a, ha⟩
      · exact ⟨n + 1, by rw [← h2, hp]⟩
      · exact ⟨a, ha⟩
    have hg := (zdrop_get hn2).1
    have hc := hcut n2 e2 hg
    dsimp only at hk
    rcases hc with hc | hc
    · rw [hc] at hk
      exact ih n2 e2 es2 lo2 k2 σ2 hn2 hk
    · rw [hc] at hk
      have hz := hJ n2 e2 es2 _ k2 σ2 hn2 hk
      intro H locs ls hP hD hS hl
      exact hz H locs ls hP hD hS (zloc_mask _ hl)
theorem zexec_ok
    (hx : p.tables.exec = Jvm.exec) (hb : c.code = cc) (hr : meth.sig.returnType = ret0) (hret : ret0 = (match rk with
      | 0 => none
      | 1 => some .int
      | 2 => some .long
      | _ => some .boolean)) (hml : c.maxLocals = nL) (hown : s.vm.findClass own = some m.cls) (hts : ∀ w ∈ zTb, w.before args s = true) (hlocks : meth.locks = false) (hK : va_K D vwCl [(cI, .int), (cJ, .long)] s) (hN : zNk s) (hA : ∀ q : Nat, s.heap.size ≤ q → A q)
    (hC : ∀ mm as τ r', C mm as τ = some r' → ∃ y, Ms[mm]? = some y ∧ zmok Ms y ∧ zMet l D cI cJ ad sk (zrm d) y as τ r')
    (hcut : ∀ (n : Nat) (e' : zEnt), T[n]? = some e' → e'.2.2.1 = 0 ∨ e'.2.2.1 = n + 1)
    (hsp : ∀ (n : Nat) (e' : zEnt), T[n]? = some e' → zspec Ms own cc nL T e'.1 e'.2.1 e'.2.2.2.1 e'.2.2.2.2.1 e'.2.2.2.2.2.1 (T.drop (n + 1)) = true) :
    ∀ (n o : Nat) (e' : zEnt) (es' : zT) (lo : zL) (k : List zV) (σ : zS), T.drop o = e' :: es' → zexec sk C T rk n o lo k σ = some res → zAt p l e (zrm (d + 1)) s m args below meth c A D cI cJ ad sk nL (MQ below (zQ D cI cJ ad sk res A) args s 0 0 A) e'.1 lo k σ := by
  intro n
  induction n with
  | zero => intro o e' es' lo k σ he h; cases h
  | succ n ih =>
    intro o e' es' lo k σ he h
    have h1 : zline sk C (zexec sk C T rk n) T rk 500 (T.drop o) lo k σ = some res := h
    rw [he] at h1
    exact zline_ok hx hb hr hret hml hown hts hlocks hK hN hA hC hcut hsp ih 500 o e' es' lo k σ he h1
/-- THE SMALL MACHINE IS RIGHT: what a call of depth d answers, the method answers in the room of depth d -/
theorem zcall_ok (hMs : ∀ (mm : Nat) (y : zMeth), Ms[mm]? = some y → zmok Ms y) : ∀ (d mm : Nat) (as : List zV) (σ : zS) (res : Option zV × zS), zcall Ms sk d mm as σ = some res → ∃ y, Ms[mm]? = some y ∧ zmok Ms y ∧ zMet l D cI cJ ad sk (zrm d) y as σ res := by
  intro d
  induction d with
  | zero => intro mm as σ res h; cases h
  | succ d ih =>
    intro mm as σ res h
    unfold zcall at h
    split at h
    next y1 b nL r np st rk T hy =>
      split at h
      next hn =>
        refine ⟨_, hy, hMs mm _ hy, ?_⟩
        obtain ⟨m1, m2, m3, m4, m5, m6, m7, m8, m9, m10, m11⟩ := hMs mm _ hy
        intro sz
        refine zofW (cc := b) (maxL := nL) (ret := r) m1 rfl ?_
        intro p e s m args below meth c s₁ B hml hv
        obtain ⟨rfl, hsz, hP, hK, hD0, hN⟩ := hv
        subst hsz
        have hts : ∀ w ∈ zTb, w.before ((as.map (zc ad)).toArray) s = true := fun w hw => atoms_spec (ws := Cond.code y1 b nL r :: zTb) B.pre w (List.mem_cons_of_mem _ hw)
        have hown : s.vm.findClass y1.cls = some m.cls := findClass_of_methodNamed B.named
        rw [lg_entry_eq]
        obtain ⟨e0, he0, hpc⟩ := Option.map_eq_some_iff.mp m9
        have hT : T.drop 0 = e0 :: T.drop 1 := by
          obtain ⟨hl, hg⟩ := List.getElem?_eq_some_iff.mp he0
          rw [List.drop_eq_getElem_cons hl]
          rw [show T[0] = e0 from hg]
        have hz := zexec_ok (e := e) (below := below) (A := va_A (zW cI cJ ad sk σ) s.heap.size) (D := D) (cI := cI) (cJ := cJ) (ad := ad) B.exec B.bytes B.returns m7 hml hown hts B.notSynchronized hK hN (fun q hq => Or.inr hq) ih m10 m11 zN 0 e0 (T.drop 1) _ _ _ hT h
        rw [hpc] at hz
        exact hz s.heap [] _ hP hD0.self va_S.rf (zloc_entry ad as nL (Nat.le_of_ble_eq_true hn))
      next => cases h
    next => cases h
end ZCL
end
section
/-! CONSTRUCTORS: a small machine that makes cells. A field: none an int, some none null, some (some q) the cell at place q. -/
abbrev yE : Type := Nat ⊕ (Nat ⊕ (Nat × List (Option (Option Nat))))
abbrev yS : Type := List yE × zS
abbrev yR : Type := Option (yS × Nat × Nat)
abbrev yK : Type := zT → zL → List zV → yS → yR
def yadd (c n : Nat) : yR → yR
  | some r => some (r.1, c + r.2.1, n + r.2.2)
  | none => none
def yzero (σ : zS) (q : Nat) : zS := (fun a j => if a = q then 0 else σ.1 a j, fun a j => if a = q then 0 else σ.2 a j)
def yfill (σ : zS) (q n : Nat) (v : Int32) : zS := (fun a j => if a = q then (if j < n then v else σ.1 a j) else σ.1 a j, σ.2)
def yraw (bs : List Nat) : List (Option (Option Nat)) := bs.map (fun b => match b with
  | 0 => none
  | _ => some none)
/-- all references are to cells that are there -/
def yinV (n : Nat) : zV → Bool
  | .inr (.inr q) => Nat.blt q n
  | _ => true
def yinO (n : Nat) : Option zV → Bool
  | some v => yinV n v
  | none => true
def yinE (n : Nat) : yE → Bool
  | .inr (.inr o) => o.2.all (fun f => match f with
    | some (some q) => Nat.blt q n
    | _ => true)
  | _ => true
def yin (S : yS) (lo : zL) (k : List zV) : Bool := lo.all (yinO S.1.length) && k.all (yinV S.1.length) && S.1.all (yinE S.1.length)
def ygd (b : Bool) (r : yR) : yR := match b with
  | true => r
  | false => none
def ystep (C : Nat → Nat → yS → yR) (T : zT) (K : yK) (i : Instr) (v : Int32) (aux : List Nat) (es : zT) (lo : zL) (k : List zV) (S : yS) : yR := match i with
  | .aload_n i => match lo[i.val]? with
    | some (some (.inr (.inr x))) => K es lo (.inr (.inr x) :: k) S
    | _ => none
  | .iload_n i => match lo[i.val]? with
    | some (some (.inl x)) => K es lo (.inl x :: k) S
    | _ => none
  | .iconst _ => K es lo (.inl v :: k) S
  | .bipush _ => K es lo (.inl v :: k) S
  | .sipush _ => K es lo (.inl v :: k) S
  | .istore_n i => match k with
    | .inl x :: k => ygd (zfree lo i.val) (K es (lo.set i.val (some (.inl x))) k S)
    | _ => none
  | .iinc i _ => match lo[i]? with
    | some (some (.inl x)) => ygd (zfree lo i) (K es (lo.set i (some (.inl (x + v)))) k S)
    | _ => none
  | .if_icmp .ge _ => match k, aux with
    | .inl y :: .inl x :: k, a :: _ => if y ≤ x then K (T.drop a) lo k S else K es lo k S
    | _, _ => none
  | .goto _ => match aux with
    | a :: _ => K (T.drop a) lo k S
    | _ => none
  | .dup => match k with
    | .inr (.inr x) :: k => K es lo (.inr (.inr x) :: .inr (.inr x) :: k) S
    | _ => none
  | .new _ => match aux with
    | ci :: N :: _ :: _ :: _ :: _ :: _ :: _ :: bs => ygd (yin S lo k) (yadd 1 N (K es lo (.inr (.inr S.1.length) :: k) (S.1 ++ [.inr (.inr (ci, yraw bs))], yzero S.2 S.1.length)))
    | _ => none
  | .newarray t => match k with
    | .inl n :: k => match t with
      | .int => ygd (yin S lo k) (if n < 0 ∨ 100000 < n.toNatClampNeg then none else yadd 1 n.toNatClampNeg (K es lo (.inr (.inr S.1.length) :: k) (S.1 ++ [.inl n.toNatClampNeg], yzero S.2 S.1.length)))
      | .long => ygd (yin S lo k) (if n < 0 ∨ 10000 < n.toNatClampNeg then none else yadd 1 n.toNatClampNeg (K es lo (.inr (.inr S.1.length) :: k) (S.1 ++ [.inr (.inl n.toNatClampNeg)], yzero S.2 S.1.length)))
      | _ => none
    | _ => none
  | .putfield _ => match aux with
    | ci :: j :: bk :: _ => match k with
      | .inl x :: .inr (.inr q) :: k => match S.1[q]? with
        | some (.inr (.inr (c, fs))) => ygd (Nat.beq c ci && Nat.beq bk 0) (match fs[j]? with
          | some none => K es lo k (S.1, zs S.2 q j x)
          | _ => none)
        | _ => none
      | .inr (.inr r) :: .inr (.inr q) :: k => match S.1[q]? with
        | some (.inr (.inr (c, fs))) => ygd (Nat.beq c ci && Nat.beq bk 1) (match fs[j]? with
          | some (some _) => K es lo k (S.1.set q (.inr (.inr (ci, fs.set j (some (some r))))), S.2)
          | _ => none)
        | _ => none
      | _ => none
    | _ => none
  | .getfield _ => match aux with
    | ci :: j :: _ => match k with
      | .inr (.inr q) :: k => match S.1[q]? with
        | some (.inr (.inr (c, fs))) => ygd (Nat.beq c ci) (match fs[j]? with
          | some (some (some r)) => K es lo (.inr (.inr r) :: k) S
          | _ => none)
        | _ => none
      | _ => none
    | _ => none
  | .iastore => match k with
    | .inl x :: .inl i :: .inr (.inr q) :: k => match S.1[q]? with
      | some (.inl n) => if i < 0 ∨ n ≤ i.toNatClampNeg then none else K es lo k (S.1, zs S.2 q i.toNatClampNeg x)
      | _ => none
    | _ => none
  | .invokespecial _ => match aux with
    | 0 :: _ => match k with
      | .inr (.inr _) :: k => ygd (Nat.ble ((k.map zw).sum) 8) (K es lo k S)
      | _ => none
    | _ :: m :: _ => match k with
      | .inr (.inr q) :: k => ygd (Nat.ble ((k.map zw).sum) 8 && yin S lo k) (match C m q S with
        | some r => ygd (Nat.ble S.1.length r.1.1.length) (yadd r.2.1 r.2.2 (K es lo k r.1))
        | none => none)
      | _ => none
    | _ => none
  | .invokestatic _ => match k with
    | .inl x :: .inr (.inr q) :: k => ygd (Nat.ble ((k.map zw).sum) 8) (match S.1[q]? with
      | some (.inl 8) => K es lo k (S.1, yfill S.2 q 8 x)
      | _ => none)
    | _ => none
  | .return_ => match k with
    | [] => some (S, 0, 0)
    | _ => none
  | _ => none
def yrun (C : Nat → Nat → yS → yR) (T : zT) : Nat → yK
  | 0 => fun _ _ _ _ => none
  | g + 1 => fun es lo k S => match es with
    | [] => none
    | e :: es => ystep C T (yrun C T g) e.2.1 e.2.2.2.1 e.2.2.2.2.2.1 es lo k S
def ycall (Ms : List zMeth) : Nat → Nat → Nat → yS → yR
  | 0 => fun _ _ _ => none
  | d + 1 => fun m q S => match Ms[m]? with
    | some (_, _, nL, _, _, _, _, T) => match nL with
      | 0 => none
      | n + 1 => yrun (ycall Ms d) T 500 T (some (.inr (.inr q)) :: List.replicate n none) [] S
    | none => none
end
section
def yT_Applying : zT := [(0, .aload_n 0, 0, 0, 0, [], []), (1, .invokespecial 3, 0, 0, 0, [0, 1, 94, 1, 19, 1, 20], []), (4, .aload_n 0, 0, 0, 0, [], []), (5, .iconst 4, 0, 4, 0, [], []), (6, .newarray .int, 0, 0, 0, [1, 88], []), (8, .putfield 9, 0, 0, 0, [0, 0, 1, 1, 95], []), (11, .aload_n 0, 0, 0, 0, [], []), (12, .sipush 128, 0, 128, 0, [], []), (15, .newarray .int, 0, 0, 0, [1, 88], []), (17, .putfield 15, 0, 0, 0, [0, 1, 1, 1, 98], []), (20, .aload_n 0, 0, 0, 0, [], []), (21, .bipush 32, 0, 32, 0, [], []), (23, .newarray .int, 0, 0, 0, [1, 88], []), (25, .putfield 18, 0, 0, 0, [0, 2, 1, 1, 99], []), (28, .aload_n 0, 0, 0, 0, [], []), (29, .bipush 32, 0, 32, 0, [], []), (31, .newarray .int, 0, 0, 0, [1, 88], []), (33, .putfield 21, 0, 0, 0, [0, 3, 1, 1, 100], []), (36, .return_, 0, 0, 0, [], [])]
def yI_Applying : zMeth := (yX0_init, cX0_init, 1, none, 0, false, 0, yT_Applying)
def yT_Merge : zT := [(0, .aload_n 0, 0, 0, 0, [], []), (1, .invokespecial 3, 0, 0, 0, [0, 1, 201, 1, 19, 1, 20], []), (4, .aload_n 0, 0, 0, 0, [], []), (5, .iconst 3, 0, 3, 0, [], []), (6, .newarray .int, 0, 0, 0, [1, 88], []), (8, .putfield 9, 0, 0, 0, [1, 0, 1, 1, 202], []), (11, .aload_n 0, 0, 0, 0, [], []), (12, .bipush 16, 0, 16, 0, [], []), (14, .newarray .int, 0, 0, 0, [1, 88], []), (16, .putfield 15, 0, 0, 0, [1, 2, 1, 1, 207], []), (19, .aload_n 0, 0, 0, 0, [], []), (20, .bipush 64, 0, 64, 0, [], []), (22, .newarray .int, 0, 0, 0, [1, 88], []), (24, .putfield 18, 0, 0, 0, [1, 4, 1, 1, 213], []), (27, .aload_n 0, 0, 0, 0, [], []), (28, .iconst 4, 0, 4, 0, [], []), (29, .newarray .int, 0, 0, 0, [1, 88], []), (31, .putfield 21, 0, 0, 0, [1, 5, 1, 1, 214], []), (34, .aload_n 0, 0, 0, 0, [], []), (35, .iconst 4, 0, 4, 0, [], []), (36, .newarray .int, 0, 0, 0, [1, 88], []), (38, .putfield 24, 0, 0, 0, [1, 6, 1, 1, 215], []), (41, .return_, 0, 0, 0, [], [])]
def yI_Merge : zMeth := (yX1_init, cX1_init, 1, none, 0, false, 0, yT_Merge)
def yT_Reader : zT := [(0, .aload_n 0, 0, 0, 0, [], []), (1, .invokespecial 3, 0, 0, 0, [0, 1, 236, 1, 19, 1, 20], []), (4, .aload_n 0, 0, 0, 0, [], []), (5, .sipush 160, 0, 160, 0, [], []), (8, .newarray .int, 0, 0, 0, [1, 88], []), (10, .putfield 9, 0, 0, 0, [2, 1, 1, 1, 239], []), (13, .return_, 0, 0, 0, [], [])]
def yI_Reader : zMeth := (yX2_init, cX2_init, 1, none, 0, false, 0, yT_Reader)
def yT_Runner : zT := [(0, .aload_n 0, 0, 0, 0, [], []), (1, .invokespecial 5, 0, 0, 0, [0, 1, 26, 1, 19, 1, 20], []), (4, .aload_n 0, 0, 0, 0, [], []), (5, .new 11, 0, 0, 0, [5, 12, 1, 27, 1, 28, 1, 3, 0, 0, 0, 1, 1, 1, 1, 1, 1, 1, 1, 1], []), (8, .dup, 0, 0, 0, [], []), (9, .invokespecial 13, 0, 0, 0, [1, 5, 1, 1, 29], []), (12, .putfield 14, 0, 0, 0, [3, 0, 1, 1, 110], []), (15, .aload_n 0, 0, 0, 0, [], []), (16, .new 18, 0, 0, 0, [0, 4, 1, 89, 1, 90, 1, 4, 1, 1, 1, 1], []), (19, .dup, 0, 0, 0, [], []), (20, .invokespecial 20, 0, 0, 0, [1, 0, 1, 1, 91], []), (23, .putfield 21, 0, 0, 0, [3, 1, 1, 1, 112], []), (26, .aload_n 0, 0, 0, 0, [], []), (27, .bipush 30, 0, 30, 0, [], []), (29, .newarray .int, 0, 0, 0, [1, 88], []), (31, .putfield 25, 0, 0, 0, [3, 2, 1, 1, 114], []), (34, .aload_n 0, 0, 0, 0, [], []), (35, .sipush 804, 0, 804, 0, [], []), (38, .newarray .int, 0, 0, 0, [1, 88], []), (40, .putfield 29, 0, 0, 0, [3, 13, 1, 1, 129], []), (43, .aload_n 0, 0, 0, 0, [], []), (44, .bipush 16, 0, 16, 0, [], []), (46, .newarray .int, 0, 0, 0, [1, 88], []), (48, .putfield 32, 0, 0, 0, [3, 15, 1, 1, 131], []), (51, .aload_n 0, 0, 0, 0, [], []), (52, .bipush 16, 0, 16, 0, [], []), (54, .newarray .int, 0, 0, 0, [1, 88], []), (56, .putfield 35, 0, 0, 0, [3, 16, 1, 1, 132], []), (59, .aload_n 0, 0, 0, 0, [], []), (60, .bipush 16, 0, 16, 0, [], []), (62, .newarray .int, 0, 0, 0, [1, 88], []), (64, .putfield 38, 0, 0, 0, [3, 17, 1, 1, 133], []), (67, .return_, 0, 0, 0, [], [])]
def yI_Runner : zMeth := (yX3_init, cX3_init, 1, none, 0, false, 0, yT_Runner)
def yT_Shelves : zT := [(0, .aload_n 0, 0, 0, 0, [], []), (1, .invokespecial 3, 0, 0, 0, [0, 1, 178, 1, 19, 1, 20], []), (4, .aload_n 0, 0, 0, 0, [], []), (5, .bipush 8, 0, 8, 0, [], []), (7, .newarray .int, 0, 0, 0, [1, 88], []), (9, .putfield 9, 0, 0, 0, [4, 0, 1, 1, 182], []), (12, .aload_n 0, 0, 0, 0, [], []), (13, .bipush 8, 0, 8, 0, [], []), (15, .newarray .int, 0, 0, 0, [1, 88], []), (17, .putfield 15, 0, 0, 0, [4, 1, 1, 1, 184], []), (20, .aload_n 0, 0, 0, 0, [], []), (21, .sipush 1280, 0, 1280, 0, [], []), (24, .newarray .long, 0, 0, 0, [1, 195], []), (26, .putfield 18, 0, 0, 0, [4, 2, 1, 1, 187], []), (29, .aload_n 0, 0, 0, 0, [], []), (30, .getfield 9, 0, 0, 0, [4, 0, 1, 182], []), (33, .iconst (-1), 0, (-1), 0, [], []), (34, .invokestatic 22, 0, 0, 0, [220, 1, 179], []), (37, .return_, 0, 0, 0, [], [])]
def yI_Shelves : zMeth := (yX4_init, cX4_init, 1, none, 0, false, 0, yT_Shelves)
def yT_World : zT := [(0, .aload_n 0, 0, 0, 0, [], []), (1, .invokespecial 3, 0, 0, 0, [0, 1, 32, 1, 19, 1, 20], []), (4, .aload_n 0, 0, 0, 0, [], []), (5, .iconst 1, 0, 1, 0, [], []), (6, .putfield 9, 0, 0, 0, [5, 2, 0, 1, 39], []), (9, .aload_n 0, 0, 0, 0, [], []), (10, .bipush 16, 0, 16, 0, [], []), (12, .newarray .int, 0, 0, 0, [1, 88], []), (14, .putfield 15, 0, 0, 0, [5, 3, 1, 1, 41], []), (17, .aload_n 0, 0, 0, 0, [], []), (18, .bipush 16, 0, 16, 0, [], []), (20, .newarray .int, 0, 0, 0, [1, 88], []), (22, .putfield 19, 0, 0, 0, [5, 4, 1, 1, 44], []), (25, .aload_n 0, 0, 0, 0, [], []), (26, .bipush 48, 0, 48, 0, [], []), (28, .newarray .int, 0, 0, 0, [1, 88], []), (30, .putfield 22, 0, 0, 0, [5, 5, 1, 1, 46], []), (33, .aload_n 0, 0, 0, 0, [], []), (34, .bipush 16, 0, 16, 0, [], []), (36, .newarray .int, 0, 0, 0, [1, 88], []), (38, .putfield 25, 0, 0, 0, [5, 6, 1, 1, 47], []), (41, .aload_n 0, 0, 0, 0, [], []), (42, .sipush 256, 0, 256, 0, [], []), (45, .newarray .int, 0, 0, 0, [1, 88], []), (47, .putfield 28, 0, 0, 0, [5, 7, 1, 1, 50], []), (50, .aload_n 0, 0, 0, 0, [], []), (51, .sipush 256, 0, 256, 0, [], []), (54, .newarray .int, 0, 0, 0, [1, 88], []), (56, .putfield 31, 0, 0, 0, [5, 8, 1, 1, 52], []), (59, .aload_n 0, 0, 0, 0, [], []), (60, .sipush 256, 0, 256, 0, [], []), (63, .newarray .int, 0, 0, 0, [1, 88], []), (65, .putfield 34, 0, 0, 0, [5, 9, 1, 1, 55], []), (68, .aload_n 0, 0, 0, 0, [], []), (69, .sipush 256, 0, 256, 0, [], []), (72, .newarray .int, 0, 0, 0, [1, 88], []), (74, .putfield 37, 0, 0, 0, [5, 10, 1, 1, 58], []), (77, .aload_n 0, 0, 0, 0, [], []), (78, .sipush 192, 0, 192, 0, [], []), (81, .newarray .int, 0, 0, 0, [1, 88], []), (83, .putfield 40, 0, 0, 0, [5, 11, 1, 1, 61], []), (86, .return_, 0, 0, 0, [], [])]
def yI_World : zMeth := (yX5_init, cX5_init, 1, none, 0, false, 0, yT_World)
def yT_ProtoOrders : zT := [(0, .aload_n 0, 0, 0, 0, [], []), (1, .invokespecial 1, 0, 0, 0, [0, 1, 18, 1, 19, 1, 20], []), (4, .aload_n 0, 0, 0, 0, [], []), (5, .new 7, 0, 0, 0, [3, 18, 1, 21, 1, 22, 1, 2, 1, 1, 1, 0, 0, 0, 0, 0, 0, 0, 0, 0, 0, 1, 0, 1, 1, 1], []), (8, .dup, 0, 0, 0, [], []), (9, .invokespecial 9, 0, 0, 0, [1, 3, 1, 1, 23], []), (12, .putfield 10, 0, 0, 0, [6, 0, 1, 2, 17], []), (15, .aload_n 0, 0, 0, 0, [], []), (16, .aload_n 0, 0, 0, 0, [], []), (17, .getfield 10, 0, 0, 0, [6, 0, 2, 17], []), (20, .getfield 16, 0, 0, 0, [3, 0, 1, 111], []), (23, .putfield 20, 0, 0, 0, [6, 1, 1, 2, 18], []), (26, .aload_n 0, 0, 0, 0, [], []), (27, .new 21, 0, 0, 0, [5, 12, 1, 171, 1, 28, 1, 3, 0, 0, 0, 1, 1, 1, 1, 1, 1, 1, 1, 1], []), (30, .dup, 0, 0, 0, [], []), (31, .invokespecial 23, 0, 0, 0, [1, 5, 1, 1, 172], []), (34, .putfield 24, 0, 0, 0, [6, 2, 1, 2, 19], []), (37, .aload_n 0, 0, 0, 0, [], []), (38, .new 27, 0, 0, 0, [4, 3, 1, 173, 1, 174, 1, 5, 1, 1, 1], []), (41, .dup, 0, 0, 0, [], []), (42, .invokespecial 29, 0, 0, 0, [1, 4, 0, 1, 175], []), (45, .putfield 30, 0, 0, 0, [6, 3, 1, 2, 20], []), (48, .aload_n 0, 0, 0, 0, [], []), (49, .new 34, 0, 0, 0, [1, 7, 1, 196, 1, 197, 1, 7, 1, 0, 1, 0, 1, 1, 1], []), (52, .dup, 0, 0, 0, [], []), (53, .invokespecial 36, 0, 0, 0, [1, 1, 1, 1, 198], []), (56, .putfield 37, 0, 0, 0, [6, 4, 1, 2, 21], []), (59, .aload_n 0, 0, 0, 0, [], []), (60, .new 41, 0, 0, 0, [2, 6, 1, 231, 1, 232, 1, 8, 0, 1, 0, 0, 0, 0], []), (63, .dup, 0, 0, 0, [], []), (64, .invokespecial 43, 0, 0, 0, [1, 2, 1, 1, 233], []), (67, .putfield 44, 0, 0, 0, [6, 5, 1, 2, 22], []), (70, .aload_n 0, 0, 0, 0, [], []), (71, .bipush 8, 0, 8, 0, [], []), (73, .newarray .int, 0, 0, 0, [1, 88], []), (75, .putfield 48, 0, 0, 0, [6, 6, 1, 2, 23], []), (78, .aload_n 0, 0, 0, 0, [], []), (79, .iconst (-1), 0, (-1), 0, [], []), (80, .putfield 52, 0, 0, 0, [6, 8, 0, 2, 25], []), (83, .return_, 0, 0, 0, [], [])]
def yI_ProtoOrders : zMeth := (yX6_init, cX6_init, 1, none, 0, false, 0, yT_ProtoOrders)
def yT_ProtoOrdersModel : zT := [(0, .aload_n 0, 0, 0, 0, [], []), (1, .invokespecial 1, 0, 0, 0, [0, 4, 129, 1, 19, 1, 20], []), (4, .aload_n 0, 0, 0, 0, [], []), (5, .bipush 16, 0, 16, 0, [], []), (7, .newarray .int, 0, 0, 0, [1, 88], []), (9, .putfield 7, 0, 0, 0, [7, 1, 1, 4, 131], []), (12, .aload_n 0, 0, 0, 0, [], []), (13, .bipush 16, 0, 16, 0, [], []), (15, .newarray .int, 0, 0, 0, [1, 88], []), (17, .putfield 13, 0, 0, 0, [7, 2, 1, 4, 132], []), (20, .aload_n 0, 0, 0, 0, [], []), (21, .bipush 48, 0, 48, 0, [], []), (23, .newarray .int, 0, 0, 0, [1, 88], []), (25, .putfield 16, 0, 0, 0, [7, 3, 1, 4, 133], []), (28, .aload_n 0, 0, 0, 0, [], []), (29, .bipush 16, 0, 16, 0, [], []), (31, .newarray .int, 0, 0, 0, [1, 88], []), (33, .putfield 19, 0, 0, 0, [7, 4, 1, 4, 134], []), (36, .aload_n 0, 0, 0, 0, [], []), (37, .sipush 256, 0, 256, 0, [], []), (40, .newarray .int, 0, 0, 0, [1, 88], []), (42, .putfield 22, 0, 0, 0, [7, 5, 1, 4, 135], []), (45, .aload_n 0, 0, 0, 0, [], []), (46, .bipush 16, 0, 16, 0, [], []), (48, .newarray .int, 0, 0, 0, [1, 88], []), (50, .putfield 25, 0, 0, 0, [7, 6, 1, 4, 136], []), (53, .aload_n 0, 0, 0, 0, [], []), (54, .bipush 16, 0, 16, 0, [], []), (56, .newarray .int, 0, 0, 0, [1, 88], []), (58, .putfield 28, 0, 0, 0, [7, 7, 1, 4, 137], []), (61, .aload_n 0, 0, 0, 0, [], []), (62, .sipush 256, 0, 256, 0, [], []), (65, .newarray .int, 0, 0, 0, [1, 88], []), (67, .putfield 31, 0, 0, 0, [7, 8, 1, 4, 138], []), (70, .aload_n 0, 0, 0, 0, [], []), (71, .sipush 256, 0, 256, 0, [], []), (74, .newarray .int, 0, 0, 0, [1, 88], []), (76, .putfield 34, 0, 0, 0, [7, 9, 1, 4, 139], []), (79, .aload_n 0, 0, 0, 0, [], []), (80, .sipush 192, 0, 192, 0, [], []), (83, .newarray .int, 0, 0, 0, [1, 88], []), (85, .putfield 37, 0, 0, 0, [7, 11, 1, 4, 141], []), (88, .aload_n 0, 0, 0, 0, [], []), (89, .bipush 8, 0, 8, 0, [], []), (91, .newarray .int, 0, 0, 0, [1, 88], []), (93, .putfield 40, 0, 0, 0, [7, 13, 1, 4, 143], []), (96, .aload_n 0, 0, 0, 0, [], []), (97, .bipush 8, 0, 8, 0, [], []), (99, .newarray .int, 0, 0, 0, [1, 88], []), (101, .putfield 43, 0, 0, 0, [7, 14, 1, 4, 144], []), (104, .aload_n 0, 0, 0, 0, [], []), (105, .sipush 1280, 0, 1280, 0, [], []), (108, .newarray .long, 0, 0, 0, [1, 195], []), (110, .putfield 46, 0, 0, 0, [7, 15, 1, 4, 145], []), (113, .aload_n 0, 0, 0, 0, [], []), (114, .iconst 3, 0, 3, 0, [], []), (115, .newarray .int, 0, 0, 0, [1, 88], []), (117, .putfield 50, 0, 0, 0, [7, 21, 1, 4, 151], []), (120, .aload_n 0, 0, 0, 0, [], []), (121, .bipush 8, 0, 8, 0, [], []), (123, .newarray .int, 0, 0, 0, [1, 88], []), (125, .putfield 53, 0, 0, 0, [7, 22, 1, 4, 152], []), (128, .aload_n 0, 0, 0, 0, [], []), (129, .bipush 68, 0, 68, 0, [], []), (131, .newarray .int, 0, 0, 0, [1, 88], []), (133, .putfield 56, 0, 0, 0, [7, 23, 1, 4, 153], []), (136, .aload_n 0, 0, 0, 0, [], []), (137, .iconst 4, 0, 4, 0, [], []), (138, .newarray .int, 0, 0, 0, [1, 88], []), (140, .putfield 59, 0, 0, 0, [7, 24, 1, 4, 154], []), (143, .aload_n 0, 0, 0, 0, [], []), (144, .iconst 4, 0, 4, 0, [], []), (145, .newarray .int, 0, 0, 0, [1, 88], []), (147, .putfield 62, 0, 0, 0, [7, 25, 1, 4, 155], []), (150, .aload_n 0, 0, 0, 0, [], []), (151, .bipush 17, 0, 17, 0, [], []), (153, .newarray .int, 0, 0, 0, [1, 88], []), (155, .putfield 65, 0, 0, 0, [7, 26, 1, 4, 156], []), (158, .aload_n 0, 0, 0, 0, [], []), (159, .bipush 30, 0, 30, 0, [], []), (161, .newarray .int, 0, 0, 0, [1, 88], []), (163, .putfield 68, 0, 0, 0, [7, 34, 1, 4, 164], []), (166, .aload_n 0, 0, 0, 0, [], []), (167, .bipush 30, 0, 30, 0, [], []), (169, .newarray .int, 0, 0, 0, [1, 88], []), (171, .putfield 71, 0, 0, 0, [7, 35, 1, 4, 165], []), (174, .aload_n 0, 0, 0, 0, [], []), (175, .sipush 128, 0, 128, 0, [], []), (178, .newarray .int, 0, 0, 0, [1, 88], []), (180, .putfield 74, 0, 0, 0, [7, 36, 1, 4, 166], []), (183, .aload_n 0, 0, 0, 0, [], []), (184, .iconst 4, 0, 4, 0, [], []), (185, .newarray .int, 0, 0, 0, [1, 88], []), (187, .putfield 77, 0, 0, 0, [7, 37, 1, 4, 167], []), (190, .aload_n 0, 0, 0, 0, [], []), (191, .sipush 1108, 0, 1108, 0, [], []), (194, .newarray .int, 0, 0, 0, [1, 88], []), (196, .putfield 80, 0, 0, 0, [7, 40, 1, 4, 170], []), (199, .aload_n 0, 0, 0, 0, [], []), (200, .sipush 1108, 0, 1108, 0, [], []), (203, .newarray .int, 0, 0, 0, [1, 88], []), (205, .putfield 83, 0, 0, 0, [7, 41, 1, 4, 171], []), (208, .aload_n 0, 0, 0, 0, [], []), (209, .iconst 1, 0, 1, 0, [], []), (210, .putfield 86, 0, 0, 0, [7, 12, 0, 4, 142], []), (213, .aload_n 0, 0, 0, 0, [], []), (214, .iconst (-1), 0, (-1), 0, [], []), (215, .putfield 90, 0, 0, 0, [7, 16, 0, 4, 146], []), (218, .iconst 0, 0, 0, 0, [], []), (219, .istore_n 1, 0, 0, 0, [], []), (220, .iload_n 1, 0, 0, 0, [], []), (221, .bipush 8, 0, 8, 0, [], []), (223, .if_icmp .ge 16, 0, 0, 0, [120], []), (226, .aload_n 0, 0, 0, 0, [], []), (227, .getfield 40, 0, 0, 0, [7, 13, 4, 143], []), (230, .iload_n 1, 0, 0, 0, [], []), (231, .iconst (-1), 0, (-1), 0, [], []), (232, .iastore, 0, 0, 0, [], []), (233, .iinc 1 1, 0, 1, 0, [], []), (236, .goto (-16), 0, 0, 0, [110], []), (239, .return_, 0, 0, 0, [], [])]
def yI_ProtoOrdersModel : zMeth := (yX7_init, cX7_init, 2, none, 0, false, 0, yT_ProtoOrdersModel)
def yMs : List zMeth := [yI_Applying, yI_Merge, yI_Reader, yI_Runner, yI_Shelves, yI_World, yI_ProtoOrders, yI_ProtoOrdersModel]
def yNs : List Cond := [(Jvm.Cond.methodLinkNest "ProtoOrders" (9 : Nat) ({ cls := "ProtoOrders$Runner", name := "<init>", desc := "()V" } : Jvm.MethodName) "ProtoOrders"), (Jvm.Cond.methodLinkNest "ProtoOrders$Runner" (13 : Nat) ({ cls := "ProtoOrders$World", name := "<init>", desc := "()V" } : Jvm.MethodName) "ProtoOrders"), (Jvm.Cond.methodLinkNest "ProtoOrders$Runner" (20 : Nat) ({ cls := "ProtoOrders$Applying", name := "<init>", desc := "()V" } : Jvm.MethodName) "ProtoOrders"), (Jvm.Cond.methodLinkNest "ProtoOrders" (23 : Nat) ({ cls := "ProtoOrders$World", name := "<init>", desc := "()V" } : Jvm.MethodName) "ProtoOrders"), (Jvm.Cond.methodLinkNest "ProtoOrders" (36 : Nat) ({ cls := "ProtoOrders$Merge", name := "<init>", desc := "()V" } : Jvm.MethodName) "ProtoOrders"), (Jvm.Cond.methodLinkNest "ProtoOrders" (43 : Nat) ({ cls := "ProtoOrders$Reader", name := "<init>", desc := "()V" } : Jvm.MethodName) "ProtoOrders"), (Jvm.Cond.methodLinkNest "ProtoOrders$Reader" (54 : Nat) ({ cls := "ProtoOrders", name := "isKind", desc := "(I)Z" } : Jvm.MethodName) "ProtoOrders")]
def yeqE : yE → yE → Bool
  | .inl a, .inl b => Nat.beq a b
  | .inr (.inl a), .inr (.inl b) => Nat.beq a b
  | .inr (.inr a), .inr (.inr b) => Nat.beq a.1 b.1 && decide (a.2 = b.2)
  | _, _ => false
theorem yeqE_ok : ∀ {a b : yE}, yeqE a b = true → a = b
  | .inl a, .inl b, h => by rw [Nat.eq_of_beq_eq_true h]
  | .inr (.inl a), .inr (.inl b), h => by rw [Nat.eq_of_beq_eq_true h]
  | .inr (.inr (a, x)), .inr (.inr (b, y)), h => by
    simp only [yeqE, Bool.and_eq_true, decide_eq_true_eq] at h
    rw [Nat.eq_of_beq_eq_true h.1, h.2]
def yeqL : List yE → List yE → Bool
  | [], [] => true
  | a :: as, b :: bs => yeqE a b && yeqL as bs
  | _, _ => false
theorem yeqL_ok : ∀ {a b : List yE}, yeqL a b = true → a = b
  | [], [], _ => rfl
  | a :: as, b :: bs, h => by
    simp only [yeqL, Bool.and_eq_true] at h
    rw [yeqE_ok h.1, yeqL_ok h.2]
def yeqR (r : yR) (sk : List yE) (c n : Nat) : Bool := match r with
  | some r => yeqL r.1.1 sk && (Nat.beq r.2.1 c && Nat.beq r.2.2 n)
  | none => false
def yget : yR → zS
  | some r => r.1.2
  | none => (fun _ _ => 0, fun _ _ => 0)
theorem yeqR_ok : ∀ {r : yR} {sk : List yE} {c n : Nat}, yeqR r sk c n = true → r = some ((sk, yget r), c, n)
  | some ((a, b), x, y), sk, c, n, h => by
    simp only [yeqR, Bool.and_eq_true] at h
    obtain ⟨h1, h2, h3⟩ := h
    have e1 := yeqL_ok h1
    have e2 := Nat.eq_of_beq_eq_true h2
    have e3 := Nat.eq_of_beq_eq_true h3
    subst e1; subst e2; subst e3
    rfl
def yskX : List yE := [.inr (.inr (6, [some (some 1), some (some 2), some (some 22), some (some 32), some (some 36), some (some 42), some (some 44), none, none, none, none])), .inr (.inr (3, [some (some 2), some (some 12), some (some 17), none, none, none, none, none, none, none, none, none, none, some (some 18), none, some (some 19), some (some 20), some (some 21)])), .inr (.inr (5, [none, none, none, some (some 3), some (some 4), some (some 5), some (some 6), some (some 7), some (some 8), some (some 9), some (some 10), some (some 11)])), .inl 16, .inl 16, .inl 48, .inl 16, .inl 256, .inl 256, .inl 256, .inl 256, .inl 192, .inr (.inr (0, [some (some 13), some (some 14), some (some 15), some (some 16)])), .inl 4, .inl 128, .inl 32, .inl 32, .inl 30, .inl 804, .inl 16, .inl 16, .inl 16, .inr (.inr (5, [none, none, none, some (some 23), some (some 24), some (some 25), some (some 26), some (some 27), some (some 28), some (some 29), some (some 30), some (some 31)])), .inl 16, .inl 16, .inl 48, .inl 16, .inl 256, .inl 256, .inl 256, .inl 256, .inl 192, .inr (.inr (4, [some (some 33), some (some 34), some (some 35)])), .inl 8, .inl 8, .inr (.inl 1280), .inr (.inr (1, [some (some 37), none, some (some 38), none, some (some 39), some (some 40), some (some 41)])), .inl 3, .inl 16, .inl 64, .inl 4, .inl 4, .inr (.inr (2, [none, some (some 43), none, none, none, none])), .inl 160, .inl 8]
def ySX : yS := ([.inr (.inr (6, yraw [1, 1, 1, 1, 1, 1, 1, 0, 0, 0, 0]))], (fun _ _ => 0, fun _ _ => 0))
def yRX : yR := ycall yMs 4 6 0 ySX
theorem yRX_sk : yeqR yRX yskX 44 5319 = true := by decide +kernel
def yXX : zS := yget yRX
theorem yrunX : yRX = some ((yskX, yXX), 44, 5319) := yeqR_ok yRX_sk
def yiniX (k j : Nat) : Int32 := if k = 33 then (-1 : Int32) else if k = 22 ∧ j = 2 then (1 : Int32) else if k = 2 ∧ j = 2 then (1 : Int32) else if k = 0 ∧ j = 8 then (-1 : Int32) else 0
def ylen : yE → Nat
  | .inl n => n
  | .inr (.inl n) => n
  | .inr (.inr o) => o.2.length
theorem yXX_ini : ∀ k, k < 45 → ∀ j, j < (match yskX[k]? with
    | some e => ylen e
    | none => 0) → zg yXX k j = yiniX k j := by decide +kernel
theorem yXX_iniL : ∀ j, j < 1280 → zgl yXX 35 j = 0 := by decide +kernel
def yskM : List yE := [.inr (.inr (7, [none, some (some 1), some (some 2), some (some 3), some (some 4), some (some 5), some (some 6), some (some 7), some (some 8), some (some 9), none, some (some 10), none, some (some 11), some (some 12), some (some 13), none, none, none, none, none, some (some 14), some (some 15), some (some 16), some (some 17), some (some 18), some (some 19), none, none, none, none, none, none, none, some (some 20), some (some 21), some (some 22), some (some 23), none, none, some (some 24), some (some 25)])), .inl 16, .inl 16, .inl 48, .inl 16, .inl 256, .inl 16, .inl 16, .inl 256, .inl 256, .inl 192, .inl 8, .inl 8, .inr (.inl 1280), .inl 3, .inl 8, .inl 68, .inl 4, .inl 4, .inl 17, .inl 30, .inl 30, .inl 128, .inl 4, .inl 1108, .inl 1108]
def ySM : yS := ([.inr (.inr (7, yraw [0, 1, 1, 1, 1, 1, 1, 1, 1, 1, 0, 1, 0, 1, 1, 1, 0, 0, 0, 0, 0, 1, 1, 1, 1, 1, 1, 0, 0, 0, 0, 0, 0, 0, 1, 1, 1, 1, 0, 0, 1, 1]))], (fun _ _ => 0, fun _ _ => 0))
def yRM : yR := ycall yMs 4 7 0 ySM
theorem yRM_sk : yeqR yRM yskM 25 4896 = true := by decide +kernel
def yXM : zS := yget yRM
theorem yrunM : yRM = some ((yskM, yXM), 25, 4896) := yeqR_ok yRM_sk
def yiniM (k j : Nat) : Int32 := if k = 11 then (-1 : Int32) else if k = 0 ∧ j = 16 then (-1 : Int32) else if k = 0 ∧ j = 12 then (1 : Int32) else 0

theorem yXM_ini : ∀ k, k < 26 → ∀ j, j < (match yskM[k]? with
    | some e => ylen e
    | none => 0) → zg yXM k j = yiniM k j := by decide +kernel
theorem yXM_iniL : ∀ j, j < 1280 → zgl yXM 13 j = 0 := by decide +kernel
end
section
def yfv (ad : Nat → Nat) (σ : zS) (k j : Nat) : Option (Option Nat) → Value
  | some (some q) => Value.ref (ad q)
  | some none => Value.null
  | none => Value.int (σ.1 k j)
def yfs (ad : Nat → Nat) (σ : zS) (k : Nat) (fs : List (Option (Option Nat))) : List Value := fs.mapIdx (fun j f => yfv ad σ k j f)
def ycell (cI cJ : ClassId) (ad : Nat → Nat) (σ : zS) (k : Nat) : yE → va_E
  | .inl n => .inl (cI, n, .inl (σ.1 k))
  | .inr (.inl n) => .inl (cJ, n, .inr (.inl (σ.2 k)))
  | .inr (.inr o) => .inr (o.1, yfs ad σ k o.2)
def yW (cI cJ : ClassId) (ad : Nat → Nat) (S : yS) : va_W := S.1.mapIdx (fun k e => (ad k, ycell cI cJ ad S.2 k e))
theorem yW_get {cI cJ : ClassId} {ad : Nat → Nat} {S : yS} {k : Nat} {e : yE} (h : S.1[k]? = some e) : (yW cI cJ ad S)[k]? = some (ad k, ycell cI cJ ad S.2 k e) := by
  simp [yW, List.getElem?_mapIdx, h]
theorem yW_set {cI cJ : ClassId} {ad : Nat → Nat} {S S' : yS} {q : Nat} {e e1 : yE} (h : S.1[q]? = some e) (h1 : S'.1 = S.1.set q e1) (ho : ∀ k e', k ≠ q → ycell cI cJ ad S'.2 k e' = ycell cI cJ ad S.2 k e') : (yW cI cJ ad S).set q (ad q, ycell cI cJ ad S'.2 q e1) = yW cI cJ ad S' := by
  apply List.ext_getElem?
  intro k
  have hl : q < S.1.length := (List.getElem?_eq_some_iff.mp h).1
  have h2 : S'.1[q]? = some e1 := by rw [h1, List.getElem?_set_self hl]
  by_cases hk : k = q
  · subst hk
    rw [List.getElem?_set_self (by simp [yW]; exact hl), yW_get h2]
  · rw [List.getElem?_set_ne (Ne.symm hk)]
    simp only [yW, List.getElem?_mapIdx]
    rw [h1, List.getElem?_set_ne (Ne.symm hk)]
    cases hs : S.1[k]? with
    | none => rfl
    | some e' => simp [ho k e' hk]
theorem ycell_zs {cI cJ : ClassId} {ad : Nat → Nat} {σ : zS} {q j : Nat} {v : Int32} (k : Nat) (e : yE) (h : k ≠ q) : ycell cI cJ ad (zs σ q j v) k e = ycell cI cJ ad σ k e := by
  rcases e with n | n | o
  · simp only [ycell, zs, zup_ne h]
  · rfl
  · simp only [ycell, yfs, Sum.inr.injEq, Prod.mk.injEq, true_and]
    congr 1
    funext j f
    rcases f with _ | _ | f <;> simp [yfv, zs, zup_ne h]
theorem ycell_yfill {cI cJ : ClassId} {ad : Nat → Nat} {σ : zS} {q n : Nat} {v : Int32} (k : Nat) (e : yE) (h : k ≠ q) : ycell cI cJ ad (yfill σ q n v) k e = ycell cI cJ ad σ k e := by
  have h1 : (yfill σ q n v).1 k = σ.1 k := by
    funext j
    simp [yfill, h]
  rcases e with n | n | o
  · simp only [ycell, h1]
  · rfl
  · simp only [ycell, yfs, Sum.inr.injEq, Prod.mk.injEq, true_and]
    congr 1
    funext j f
    rcases f with _ | _ | f <;> simp [yfv, h1]
theorem yfs_get {ad : Nat → Nat} {σ : zS} {k j : Nat} {fs : List (Option (Option Nat))} {o : Option (Option Nat)} (h : fs[j]? = some o) : (yfs ad σ k fs)[j]? = some (yfv ad σ k j o) := by
  simp only [yfs, List.getElem?_mapIdx, h]
  rfl
theorem yfs_seti {ad : Nat → Nat} {σ : zS} {k j : Nat} {fs : List (Option (Option Nat))} {x : Int32} (h : fs[j]? = some none) : (yfs ad σ k fs).set j (.int x) = yfs ad (zs σ k j x) k fs := by
  apply List.ext_getElem?
  intro i
  have hl : j < fs.length := (List.getElem?_eq_some_iff.mp h).1
  by_cases hk : i = j
  · subst hk
    rw [List.getElem?_set_self (by simp [yfs]; exact hl), yfs_get h]
    simp [yfv, zs, zup]
  · rw [List.getElem?_set_ne (Ne.symm hk)]
    simp only [yfs, List.getElem?_mapIdx]
    cases hs : fs[i]? with
    | none => rfl
    | some o => rcases o with _ | _ | q <;> simp [yfv, zs, zup, hk]
theorem yfs_setr {ad : Nat → Nat} {σ : zS} {k j r : Nat} {fs : List (Option (Option Nat))} {o : Option Nat} (h : fs[j]? = some (some o)) : (yfs ad σ k fs).set j (.ref (ad r)) = yfs ad σ k (fs.set j (some (some r))) := by
  apply List.ext_getElem?
  intro i
  have hl : j < fs.length := (List.getElem?_eq_some_iff.mp h).1
  by_cases hk : i = j
  · subst hk
    rw [List.getElem?_set_self (by simp [yfs]; exact hl), yfs_get (o := some (some r)) (List.getElem?_set_self hl)]
    rfl
  · rw [List.getElem?_set_ne (Ne.symm hk)]
    simp only [yfs, List.getElem?_mapIdx]
    rw [List.getElem?_set_ne (Ne.symm hk)]
theorem ycell_ad {cI cJ : ClassId} {ad ad' : Nat → Nat} {σ σ' : zS} {n k : Nat} {e : yE} (he : yinE n e = true) (ha : ∀ j, j < n → ad' j = ad j) (hs : σ'.1 k = σ.1 k) (hs2 : σ'.2 k = σ.2 k) : ycell cI cJ ad' σ' k e = ycell cI cJ ad σ k e := by
  rcases e with m | m | o
  · simp only [ycell, hs]
  · simp only [ycell, hs2]
  · simp only [ycell, Sum.inr.injEq, Prod.mk.injEq, true_and]
    apply List.ext_getElem?
    intro j
    simp only [yfs, List.getElem?_mapIdx]
    cases hf : o.2[j]? with
    | none => rfl
    | some f =>
      have := List.all_eq_true.mp he f (List.mem_of_getElem? hf)
      rcases f with _ | _ | q
      · simp [yfv, hs]
      · rfl
      · simp only [Option.map_some, yfv, ha q (Nat.blt_eq ▸ this)]
theorem yW_push {cI cJ : ClassId} {ad ad' : Nat → Nat} {S : yS} {σ' : zS} {a : Nat} {e : yE} {x : va_E} (hin : S.1.all (yinE S.1.length) = true) (ha : ∀ j, j < S.1.length → ad' j = ad j) (ha2 : ad' S.1.length = a) (hs : ∀ k, k < S.1.length → σ'.1 k = S.2.1 k ∧ σ'.2 k = S.2.2 k) (hx : x = ycell cI cJ ad' σ' S.1.length e) : yW cI cJ ad S ++ [(a, x)] = yW cI cJ ad' (S.1 ++ [e], σ') := by
  subst hx
  apply List.ext_getElem?
  intro k
  by_cases hk : k < S.1.length
  · rw [List.getElem?_append_left (by simp [yW]; exact hk)]
    simp only [yW, List.getElem?_mapIdx]
    rw [List.getElem?_append_left hk, List.getElem?_eq_getElem hk]
    simp only [Option.map_some]
    have he := List.all_eq_true.mp hin _ (List.getElem_mem hk)
    rw [ycell_ad he ha (hs k hk).1 (hs k hk).2, ha k hk]
  · rw [List.getElem?_append_right (by simp [yW]; omega)]
    simp only [yW, List.getElem?_mapIdx, List.length_mapIdx]
    rw [List.getElem?_append_right (by omega)]
    by_cases hk2 : k = S.1.length
    · subst hk2
      simp [ha2]
    · rw [List.getElem?_eq_none (by simp; omega), List.getElem?_eq_none (by simp; omega)]
      rfl
theorem yW_ad {cI cJ : ClassId} {ad ad' : Nat → Nat} {S : yS} (hin : S.1.all (yinE S.1.length) = true) (ha : ∀ j, j < S.1.length → ad' j = ad j) : yW cI cJ ad' S = yW cI cJ ad S := by
  apply List.ext_getElem?
  intro k
  simp only [yW, List.getElem?_mapIdx]
  cases hs : S.1[k]? with
  | none => rfl
  | some e =>
    have hk := (List.getElem?_eq_some_iff.mp hs).1
    have he := List.all_eq_true.mp hin _ (List.mem_of_getElem? hs)
    simp only [Option.map_some]
    rw [ycell_ad he ha rfl rfl, ha k hk]
theorem zc_ad {ad ad' : Nat → Nat} {n : Nat} {v : zV} (h : yinV n v = true) (ha : ∀ j, j < n → ad' j = ad j) : zc ad' v = zc ad v := by
  rcases v with x | x | q
  · rfl
  · rfl
  · simp only [zc, ha q (Nat.blt_eq ▸ h)]
theorem zcs_ad {ad ad' : Nat → Nat} {n : Nat} {k : List zV} (h : k.all (yinV n) = true) (ha : ∀ j, j < n → ad' j = ad j) : k.map (zc ad') = k.map (zc ad) := List.map_congr_left fun v hv => zc_ad (List.all_eq_true.mp h v hv) ha
theorem zloc_ad {ad ad' : Nat → Nat} {n nL : Nat} {lo : zL} {ls : Array Slot} (h : lo.all (yinO n) = true) (ha : ∀ j, j < n → ad' j = ad j) (hl : zloc ad nL lo ls) : zloc ad' nL lo ls := by
  refine ⟨hl.1, hl.2.1, fun i v hv => ?_⟩
  have h1 : yinO n (some v) = true := List.all_eq_true.mp h (some v) (List.mem_of_getElem? hv)
  rw [zc_ad (n := n) h1 ha]
  exact hl.2.2 i v hv
theorem yin_inv {S : yS} {lo : zL} {k : List zV} (h : yin S lo k = true) : lo.all (yinO S.1.length) = true ∧ k.all (yinV S.1.length) = true ∧ S.1.all (yinE S.1.length) = true := by
  simp only [yin, Bool.and_eq_true] at h
  exact ⟨h.1.1, h.1.2, h.2⟩
theorem ygd_inv {b : Bool} {r : yR} {x : yS × Nat × Nat} (h : ygd b r = some x) : b = true ∧ r = some x := by
  unfold ygd at h
  split at h
  · exact ⟨rfl, h⟩
  · cases h
theorem yadd_inv {c n : Nat} {r : yR} {x : yS × Nat × Nat} (h : yadd c n r = some x) : ∃ S a b, r = some (S, a, b) ∧ x = (S, c + a, n + b) := by
  unfold yadd at h
  split at h
  next r => cases h; exact ⟨_, _, _, rfl, rfl⟩
  next => cases h
end
section
def yNk (U : State) : Prop := ∀ w ∈ yNs, va_Nw w U
theorem yNk.warm {s U : State} (hW : s.WarmedH U.vm) (h : yNk s) : yNk U := by
  intro w hw
  have := h w hw
  simp only [yNs, List.mem_cons, List.not_mem_nil, or_false] at hw
  rcases hw with rfl | rfl | rfl | rfl | rfl | rfl | rfl <;> exact va_Nw.warmM hW this
theorem yNk.same {u U : State} (hv : u.vm = U.vm) (h : yNk u) : yNk U := by
  intro w hw
  have := h w hw
  simp only [yNs, List.mem_cons, List.not_mem_nil, or_false] at hw
  rcases hw with rfl | rfl | rfl | rfl | rfl | rfl | rfl <;> exact va_Nw.same rfl hv this
theorem yNk.zNk {U : State} (h : yNk U) : zNk U := h _ (by decide +kernel)
def ybits (F : u_T) : Nat → List Nat → Bool
  | _, [] => true
  | j, b :: bs => (match parseFieldDescriptor (F j).2.2.1 with
    | some t => decide (defaultValue t = if b = 0 then Value.int 0 else Value.null)
    | none => false) && ybits F (j + 1) bs
theorem ybits_ok {F : u_T} : ∀ (bs : List Nat) (j0 j b : Nat) (ty : FieldType), ybits F j0 bs = true → bs[j]? = some b → parseFieldDescriptor (F (j0 + j)).2.2.1 = some ty → defaultValue ty = if b = 0 then Value.int 0 else Value.null
  | [], _, _, _, _, _, h, _ => by simp at h
  | b0 :: bs, j0, j, b, ty, hb, h, hp => by
    simp only [ybits, Bool.and_eq_true] at hb
    cases j with
    | zero =>
      simp only [List.getElem?_cons_zero, Option.some.injEq] at h
      subst h
      have h1 := hb.1
      rw [Nat.add_zero] at hp
      rw [hp] at h1
      exact of_decide_eq_true h1
    | succ j =>
      simp only [List.getElem?_cons_succ] at h
      exact ybits_ok bs (j0 + 1) j b ty hb.2 h (by rw [show j0 + 1 + j = j0 + (j + 1) by omega]; exact hp)
def yref (d : String) : Bool := match parseFieldDescriptor d with
  | some (.object _) => true
  | some (.array _) => true
  | _ => false
theorem yref_ok {d : String} (h : yref d = true) : ∃ ty, parseFieldDescriptor d = some ty ∧ ∀ a : Nat, narrow ty (.ref a) = .ref a ∧ fits ty (.ref a) = true := by
  unfold yref at h
  split at h
  next c hc => exact ⟨_, hc, fun a => ⟨rfl, rfl⟩⟩
  next c hc => exact ⟨_, hc, fun a => ⟨rfl, rfl⟩⟩
  next => cases h
def yspec (Ms : List zMeth) (own : String) (b : ByteArray) (nL : Nat) (T : zT) (pc : Nat) (i : Instr) (v : Int32) (aux : List Nat) (es : zT) : Bool := match i with
  | .aload_n _ => zdec b pc i 1 && zfall es (pc + 1)
  | .iload_n _ => zdec b pc i 1 && zfall es (pc + 1)
  | .iconst n => zdec b pc i 1 && zfall es (pc + 1) && decide (Int32.ofInt n = v)
  | .bipush n => zdec b pc i 2 && zfall es (pc + 2) && decide ((Int8.ofInt n).toInt32 = v)
  | .sipush n => zdec b pc i 3 && zfall es (pc + 3) && decide ((Int16.ofInt n).toInt32 = v)
  | .istore_n x => zdec b pc i 1 && zfall es (pc + 1) && decide ((x : Nat) < nL)
  | .iinc x n => zdec b pc i 3 && zfall es (pc + 3) && decide (Int32.ofInt n = v) && decide (x < nL)
  | .if_icmp _ off => zdec b pc i 3 && zfall es (pc + 3) && (match aux with
    | a :: _ => ztgt T a pc off
    | _ => false)
  | .goto off => zdec b pc i 3 && (match aux with
    | a :: _ => ztgt T a pc off
    | _ => false)
  | .dup => zdec b pc i 1 && zfall es (pc + 1)
  | .new x => zdec b pc i 3 && zfall es (pc + 3) && (match aux with
    | ci :: N :: a1 :: a2 :: b1 :: b2 :: c1 :: c2 :: bs => match vwCl[ci]? with
      | some q => decide (q.2.2 = N) && zwd a1 a2 (.classLink own x q.1) && zwd b1 b2 (.instantiable q.1 N) && zwd c1 c2 (.initialized q.1) && decide (bs.length = N) && ybits q.2.1 0 bs
      | none => false
    | _ => true)
  | .newarray t => zdec b pc i 2 && zfall es (pc + 2) && (match aux with
    | a1 :: a2 :: _ => zwd a1 a2 (.arrayClass (newarray.typeOf t))
    | _ => false)
  | .getfield x => zdec b pc i 3 && zfall es (pc + 3) && (match aux with
    | ci :: j :: a1 :: a2 :: _ => match vwCl[ci]? with
      | some q => decide (j < q.2.2) && decide ((q.2.1 j).1 = q.1) && zwd a1 a2 (.fieldLink own x q.1 (q.2.1 j).2.1 (q.2.1 j).2.2.1)
      | none => false
    | _ => false)
  | .putfield x => zdec b pc i 3 && zfall es (pc + 3) && (match aux with
    | ci :: j :: bk :: a1 :: a2 :: _ => match vwCl[ci]? with
      | some q => decide (j < q.2.2) && decide ((q.2.1 j).1 = q.1) && decide (q.1 = own) && zwd a1 a2 (.fieldLink own x q.1 (q.2.1 j).2.1 (q.2.1 j).2.2.1) && (match bk with
        | 0 => decide ((q.2.1 j).2.2.2 = false) && decide ((q.2.1 j).2.2.1 = "I")
        | _ => decide ((q.2.1 j).2.2.2 = true) && yref (q.2.1 j).2.2.1)
      | none => false
    | _ => false)
  | .iastore => zdec b pc i 1 && zfall es (pc + 1)
  | .invokespecial x => zdec b pc i 3 && zfall es (pc + 3) && (match aux with
    | 0 :: a1 :: a2 :: b1 :: b2 :: c1 :: c2 :: _ => zwd a1 a2 (.methodLink own x objectInit) && zwd b1 b2 (.instanceMethod objectInit) && zwd c1 c2 (.code objectInit ⟨#[0xb1]⟩ 1 none)
    | (_ + 1) :: m :: z :: a1 :: a2 :: _ => match Ms[m]? with
      | some y => (if z = 0 then zwd a1 a2 (.methodLink own x y.1) else decide (Cond.methodLinkNest own x y.1 "ProtoOrders" ∈ yNs))
      | none => false
    | _ => false)
  | .invokestatic x => zdec b pc i 3 && zfall es (pc + 3) && (match aux with
    | [m, a1, a2] => Nat.beq m 220 && zwd a1 a2 (.methodLink own x yJ7_fill_53178)
    | _ => false)
  | .return_ => zdec b pc i 1
  | _ => true
def yall (Ms : List zMeth) (own : String) (b : ByteArray) (nL : Nat) (T : zT) : zT → Bool
  | [] => true
  | e :: es => yspec Ms own b nL T e.1 e.2.1 e.2.2.2.1 e.2.2.2.2.2.1 es && yall Ms own b nL T es
theorem yall_ok {Ms : List zMeth} {own : String} {b : ByteArray} {nL : Nat} {T : zT} : ∀ (es : zT), yall Ms own b nL T es = true → ∀ n e, es[n]? = some e → yspec Ms own b nL T e.1 e.2.1 e.2.2.2.1 e.2.2.2.2.2.1 (es.drop (n + 1)) = true
  | [], _, n, e, h => by simp at h
  | e0 :: es, ha, n, e, h => by
    simp only [yall, Bool.and_eq_true] at ha
    cases n with
    | zero =>
      simp only [List.getElem?_cons_zero, Option.some.injEq] at h
      subst h
      exact ha.1
    | succ n =>
      simp only [List.getElem?_cons_succ] at h
      exact yall_ok es ha.2 n e h
def ymok (Ms : List zMeth) (y : zMeth) : Prop := Jvm.plainName y.1.cls = true ∧ (y.1.cls ≠ "java/lang/invoke/MethodHandle" ∧ y.1.cls ≠ "java/lang/invoke/VarHandle") ∧ Cond.code y.1 y.2.1 y.2.2.1 none ∈ zTb ∧ Cond.initialized y.1.cls ∈ zTb ∧ (parseMethodDescriptor y.1.desc).map (fun d => d.parameters.length) = some 0 ∧ Cond.instanceMethod y.1 ∈ zTb ∧ y.1.name = "<init>" ∧ y.2.2.1 ≤ 10 ∧ ((y.2.2.2.2.2.2.2[0]?).map (fun e => e.1) = some 0) ∧
  ∀ n e, y.2.2.2.2.2.2.2[n]? = some e → yspec Ms y.1.cls y.2.1 y.2.2.1 y.2.2.2.2.2.2.2 e.1 e.2.1 e.2.2.2.1 e.2.2.2.2.2.1 (y.2.2.2.2.2.2.2.drop (n + 1)) = true
def yQ (D : va_G) (cI cJ : ClassId) (ad : Nat → Nat) (n : Nat) (S' : yS) (A : Nat → Prop) : Array Value → State → Outcome → State → Prop := va_Qv (fun ad' : Nat → Nat => ∀ j, j < n → ad' j = ad j) (fun ad' t => va_P D vwCl (yW cI cJ ad' S') t.heap ∧ va_K D vwCl [(cI, .int), (cJ, .long)] t ∧ va_D A (yW cI cJ ad' S')) A
def yrm (d c n : Nat) : Room := { frames := d, cells := c, slots := n, locals := 40 * d }
def yMet (l : Launch) (D : va_G) (cI cJ : ClassId) (d : Nat) (y : zMeth) (q : Nat) (S S' : yS) (c n : Nat) : Prop := ∀ (ad : Nat → Nat) (sz : Nat),
  Met l y.1 (.code y.1 y.2.1 y.2.2.1 none :: zTb) (yrm d c n) (va_Pc [.ref (ad q)] (fun U => U.heap.size = sz ∧ va_P D vwCl (yW cI cJ ad S) U.heap ∧ va_K D vwCl [(cI, .int), (cJ, .long)] U ∧ va_D (fun _ => True) (yW cI cJ ad S) ∧ yNk U))
    (yQ D cI cJ ad S.1.length S' (va_A (yW cI cJ ad S) sz)) c n (va_A (yW cI cJ ad S) sz)
end
section
section YST
variable {p : Program} {l : Launch} {e : Env} {s : State} {m : MethodId} {args : Array Value} {below : List Frame} {meth : Method} {c : Code} {cc : ByteArray} {A : Nat → Prop} {D : va_G} {cI cJ : ClassId} {ad0 : Nat → Nat} {L0 CT NT : Nat} {own : String} {nL : Nat} {Ms : List zMeth} {C : Nat → Nat → yS → yR} {T : zT} {d : Nat} {K : yK} {S' : yS}
def yAt (p : Program) (l : Launch) (e : Env) (R : Room) (s : State) (m : MethodId) (args : Array Value) (below : List Frame) (meth : Method) (c : Code) (A : Nat → Prop) (D : va_G) (cI cJ : ClassId) (nL : Nat) (ad0 : Nat → Nat) (L0 : Nat) (Q : State → Prop) (pc : Nat) (lo : zL) (k : List zV) (S : yS) (c0 n0 : Nat) : Prop :=
  ∀ (H : Heap) (locs : List Loc) (ls : Array Slot) (ad : Nat → Nat), va_P D vwCl (yW cI cJ ad S) H → va_D A (yW cI cJ ad S) → va_S A s.heap H locs → zloc ad nL lo ls → (∀ j, j < L0 → ad j = ad0 j) → W p l e R s m args below meth c H locs c0 n0 Q (F0 m pc ls (k.map (zc ad)))
theorem yP_set {ad : Nat → Nat} {S S2 : yS} {q : Nat} {e0 e1 : yE} {H : Heap} {x : va_E} (hq : S.1[q]? = some e0) (h1 : S2.1 = S.1.set q e1) (ho : ∀ k e', k ≠ q → ycell cI cJ ad S2.2 k e' = ycell cI cJ ad S.2 k e') (hx : x = ycell cI cJ ad S2.2 q e1) (h : va_P D vwCl ((yW cI cJ ad S).set q (ad q, x)) H) : va_P D vwCl (yW cI cJ ad S2) H := by
  subst hx
  rwa [yW_set hq h1 ho] at h
theorem yD_set {ad : Nat → Nat} {S S2 : yS} {q : Nat} {e0 e1 : yE} {x : va_E} (hq : S.1[q]? = some e0) (h1 : S2.1 = S.1.set q e1) (ho : ∀ k e', k ≠ q → ycell cI cJ ad S2.2 k e' = ycell cI cJ ad S.2 k e') (hx : x = ycell cI cJ ad S2.2 q e1) (h : va_D A ((yW cI cJ ad S).set q (ad q, x))) : va_D A (yW cI cJ ad S2) := by
  subst hx
  rwa [yW_set hq h1 ho] at h
theorem yD_any {B : Nat → Prop} {ad : Nat → Nat} {S S2 : yS} (h1 : S2.1 = S.1) (h : va_D B (yW cI cJ ad S)) : va_D B (yW cI cJ ad S2) := by
  have key : ∀ (k : Nat) (q : Nat × va_E), (yW cI cJ ad S2)[k]? = some q → ∃ q', (yW cI cJ ad S)[k]? = some q' ∧ q'.1 = q.1 := by
    intro k q hk
    simp only [yW, List.getElem?_mapIdx] at hk ⊢
    rw [h1] at hk
    cases hs : S.1[k]? with
    | none => rw [hs] at hk; cases hk
    | some e' => rw [hs] at hk; cases hk; exact ⟨_, rfl, rfl⟩
  refine ⟨fun i j p q hi hj hpq => ?_, fun k q hk => ?_⟩
  · obtain ⟨p', h1, h2⟩ := key i p hi
    obtain ⟨q', h3, h4⟩ := key j q hj
    exact h.1 i j p' q' h1 h3 (by rw [h2, h4]; exact hpq)
  · obtain ⟨q', h1, h2⟩ := key k q hk
    rw [← h2]
    exact h.2 k q' h1
theorem yset_self {S : yS} {q : Nat} {e0 : yE} (h : S.1[q]? = some e0) : S.1 = S.1.set q e0 := by
  apply List.ext_getElem?
  intro k
  by_cases hk : k = q
  · subst hk
    rw [List.getElem?_set_self (List.getElem?_eq_some_iff.mp h).1, h]
  · rw [List.getElem?_set_ne (Ne.symm hk)]
def yup (ad : Nat → Nat) (n a : Nat) : Nat → Nat := fun j => if j = n then a else ad j
theorem yup_lt {ad : Nat → Nat} {n a : Nat} : ∀ j, j < n → yup ad n a j = ad j := fun j hj => by
  simp [yup, Nat.ne_of_lt hj]
theorem yup_eq {ad : Nat → Nat} {n a : Nat} : yup ad n a n = a := by simp [yup]
theorem yzero_lt {σ : zS} {n : Nat} : ∀ k, k < n → (yzero σ n).1 k = σ.1 k ∧ (yzero σ n).2 k = σ.2 k := fun k hk => by
  constructor <;> (funext j; simp [yzero, Nat.ne_of_lt hk])
theorem yraw_get {bs : List Nat} {j : Nat} : (yraw bs)[j]? = (bs[j]?).map (fun b => match b with
    | 0 => none
    | _ => some none) := by
  unfold yraw
  rw [List.getElem?_map]
  rfl
set_option maxHeartbeats 20000000 in
set_option maxRecDepth 100000 in
theorem ystep_ok {i : Instr} {v : Int32} {aux : List Nat} {es : zT} {pc : Nat} {lo : zL} {k : List zV} {S : yS} {c0 n0 cr nr : Nat}
    (hx : p.tables.exec = Jvm.exec) (hb : c.code = cc) (hr : meth.sig.returnType = none) (hml : c.maxLocals = nL) (hown : s.vm.findClass own = some m.cls) (hin : meth.name = "<init>") (hts : ∀ w ∈ zTb, w.before args s = true) (hlocks : meth.locks = false) (hK : va_K D vwCl [(cI, .int), (cJ, .long)] s) (hN : yNk s) (hA : ∀ q : Nat, s.heap.size ≤ q → A q)
    (hC : ∀ mm q S0 r, C mm q S0 = some r → ∃ y, Ms[mm]? = some y ∧ ymok Ms y ∧ yMet l D cI cJ d y q S0 r.1 r.2.1 r.2.2)
    (hfy : zmok zMs zI_J_fill2) (hfill : ∀ (ad1 : Nat → Nat) (x : Int32) (τ : zS), zMet l D cI cJ ad1 [.inl 8] (zrm d) zI_J_fill2 [.inr (.inr 0), .inl x] τ (none, yfill τ 0 8 x))
    (hgo : ∀ (e' : zEnt) (es' : zT) (lo' : zL) (k' : List zV) (S2 : yS) (c1 n1 c2 n2 : Nat), (es = e' :: es' ∨ ∃ a, T.drop a = e' :: es') → K (e' :: es') lo' k' S2 = some (S', c2, n2) → L0 ≤ S2.1.length → c1 + c2 = CT → n1 + n2 = NT → yAt p l e (yrm (d + 1) CT NT) s m args below meth c A D cI cJ nL ad0 L0 (MQ below (yQ D cI cJ ad0 L0 S' A) args s CT NT A) e'.1 lo' k' S2 c1 n1)
    (hs : yspec Ms own cc nL T pc i v aux es = true) (h : ystep C T K i v aux es lo k S = some (S', cr, nr)) (hL : L0 ≤ S.1.length) (hc : c0 + cr = CT) (hn : n0 + nr = NT) : yAt p l e (yrm (d + 1) CT NT) s m args below meth c A D cI cJ nL ad0 L0 (MQ below (yQ D cI cJ ad0 L0 S' A) args s CT NT A) pc lo k S c0 n0 := by
  have fall : ∀ {pc' : Nat} {lo' : zL} {k' : List zV} {S2 : yS} {c1 n1 c2 n2 : Nat}, zfall es pc' = true → K es lo' k' S2 = some (S', c2, n2) → L0 ≤ S2.1.length → c1 + c2 = CT → n1 + n2 = NT → yAt p l e (yrm (d + 1) CT NT) s m args below meth c A D cI cJ nL ad0 L0 (MQ below (yQ D cI cJ ad0 L0 S' A) args s CT NT A) pc' lo' k' S2 c1 n1 := by
    intro pc' lo' k' S2 c1 n1 c2 n2 hf hk h1 h2 h3
    obtain ⟨e', es', he, hpc⟩ := zfall_ok hf
    rw [← hpc]
    exact hgo e' es' lo' k' S2 c1 n1 c2 n2 (Or.inl he) (he ▸ hk) h1 h2 h3
  have jump : ∀ {a : Nat} {off : Int}, ztgt T a pc off = true → ∃ tgt : Nat, (pc : Int) + off = (tgt : Int) ∧ ∀ {lo' : zL} {k' : List zV} {S2 : yS} {c1 n1 c2 n2 : Nat}, K (T.drop a) lo' k' S2 = some (S', c2, n2) → L0 ≤ S2.1.length → c1 + c2 = CT → n1 + n2 = NT → yAt p l e (yrm (d + 1) CT NT) s m args below meth c A D cI cJ nL ad0 L0 (MQ below (yQ D cI cJ ad0 L0 S' A) args s CT NT A) tgt lo' k' S2 c1 n1 := by
    intro a off ht
    obtain ⟨e', es', he, hpc⟩ := ztgt_ok ht
    exact ⟨e'.1, hpc, fun {lo' k' S2 c1 n1 c2 n2} hk => hgo e' es' lo' k' S2 c1 n1 c2 n2 (Or.inr ⟨a, he⟩) (he ▸ hk)⟩
  cases i with
  | aload_n i0 =>
    simp only [yspec, Bool.and_eq_true, decide_eq_true_eq] at hs
    simp only [ystep] at h
    split at h
    · next x hv =>
        intro H locs ls ad hP hD hS hl ha
        exact lv_aload_n hx hb (zdec_ok hs.1) rfl (hl.2.2 _ _ hv) (fall hs.2 h hL hc hn H locs ls ad hP hD hS hl ha)
    · cases h
  | iload_n i0 =>
    simp only [yspec, Bool.and_eq_true, decide_eq_true_eq] at hs
    simp only [ystep] at h
    split at h
    · next x hv =>
        intro H locs ls ad hP hD hS hl ha
        exact lv_iload_n hx hb (zdec_ok hs.1) rfl (hl.2.2 _ _ hv) (fall hs.2 h hL hc hn H locs ls ad hP hD hS hl ha)
    · cases h
  | iconst n =>
    simp only [yspec, Bool.and_eq_true, decide_eq_true_eq] at hs
    simp only [ystep] at h
    intro H locs ls ad hP hD hS hl ha
    exact lv_iconst hx hb (zdec_ok hs.1.1) hs.2 (fall hs.1.2 h hL hc hn H locs ls ad hP hD hS hl ha)
  | bipush n =>
    simp only [yspec, Bool.and_eq_true, decide_eq_true_eq] at hs
    simp only [ystep] at h
    intro H locs ls ad hP hD hS hl ha
    exact lv_bipush hx hb (zdec_ok hs.1.1) hs.2 (fall hs.1.2 h hL hc hn H locs ls ad hP hD hS hl ha)
  | sipush n =>
    simp only [yspec, Bool.and_eq_true, decide_eq_true_eq] at hs
    simp only [ystep] at h
    intro H locs ls ad hP hD hS hl ha
    exact lv_sipush hx hb (zdec_ok hs.1.1) hs.2 (fall hs.1.2 h hL hc hn H locs ls ad hP hD hS hl ha)
  | istore_n i0 =>
    simp only [yspec, Bool.and_eq_true, decide_eq_true_eq] at hs
    simp only [ystep] at h
    split at h
    · next x k' =>
        obtain ⟨hf, h⟩ := ygd_inv h
        intro H locs ls ad hP hD hS hl ha
        exact lv_istore_n hx hb (zdec_ok hs.1.1) rfl hl.has hs.2 rfl (fun ls' hl' => fall hs.1.2 h hL hc hn H locs ls' ad hP hD hS (zloc_set hl hf hl') ha)
    · cases h
  | iinc i0 n =>
    simp only [yspec, Bool.and_eq_true, decide_eq_true_eq] at hs
    simp only [ystep] at h
    split at h
    · next x hx1 =>
        have h' := ygd_inv h
        clear h
        obtain ⟨hf, h⟩ := h'
        intro H locs ls ad hP hD hS hl ha
        obtain ⟨j, hj⟩ := List.getElem?_of_mem (zas_mem (ad := ad).mpr ⟨_, hx1, rfl⟩ : ((i0, zc ad (.inl x)) : Nat × Value) ∈ zas ad lo)
        exact lv_iinc (v := x + v) hx hb (zdec_ok hs.1.1.1) hl.has (k := j) hj (by rw [hs.1.2]) hs.2 rfl (fun ls' hl' => fall hs.1.1.2 h hL hc hn H locs ls' ad hP hD hS (zloc_set hl hf hl') ha)
    · cases h
  | if_icmp c9 off =>
    cases c9 with
    | ge =>
      simp only [yspec, Bool.and_eq_true, decide_eq_true_eq] at hs
      simp only [ystep] at h
      obtain ⟨⟨h1, h2⟩, h3⟩ := hs
      split at h
      · next y x k' a as =>
          obtain ⟨tgt, ht, hj⟩ := jump h3
          intro H locs ls ad hP hD hS hl ha
          refine lv_icmp_ge hx hb (zdec_ok h1) ht (fun hcnd => ?_) (fun hcnd => ?_)
          · rw [if_pos hcnd] at h
            exact hj h hL hc hn H locs ls ad hP hD hS hl ha
          · rw [if_neg hcnd] at h
            exact fall h2 h hL hc hn H locs ls ad hP hD hS hl ha
      · cases h
    | _ => exact absurd (show (none : yR) = some (S', cr, nr) from h) (by intro h9; cases h9)
  | goto off =>
    simp only [yspec, Bool.and_eq_true, decide_eq_true_eq] at hs
    simp only [ystep] at h
    obtain ⟨h1, h2⟩ := hs
    split at h
    · next a as =>
        obtain ⟨tgt, ht, hj⟩ := jump h2
        intro H locs ls ad hP hD hS hl ha
        exact lv_goto hx hb (zdec_ok h1) ht (hj h hL hc hn H locs ls ad hP hD hS hl ha)
    · cases h
  | dup =>
    simp only [yspec, Bool.and_eq_true, decide_eq_true_eq] at hs
    simp only [ystep] at h
    split at h
    · intro H locs ls ad hP hD hS hl ha
      exact lv_dup hx hb (zdec_ok hs.1) rfl (fall hs.2 h hL hc hn H locs ls ad hP hD hS hl ha)
    · cases h
  | new x0 =>
    simp only [yspec, Bool.and_eq_true, decide_eq_true_eq] at hs
    simp only [ystep] at h
    obtain ⟨⟨h1, h2⟩, h3⟩ := hs
    split at h
    · next ci N a1 a2 b1 b2 c1 c2 bs =>
        have h' := ygd_inv h
        clear h
        obtain ⟨hy, h⟩ := h'
        obtain ⟨S2, ca, na, hk, hr2⟩ := yadd_inv h
        simp only [Prod.mk.injEq] at hr2
        obtain ⟨rfl, rfl, rfl⟩ := hr2
        dsimp only at h3
        split at h3
        · next q hq =>
            simp only [Bool.and_eq_true, decide_eq_true_eq] at h3
            obtain ⟨⟨⟨⟨⟨g1, g2⟩, g3⟩, g4⟩, g5⟩, g6⟩ := h3
            obtain ⟨i1, i2, i3⟩ := yin_inv hy
            obtain ⟨hu, ty, hty, hnm⟩ := ztbl_in ci q hq
            intro H locs ls ad hP hD hS hl ha
            subst g1
            refine va_new (D := D) (cl := vwCl) (C := q.1) (T := q.2.1) (N := q.2.2) (ci := ci) (fs := yfs (yup ad S.1.length H.size) (yzero S.2 S.1.length) S.1.length (yraw bs)) hx hb hts hu ty hty hown (hts _ (zwd_ok g2)) (hts _ (zwd_ok g3)) (hts _ (zwd_ok g4)) hK hP hD hS hA hq ?_ ?_ ?_ (zdec_ok h1) (fun q1 H1 hP1 hD1 hS1 => ?_)
            · intro j hj
              have hjb : j < bs.length := by omega
              have hbj : bs[j]? = some bs[j] := List.getElem?_eq_getElem hjb
              have hd := ybits_ok bs 0 j bs[j] (ty j) g6 hbj (by rw [Nat.zero_add]; exact hty j hj)
              have hf : (yfs (yup ad S.1.length H.size) (yzero S.2 S.1.length) S.1.length (yraw bs))[j]? = some (if bs[j] = 0 then Value.int 0 else Value.null) := by
                rw [yfs_get (o := (match bs[j] with
                  | 0 => none
                  | _ => some none)) (by rw [yraw_get, hbj]; rfl)]
                cases hb0 : bs[j] with
                | zero => simp [yfv, yzero]
                | succ z => simp [yfv]
              rw [hd, vp_V, List.getD_eq_getElem?_getD, hf]
              rfl
            · show c0 + 1 ≤ CT
              omega
            · show n0 + q.2.2 ≤ NT
              omega
            · have hx2 : ∀ a, (Sum.inr (ci, yfs (yup ad S.1.length H.size) (yzero S.2 S.1.length) S.1.length (yraw bs)) : va_E) = ycell cI cJ (yup ad S.1.length a) (yzero S.2 S.1.length) S.1.length (.inr (.inr (ci, yraw bs))) := by
                intro a
                simp only [ycell, Sum.inr.injEq, Prod.mk.injEq, true_and]
                apply List.ext_getElem?
                intro j
                simp only [yfs, List.getElem?_mapIdx, yraw_get]
                cases bs[j]? with
                | none => rfl
                | some z => cases z <;> rfl
              have e1 := yW_push (cI := cI) (cJ := cJ) (ad := ad) (ad' := yup ad S.1.length q1) (S := S) (σ' := yzero S.2 S.1.length) (a := q1) i3 yup_lt yup_eq yzero_lt (hx2 q1)
              rw [e1] at hP1 hD1
              have hz := fall (c1 := c0 + 1) (n1 := n0 + q.2.2) h2 hk (by simp only [List.length_append, List.length_cons, List.length_nil]; omega) (by omega) (by omega) H1 locs ls (yup ad S.1.length q1) hP1 hD1 hS1 (zloc_ad i1 yup_lt hl) (fun j hj => by rw [yup_lt j (by omega)]; exact ha j hj)
              have ek : (List.map (zc (yup ad S.1.length q1)) (.inr (.inr S.1.length) :: k)) = Value.ref q1 :: k.map (zc ad) := by
                rw [List.map_cons, zcs_ad i2 yup_lt]
                simp only [zc, yup_eq]
              rw [ek] at hz
              exact hz
        · cases h3
    · cases h
  | newarray t0 =>
    simp only [yspec, Bool.and_eq_true, decide_eq_true_eq] at hs
    simp only [ystep] at h
    obtain ⟨⟨h1, h2⟩, h3⟩ := hs
    split at h3
    · next a1 a2 as =>
      split at h
      · next n k' =>
        split at h
        · skip
          have h' := ygd_inv h
          clear h
          obtain ⟨hy, h⟩ := h'
          split at h
          · cases h
          · next hb2 =>
              simp only [not_or] at hb2
              obtain ⟨S2, ca, na, hk, hr2⟩ := yadd_inv h
              simp only [Prod.mk.injEq] at hr2
              obtain ⟨rfl, rfl, rfl⟩ := hr2
              obtain ⟨i1, i2, i3⟩ := yin_inv hy
              intro H locs ls ad hP hD hS hl ha
              refine va_newa (D := D) (cl := vwCl) (atype := .int) (ty := .int) (N' := n.toNatClampNeg) (a0 := (n.toNatClampNeg, .inl (fun _ => 0))) hx hb (hts _ (zwd_ok h3)) rfl hK hP hD hS hA (fun cA => rfl) hb2.1 rfl (by simp only [componentBytes]; omega) (by show c0 + 1 ≤ CT; omega) (by show n0 + n.toNatClampNeg ≤ NT; omega) (zdec_ok h1) (fun q1 cA H1 hK1 hP1 hD1 hS1 => ?_)
              have hcA : cA = cI := by
                have r1 := (hK1.2 2 (cA, .int) rfl).2
                have r2 := (hK1.2 0 (cI, .int) rfl).2
                exact Option.some.inj (r1.symm.trans r2)
              subst hcA
              have hx2 : (Sum.inl (cA, n.toNatClampNeg, .inl (fun _ => 0)) : va_E) = ycell cA cJ (yup ad S.1.length q1) (yzero S.2 S.1.length) S.1.length (.inl n.toNatClampNeg) := by
                simp only [ycell]
                rw [show (fun _ => (0 : Int32)) = (yzero S.2 S.1.length).1 S.1.length from by funext j; simp [yzero]]
              have e1 := yW_push (ad := ad) (ad' := yup ad S.1.length q1) (S := S) (σ' := yzero S.2 S.1.length) (a := q1) i3 yup_lt yup_eq yzero_lt hx2
              rw [e1] at hP1 hD1
              have hz := fall (c1 := c0 + 1) (n1 := n0 + n.toNatClampNeg) h2 hk (by simp only [List.length_append, List.length_cons, List.length_nil]; omega) (by omega) (by omega) H1 locs ls (yup ad S.1.length q1) hP1 hD1 hS1 (zloc_ad i1 yup_lt hl) (fun j hj => by rw [yup_lt j (by omega)]; exact ha j hj)
              have ek : (List.map (zc (yup ad S.1.length q1)) (.inr (.inr S.1.length) :: k')) = Value.ref q1 :: k'.map (zc ad) := by
                have i2' : k'.all (yinV S.1.length) = true := i2
                rw [List.map_cons, zcs_ad i2' yup_lt]
                simp only [zc, yup_eq]
              rw [ek] at hz
              exact hz
        · skip
          have h' := ygd_inv h
          clear h
          obtain ⟨hy, h⟩ := h'
          split at h
          · cases h
          · next hb2 =>
              simp only [not_or] at hb2
              obtain ⟨S2, ca, na, hk, hr2⟩ := yadd_inv h
              simp only [Prod.mk.injEq] at hr2
              obtain ⟨rfl, rfl, rfl⟩ := hr2
              obtain ⟨i1, i2, i3⟩ := yin_inv hy
              intro H locs ls ad hP hD hS hl ha
              refine va_newa (D := D) (cl := vwCl) (atype := .long) (ty := .long) (N' := n.toNatClampNeg) (a0 := (n.toNatClampNeg, .inr (.inl (fun _ => 0)))) hx hb (hts _ (zwd_ok h3)) rfl hK hP hD hS hA (fun cA => rfl) hb2.1 rfl (by simp only [componentBytes]; omega) (by show c0 + 1 ≤ CT; omega) (by show n0 + n.toNatClampNeg ≤ NT; omega) (zdec_ok h1) (fun q1 cA H1 hK1 hP1 hD1 hS1 => ?_)
              have hcA : cA = cJ := by
                have r1 := (hK1.2 2 (cA, .long) rfl).2
                have r2 := (hK1.2 1 (cJ, .long) rfl).2
                exact Option.some.inj (r1.symm.trans r2)
              subst hcA
              have hx2 : (Sum.inl (cA, n.toNatClampNeg, .inr (.inl (fun _ => 0))) : va_E) = ycell cI cA (yup ad S.1.length q1) (yzero S.2 S.1.length) S.1.length (.inr (.inl n.toNatClampNeg)) := by
                simp only [ycell]
                rw [show (fun _ => (0 : Int64)) = (yzero S.2 S.1.length).2 S.1.length from by funext j; simp [yzero]]
              have e1 := yW_push (ad := ad) (ad' := yup ad S.1.length q1) (S := S) (σ' := yzero S.2 S.1.length) (a := q1) i3 yup_lt yup_eq yzero_lt hx2
              rw [e1] at hP1 hD1
              have hz := fall (c1 := c0 + 1) (n1 := n0 + n.toNatClampNeg) h2 hk (by simp only [List.length_append, List.length_cons, List.length_nil]; omega) (by omega) (by omega) H1 locs ls (yup ad S.1.length q1) hP1 hD1 hS1 (zloc_ad i1 yup_lt hl) (fun j hj => by rw [yup_lt j (by omega)]; exact ha j hj)
              have ek : (List.map (zc (yup ad S.1.length q1)) (.inr (.inr S.1.length) :: k')) = Value.ref q1 :: k'.map (zc ad) := by
                have i2' : k'.all (yinV S.1.length) = true := i2
                rw [List.map_cons, zcs_ad i2' yup_lt]
                simp only [zc, yup_eq]
              rw [ek] at hz
              exact hz
        · cases h
      · cases h
    · cases h3
  | getfield x0 =>
    simp only [yspec, Bool.and_eq_true, decide_eq_true_eq] at hs
    simp only [ystep] at h
    obtain ⟨⟨h1, h2⟩, h3⟩ := hs
    split at h
    · next ci j as =>
      split at h
      · next q k' =>
        split at h
        · next c9 fs hq =>
          have h' := ygd_inv h
          clear h
          obtain ⟨hb9, h⟩ := h'
          have := Nat.eq_of_beq_eq_true hb9
          subst this
          split at h
          · next r hj =>
            split at h3
            · next ci' j' a1 a2 as' heq =>
              cases heq
              split at h3
              · next q3 hq3 =>
                simp only [Bool.and_eq_true, decide_eq_true_eq] at h3
                obtain ⟨⟨g1, g2⟩, g3⟩ := h3
                intro H locs ls ad hP hD hS hl ha
                have hv := yfs_get (ad := ad) (σ := S.2) (k := q) hj
                exact va_get (D := D) (cl := vwCl) (C := q3.1) (T := q3.2.1) (N := q3.2.2) hx hb hts (ztbl_in _ q3 hq3).1 hown hK hP q (yW_get hq) hq3 j g1 (hts _ (zwd_ok g3)) (fun z hz => by rw [g2] at hz; exact hz) hv (zdec_ok h1) (fall h2 h hL hc hn H locs ls ad hP hD hS hl ha)
              · cases h3
            · cases h3
          · cases h
        · cases h
      · cases h
    · cases h
  | putfield x0 =>
    simp only [yspec, Bool.and_eq_true, decide_eq_true_eq] at hs
    simp only [ystep] at h
    obtain ⟨⟨h1, h2⟩, h3⟩ := hs
    split at h
    · next ci j bk as =>
      split at h3
      · next ci' j' bk' a1 a2 as' heq =>
        cases heq
        split at h3
        · next q3 hq3 =>
          simp only [Bool.and_eq_true, decide_eq_true_eq] at h3
          obtain ⟨⟨⟨⟨g1, g2⟩, g3⟩, g4⟩, g5⟩ := h3
          have hlink := hts _ (zwd_ok g4)
          obtain ⟨ty0, hty, hnm⟩ := (ztbl_in ci q3 hq3).2
          split at h
          · next x q k' =>
            split at h
            · next c9 fs hq =>
              have h' := ygd_inv h
              clear h
              obtain ⟨hb9, h⟩ := h'
              simp only [Bool.and_eq_true] at hb9
              have := Nat.eq_of_beq_eq_true hb9.1
              subst this
              have := Nat.eq_of_beq_eq_true hb9.2
              subst this
              simp only [Bool.and_eq_true, decide_eq_true_eq] at g5
              split at h
              · next hj =>
                intro H locs ls ad hP hD hS hl ha
                have hv := yfs_get (ad := ad) (σ := S.2) (k := q) hj
                have hx2 : (Sum.inr (c9, (yfs ad S.2 q fs).set j (.int x)) : va_E) = ycell cI cJ ad (zs S.2 q j x) q (.inr (.inr (c9, fs))) := by
                  rw [yfs_seti hj]
                  rfl
                refine va_put (D := D) (cl := vwCl) (C := q3.1) (T := q3.2.1) (N := q3.2.2) (v := .int x) (ty := .int) hx hb hts (ztbl_in _ q3 hq3).1 ty0 hty hnm hown hK hP hD hS q (yW_get hq) hq3 j g1 hlink (fun z hz => by rw [g2] at hz; exact hz) g5.1 (by rw [g5.2]; decide +kernel) rfl rfl (List.getElem?_eq_some_iff.mp hv).1 (zdec_ok h1) (fun H1 locs1 hP1 hD1 hS1 => ?_)
                exact fall (S2 := (S.1, zs S.2 q j x)) h2 h hL hc hn H1 locs1 ls ad (yP_set (S2 := (S.1, zs S.2 q j x)) hq (yset_self hq) (fun k e' hk => ycell_zs k e' hk) hx2 hP1) (yD_set (S2 := (S.1, zs S.2 q j x)) hq (yset_self hq) (fun k e' hk => ycell_zs k e' hk) hx2 hD1) hS1 hl ha
              · cases h
            · cases h
          · next r q k' =>
            split at h
            · next c9 fs hq =>
              have h' := ygd_inv h
              clear h
              obtain ⟨hb9, h⟩ := h'
              simp only [Bool.and_eq_true] at hb9
              have := Nat.eq_of_beq_eq_true hb9.1
              subst this
              have := Nat.eq_of_beq_eq_true hb9.2
              subst this
              simp only [Bool.and_eq_true, decide_eq_true_eq] at g5
              split at h
              · next o hj =>
                intro H locs ls ad hP hD hS hl ha
                have hv := yfs_get (ad := ad) (σ := S.2) (k := q) hj
                obtain ⟨ty, hd, hnf⟩ := yref_ok g5.2
                have hx2 : (Sum.inr (c9, (yfs ad S.2 q fs).set j (.ref (ad r))) : va_E) = ycell cI cJ ad S.2 q (.inr (.inr (c9, fs.set j (some (some r))))) := by
                  rw [yfs_setr hj]
                  rfl
                refine va_putF (D := D) (cl := vwCl) (C := q3.1) (T := q3.2.1) (N := q3.2.2) (v := .ref (ad r)) (ty := ty) hx hb hts (ztbl_in _ q3 hq3).1 ty0 hty hnm hown hK hP hD hS q (yW_get hq) hq3 j g1 hlink (fun z hz => by rw [g2] at hz; exact hz) g5.1 hin (g2.trans g3) hd (hnf _).1 (hnf _).2 (List.getElem?_eq_some_iff.mp hv).1 (zdec_ok h1) (fun H1 locs1 hP1 hD1 hS1 => ?_)
                exact fall (S2 := (S.1.set q (.inr (.inr (c9, fs.set j (some (some r))))), S.2)) h2 h (by simpa using hL) hc hn H1 locs1 ls ad (yP_set (S2 := (S.1.set q (.inr (.inr (c9, fs.set j (some (some r))))), S.2)) hq rfl (fun _ _ _ => rfl) hx2 hP1) (yD_set (S2 := (S.1.set q (.inr (.inr (c9, fs.set j (some (some r))))), S.2)) hq rfl (fun _ _ _ => rfl) hx2 hD1) hS1 hl ha
              · cases h
            · cases h
          · cases h
        · cases h3
      · cases h3
    · cases h
  | iastore =>
    simp only [yspec, Bool.and_eq_true, decide_eq_true_eq] at hs
    simp only [ystep] at h
    split at h
    · next x i q k' =>
      split at h
      · next n hq =>
        split at h
        · cases h
        · next hb2 =>
          intro H locs ls ad hP hD hS hl ha
          have hx2 : (Sum.inl (cI, n, .inl (upd (S.2.1 q) i.toNatClampNeg x)) : va_E) = ycell cI cJ ad (zs S.2 q i.toNatClampNeg x) q (.inl n) := by
            simp only [ycell, zs, zup_eq]
          exact va_iast (D := D) (cl := vwCl) hx hb hK hP hD hS q 0 (yW_get hq) rfl hb2 (zdec_ok hs.1) (fun H1 locs1 hP1 hD1 hS1 => fall (S2 := (S.1, zs S.2 q i.toNatClampNeg x)) hs.2 h hL hc hn H1 locs1 ls ad (yP_set (S2 := (S.1, zs S.2 q i.toNatClampNeg x)) hq (yset_self hq) (fun k e' hk => ycell_zs k e' hk) hx2 hP1) (yD_set (S2 := (S.1, zs S.2 q i.toNatClampNeg x)) hq (yset_self hq) (fun k e' hk => ycell_zs k e' hk) hx2 hD1) hS1 hl ha)
      · cases h
    · cases h
  | invokespecial x0 =>
    simp only [yspec, Bool.and_eq_true, decide_eq_true_eq] at hs
    simp only [ystep] at h
    obtain ⟨⟨h1, h2⟩, h3⟩ := hs
    split at h
    · next as =>
      split at h
      · next qq k' =>
        have h' := ygd_inv h
        clear h
        obtain ⟨hsum, h⟩ := h'
        split at h3
        · next a1 a2 b1 b2 c1 c2 as' heq =>
          simp only [Bool.and_eq_true] at h3
          obtain ⟨⟨g1, g2⟩, g3⟩ := h3
          intro H locs ls ad hP hD hS hl ha
          have hle := Nat.le_of_ble_eq_true hsum
          refine W.objInit (a := ad qq) (rest := k'.map (zc ad)) hx hb hown (hts _ (zwd_ok g1)) (hts _ (zwd_ok g2)) (hts _ (zwd_ok g3)) rfl (by rw [hml]; exact hl.1) rfl (zdec_ok h1) (Nat.le_add_left 1 d) ?_ ?_
          · show 2 * 0 + ((k'.map (zc ad)).map fun v => v.category).sum + 12 ≤ 40 * (d + 1)
            rw [zw_sum]
            omega
          · exact W.eq (g2 := F0 m (pc + 3) ls (k'.map (zc ad))) rfl (fall h2 h hL hc hn H locs ls ad hP hD hS hl ha)
        · next heq => cases heq
        · cases h3
      · cases h
    · next t0 mm as hne =>
      split at h
      · next q k' =>
        have h' := ygd_inv h
        clear h
        obtain ⟨hsum, h⟩ := h'
        simp only [Bool.and_eq_true] at hsum
        obtain ⟨i1, i2, i3⟩ := yin_inv hsum.2
        split at h
        · next r hcr =>
          have h' := ygd_inv h
          clear h
          obtain ⟨hlen, h⟩ := h'
          obtain ⟨S2, ca, na, hk, hr2⟩ := yadd_inv h
          simp only [Prod.mk.injEq] at hr2
          obtain ⟨rfl, rfl, rfl⟩ := hr2
          obtain ⟨y, hy1, hy2, hy3⟩ := hC _ _ _ _ hcr
          have hlen := Nat.le_of_ble_eq_true hlen
          have hle := Nat.le_of_ble_eq_true hsum.1
          split at h3
          · next heq => cases heq; exact (hne rfl).elim
          · next t1 m1 z a1 a2 as' heq =>
            cases heq
            rw [hy1] at h3
            dsimp only at h3
            obtain ⟨m1, m2, m3, m4, m5, m6, m7, m8, -, -⟩ := hy2
            intro H locs ls ad hP hD hS hl ha
            have hF : ∀ q, va_A (yW cI cJ ad S) H.size q → A q := by
              rintro q (⟨i, x, h⟩ | h)
              · exact hD.2 i (q, x) h
              · exact hA q (Nat.le_trans hS.1 h)
            have hroom : 8 + (y.2.2.1 + 11) + 40 * d ≤ 40 * (d + 1) := by omega
            have hgw : ∀ w ∈ (Cond.code y.1 y.2.1 y.2.2.1 none :: zTb), w ∈ zTb := fun w hw => (List.mem_cons.mp hw).elim (fun e => e ▸ m3) id
            have hgood : GoodIn zTb (Cond.code y.1 y.2.1 y.2.2.1 none :: zTb) := fun w hw => ⟨hgw w hw, ztbl_good w (hgw w hw)⟩
            have hpre : PreS s H (va_Pc [.ref (ad q)] (fun U => U.heap.size = H.size ∧ va_P D vwCl (yW cI cJ ad S) U.heap ∧ va_K D vwCl [(cI, .int), (cJ, .long)] U ∧ va_D (fun _ => True) (yW cI cJ ad S) ∧ yNk U)) [.ref (ad q)] := by
              refine ⟨?_, ?_⟩
              · intro a U g mk q
                obtain ⟨q0, q1, qP, qK, qD, qN⟩ := q
                exact ⟨q0, q1, qP, va_K.moved (u := U) (U := U.calling g mk a) (Vm.Alike.refl U.vm) qK, qD, yNk.same (u := U) (U := U.calling g mk a) rfl qN⟩
              · intro U hU hW
                exact ⟨rfl, by rw [hU], by rw [hU]; exact hP, va_K.moved hW.alike hK, hD.weaken (fun _ _ _ _ => trivial), yNk.warm hW hN⟩
            have kk : ∀ (u : Nat → Nat) (t : State) (H1 : Heap) (locs1 : List Loc), t.heap = H1 → (∀ j, j < S.1.length → u j = ad j) → (va_P D vwCl (yW cI cJ u r.1) t.heap ∧ va_K D vwCl [(cI, .int), (cJ, .long)] t ∧ va_D (va_A (yW cI cJ ad S) H.size) (yW cI cJ u r.1)) → va_S A s.heap H1 locs1 → W p l e (yrm (d + 1) CT NT) s m args below meth c H1 locs1 (c0 + r.2.1) (n0 + r.2.2) (MQ below (yQ D cI cJ ad0 L0 S' A) args s CT NT A) (F0 m (pc + 3) ls (k'.map (zc ad))) := by
              intro u t H1 locs1 ht hu hB hS1
              obtain ⟨hP1, hK1, hD1⟩ := hB
              rw [ht] at hP1
              have i2' : k'.all (yinV S.1.length) = true := i2
              have hz := fall (c1 := c0 + r.2.1) (n1 := n0 + r.2.2) h2 hk (by omega) (by omega) (by omega) H1 locs1 ls u hP1 (hD1.weaken (fun _ q _ h => hF q.1 h)) hS1 (zloc_ad i1 hu hl) (fun j hj => by rw [hu j (by omega)]; exact ha j hj)
              rw [zcs_ad i2' hu] at hz
              exact hz
            have hrm : c0 + r.2.1 ≤ CT ∧ n0 + r.2.2 ≤ NT := ⟨by omega, by omega⟩
            have hM := hy3 ad H.size
            by_cases hz : z = 0
            · rw [if_pos hz] at h3
              exact va_callv (a := (Value.ref (ad q) :: []).toArray) (va_runI (As := []) (b := ad q) (rest := k'.map (zc ad)) ⟨hx, hb, hml, hown, hts⟩ hM (cwI 0 hts hgood rfl rfl rfl (hts _ m4) (hts _ (zwd_ok h3)) (hts _ m6) m7 ⟨m2.1, m2.2, m5⟩ ⟨Nat.le_refl _, hroom⟩) hpre rfl rfl hl.1 rfl (lv_room (by rw [zw_sum]; exact hle)) (zdec_ok h1) hrm) hS (fun q _ h => hF q h) hF (fun u t H1 locs1 ht _ hu hB _ _ hS1 => kk u t H1 locs1 ht hu hB hS1)
            · rw [if_neg hz] at h3
              exact va_callv (a := (Value.ref (ad q) :: []).toArray) (va_runIN (host := "ProtoOrders") (As := []) (b := ad q) (rest := k'.map (zc ad)) ⟨hx, hb, hml, hown, hts⟩ hM ⟨va_cnB 0 hts hgood rfl rfl rfl (hN _ (of_decide_eq_true h3)) (hts _ m4) ⟨m2.1, m2.2, m5⟩ ⟨Nat.le_refl _, hroom⟩, m7, hts _ m6⟩ hpre rfl rfl hl.1 rfl (lv_room (by rw [zw_sum]; exact hle)) (zdec_ok h1) hrm) hS (fun q _ h => hF q h) hF (fun u t H1 locs1 ht _ hu hB _ _ hS1 => kk u t H1 locs1 ht hu hB hS1)
          · cases h3
        · cases h
      · cases h
    · cases h
  | invokestatic x0 =>
    simp only [yspec, Bool.and_eq_true, decide_eq_true_eq] at hs
    simp only [ystep] at h
    obtain ⟨⟨h1, h2⟩, h3⟩ := hs
    split at h
    · next x q k' =>
      have h' := ygd_inv h
      clear h
      obtain ⟨hsum, h⟩ := h'
      have hle := Nat.le_of_ble_eq_true hsum
      split at h
      · next hq =>
        split at h3
        · next mm a1 a2 =>
          simp only [Bool.and_eq_true] at h3
          intro H locs ls ad hP hD hS hl ha
          obtain ⟨m1, m2, m3, m4, m5, m6, m7, m8, -, -, -⟩ := hfy
          rw [if_pos (show zI_J_fill2.2.2.2.2.2.1 = true from rfl)] at m6
          have hM0 := hfill (fun _ => ad q) x (fun _ => S.2.1 q, fun _ _ => 0) H.size
          have hwc : zW cI cJ (fun _ => ad q) [.inl 8] (fun _ => S.2.1 q, fun _ _ => 0) = [(ad q, .inl (cI, 8, .inl (S.2.1 q)))] := rfl
          have hPc : va_P D vwCl (zW cI cJ (fun _ => ad q) [.inl 8] (fun _ => S.2.1 q, fun _ _ => 0)) H := by
            rw [hwc]
            intro k2 p2 hk2
            cases k2 with
            | zero => cases hk2; exact hP q _ (yW_get hq)
            | succ k2 => simp at hk2
          have hDc : va_D (fun _ => True) (zW cI cJ (fun _ => ad q) [.inl 8] (fun _ => S.2.1 q, fun _ _ => 0)) := by
            rw [hwc]
            refine ⟨fun i j p q hi hj _ => ?_, fun _ _ _ => trivial⟩
            cases i with
            | zero =>
              cases j with
              | zero => rfl
              | succ j => simp at hj
            | succ i => simp at hi
          have hin1 : ∀ z, va_A (zW cI cJ (fun _ => ad q) [.inl 8] (fun _ => S.2.1 q, fun _ _ => 0)) H.size z → z = ad q ∨ H.size ≤ z := by
            rintro z (⟨i, w, hz⟩ | hz)
            · rw [hwc] at hz
              cases i with
              | zero => cases hz; exact Or.inl rfl
              | succ i => simp at hz
            · exact Or.inr hz
          have hF : ∀ z, va_A (zW cI cJ (fun _ => ad q) [.inl 8] (fun _ => S.2.1 q, fun _ _ => 0)) H.size z → A z := by
            intro z hz
            rcases hin1 z hz with rfl | hz
            · exact hD.2 q _ (yW_get hq)
            · exact hA z (Nat.le_trans hS.1 hz)
          have hgw1 : ∀ w ∈ (Cond.code zI_J_fill2.1 zI_J_fill2.2.1 zI_J_fill2.2.2.1 zI_J_fill2.2.2.2.1 :: zTb), w ∈ zTb := zgood_all zI_J_fill2 m3
          have hgw : ∀ w ∈ va_wsS own x0 zI_J_fill2.1 (Cond.code zI_J_fill2.1 zI_J_fill2.2.1 zI_J_fill2.2.2.1 zI_J_fill2.2.2.2.1 :: zTb), w ∈ zTb := by
            intro w hw
            unfold va_wsS at hw
            rcases List.mem_append.mp hw with h | h
            · simp only [List.mem_cons, List.not_mem_nil, or_false] at h
              rcases h with rfl | rfl | rfl
              · exact zwd_ok h3.2
              · exact m6
              · exact m4
            · exact hgw1 w h
          have hpre : PreS s H (va_Pc ([.inr (.inr 0), .inl x].map (zc (fun _ => ad q))) (fun U => U.heap.size = H.size ∧ va_P D vwCl (zW cI cJ (fun _ => ad q) [.inl 8] (fun _ => S.2.1 q, fun _ _ => 0)) U.heap ∧ va_K D vwCl [(cI, .int), (cJ, .long)] U ∧ va_D (fun _ => True) (zW cI cJ (fun _ => ad q) [.inl 8] (fun _ => S.2.1 q, fun _ _ => 0)) ∧ zNk U)) [.ref (ad q), .int x] := by
            refine ⟨?_, ?_⟩
            · intro a U g mk q
              obtain ⟨q0, q1, qP, qK, qD, qN⟩ := q
              exact ⟨q0, q1, qP, va_K.moved (u := U) (U := U.calling g mk a) (Vm.Alike.refl U.vm) qK, qD, va_Nw.same (u := U) (U := U.calling g mk a) rfl rfl qN⟩
            · intro U hU hW
              exact ⟨rfl, by rw [hU], by rw [hU]; exact hPc, va_K.moved hW.alike hK, hDc, zNk.warm hW hN.zNk⟩
          have hroom : 8 + (zI_J_fill2.2.2.1 + 11) + 40 * d ≤ 40 * (d + 1) := by omega
          refine va_callv (a := ([.ref (ad q), .int x] : List Value).toArray) (S := Unit) (post := fun _ => True) (B := zB D cI cJ (fun _ => ad q) [.inl 8] (va_A (zW cI cJ (fun _ => ad q) [.inl 8] (fun _ => S.2.1 q, fun _ _ => 0)) H.size) (yfill (fun _ => S.2.1 q, fun _ _ => 0) 0 8 x)) (va_runS (As := [.ref (ad q), .int x]) (rest := k'.map (zc ad)) (n := 2) (mc := 0) (ms := 0) ⟨hx, hb, hml, hown, hts⟩ hM0 (va_cwS 2 hts (fun w hw => ⟨hgw w hw, ztbl_good w (hgw w hw)⟩) rfl rfl rfl ⟨m2.1, m2.2, m5⟩ ⟨Nat.le_refl _, hroom⟩) hpre rfl rfl hl.1 rfl (lv_room (by rw [zw_sum]; exact hle)) (zdec_ok h1) ⟨by show c0 + 0 ≤ CT; omega, by show n0 + 0 ≤ NT; omega⟩) hS (fun z _ hz => hF z hz) hF (fun u t H1 locs1 ht _ _ hB _ hkeep hS1 => ?_)
          obtain ⟨hP1, hK1, hD1⟩ := hB
          rw [ht] at hP1
          have hP2 : va_P D vwCl (yW cI cJ ad (S.1, yfill S.2 q 8 x)) H1 := by
            intro k2 p2 hk2
            by_cases hkq : k2 = q
            · subst hkq
              rw [yW_get (S := (S.1, yfill S.2 k2 8 x)) hq] at hk2
              cases hk2
              have h0 := hP1 0 (ad k2, .inl (cI, 8, .inl ((yfill (fun _ => S.2.1 k2, fun _ _ => 0) 0 8 x).1 0))) rfl
              have e0 : (yfill (fun _ => S.2.1 k2, fun _ _ => 0) 0 8 x).1 0 = (yfill S.2 k2 8 x).1 k2 := by
                funext j
                simp [yfill]
              rw [e0] at h0
              exact h0
            · have hk3 : (yW cI cJ ad S)[k2]? = some p2 := by
                simp only [yW, List.getElem?_mapIdx] at hk2 ⊢
                cases hs2 : S.1[k2]? with
                | none => rw [hs2] at hk2; cases hk2
                | some e2 =>
                  rw [hs2] at hk2
                  simp only [Option.map_some, Option.some.injEq] at hk2 ⊢
                  rw [← hk2, ycell_yfill k2 e2 hkq]
              refine (hP k2 p2 hk3).kept (hkeep p2.1 (hP k2 p2 hk3).lt (fun hz => ?_))
              rcases hin1 p2.1 hz with hz | hz
              · exact hkq (hD.1 k2 q p2 _ hk3 (yW_get hq) hz)
              · exact absurd (hP k2 p2 hk3).lt (Nat.not_lt.mpr hz)
          exact fall (S2 := (S.1, yfill S.2 q 8 x)) (c1 := c0 + 0) (n1 := n0 + 0) h2 h hL hc hn H1 locs1 ls ad hP2 (yD_any (S := S) rfl hD) hS1 hl ha
        · cases h3
      · cases h
    · cases h
  | return_ =>
    simp only [yspec, Bool.and_eq_true, decide_eq_true_eq] at hs
    simp only [ystep] at h
    split at h
    · cases h
      intro H locs ls ad hP hD hS hl ha
      have e1 : c0 = CT := by omega
      have e2 : n0 = NT := by omega
      subst e1; subst e2
      exact W.vret hx hb hr (fun t ht hW => ⟨⟨ad, rfl, ha, by rw [ht]; exact hP, va_K.moved hW.alike hK, hD⟩, hS.F ht⟩) hS.2.2 (zdec_ok hs) hlocks
    · cases h
  | _ => exact absurd (show (none : yR) = some (S', cr, nr) from h) (by intro h9; cases h9)
end YST
end
section
section YCL
variable {p : Program} {l : Launch} {e : Env} {s : State} {m : MethodId} {args : Array Value} {below : List Frame} {meth : Method} {c : Code} {cc : ByteArray} {A : Nat → Prop} {D : va_G} {cI cJ : ClassId} {ad0 : Nat → Nat} {L0 CT NT : Nat} {own : String} {nL : Nat} {Ms : List zMeth} {C : Nat → Nat → yS → yR} {T : zT} {d : Nat} {S' : yS}
theorem yrun_ok
    (hx : p.tables.exec = Jvm.exec) (hb : c.code = cc) (hr : meth.sig.returnType = none) (hml : c.maxLocals = nL) (hown : s.vm.findClass own = some m.cls) (hin : meth.name = "<init>") (hts : ∀ w ∈ zTb, w.before args s = true) (hlocks : meth.locks = false) (hK : va_K D vwCl [(cI, .int), (cJ, .long)] s) (hN : yNk s) (hA : ∀ q : Nat, s.heap.size ≤ q → A q)
    (hC : ∀ mm q S0 r, C mm q S0 = some r → ∃ y, Ms[mm]? = some y ∧ ymok Ms y ∧ yMet l D cI cJ d y q S0 r.1 r.2.1 r.2.2)
    (hfy : zmok zMs zI_J_fill2) (hfill : ∀ (ad1 : Nat → Nat) (x : Int32) (τ : zS), zMet l D cI cJ ad1 [.inl 8] (zrm d) zI_J_fill2 [.inr (.inr 0), .inl x] τ (none, yfill τ 0 8 x))
    (hsp : ∀ (n : Nat) (e' : zEnt), T[n]? = some e' → yspec Ms own cc nL T e'.1 e'.2.1 e'.2.2.2.1 e'.2.2.2.2.2.1 (T.drop (n + 1)) = true) :
    ∀ (g n : Nat) (e' : zEnt) (es' : zT) (lo : zL) (k : List zV) (S : yS) (c0 n0 cr nr : Nat), T.drop n = e' :: es' → yrun C T g (e' :: es') lo k S = some (S', cr, nr) → L0 ≤ S.1.length → c0 + cr = CT → n0 + nr = NT → yAt p l e (yrm (d + 1) CT NT) s m args below meth c A D cI cJ nL ad0 L0 (MQ below (yQ D cI cJ ad0 L0 S' A) args s CT NT A) e'.1 lo k S c0 n0 := by
  intro g
  induction g with
  | zero => intro n e' es' lo k S c0 n0 cr nr he h; cases h
  | succ g ih =>
    intro n e' es' lo k S c0 n0 cr nr he h hL hc hn
    obtain ⟨h1, h2⟩ := zdrop_get he
    have hs := hsp n e' h1
    rw [← h2] at hs
    unfold yrun at h
    dsimp only at h
    refine ystep_ok hx hb hr hml hown hin hts hlocks hK hN hA hC hfy hfill ?_ hs h hL hc hn
    intro e2 es2 lo2 k2 S2 c1 n1 c2 n2 hpos hk hL2 hc2 hn2
    obtain ⟨n3, hn3⟩ : ∃ n3, T.drop n3 = e2 :: es2 := by
      rcases hpos with hp | ⟨a, ha⟩
      · exact ⟨n + 1, by rw [← h2, hp]⟩
      · exact ⟨a, ha⟩
    exact ih n3 e2 es2 lo2 k2 S2 c1 n1 c2 n2 hn3 hk hL2 hc2 hn2
theorem ycall_ok (hMs : ∀ (mm : Nat) (y : zMeth), Ms[mm]? = some y → ymok Ms y) (hfy : zmok zMs zI_J_fill2) (hfill : ∀ (d : Nat) (ad1 : Nat → Nat) (x : Int32) (τ : zS), 0 < d → zMet l D cI cJ ad1 [.inl 8] (zrm d) zI_J_fill2 [.inr (.inr 0), .inl x] τ (none, yfill τ 0 8 x)) :
    ∀ (d mm q : Nat) (S : yS) (r : yS × Nat × Nat), ycall Ms d mm q S = some r → ∃ y, Ms[mm]? = some y ∧ ymok Ms y ∧ yMet l D cI cJ (d + 1) y q S r.1 r.2.1 r.2.2 := by
  intro d
  induction d with
  | zero => intro mm q S r h; cases h
  | succ d ih =>
    intro mm q S r h
    unfold ycall at h
    split at h
    next y1 b nL r0 np st rk T hy =>
      split at h
      next => cases h
      next nL1 =>
        refine ⟨_, hy, hMs mm _ hy, ?_⟩
        obtain ⟨m1, m2, m3, m4, m5, m6, m7, m8, m9, m10⟩ := hMs mm _ hy
        intro ad sz
        refine Met.ofW (cc := b) (maxL := nL1 + 1) (ret := none) m1 rfl ?_
        intro p e s m args below meth c s₁ B hml hv
        obtain ⟨rfl, hsz, hP, hK, hD0, hN⟩ := hv
        subst hsz
        have hts : ∀ w ∈ zTb, w.before (([.ref (ad q)] : List Value).toArray) s = true := fun w hw => atoms_spec (ws := Cond.code y1 b (nL1 + 1) none :: zTb) B.pre w (List.mem_cons_of_mem _ hw)
        have hown : s.vm.findClass y1.cls = some m.cls := findClass_of_methodNamed B.named
        have hin : meth.name = "<init>" := (name_of_methodNamed B.named B.method).1.trans m7
        rw [lg_entry_eq]
        obtain ⟨e0, he0, hpc⟩ := Option.map_eq_some_iff.mp m9
        have hT : T.drop 0 = e0 :: T.drop 1 := by
          obtain ⟨hl, hg⟩ := List.getElem?_eq_some_iff.mp he0
          rw [List.drop_eq_getElem_cons hl]
          rw [show T[0] = e0 from hg]
        have h0 : yrun (ycall Ms d) T 500 (e0 :: T.drop 1) (some (.inr (.inr q)) :: List.replicate nL1 none) [] S = some (r.1, r.2.1, r.2.2) := by
          rw [← hT]
          exact h
        have hz := yrun_ok (e := e) (below := below) (A := va_A (yW cI cJ ad S) s.heap.size) (D := D) (cI := cI) (cJ := cJ) (ad0 := ad) (L0 := S.1.length) (CT := r.2.1) (NT := r.2.2) (d := d + 1) B.exec B.bytes B.returns hml hown hin hts B.notSynchronized hK hN (fun q hq => Or.inr hq) ih hfy (fun ad1 x τ => hfill (d + 1) ad1 x τ (Nat.succ_pos d)) m10 500 0 e0 (T.drop 1) _ _ S 0 0 r.2.1 r.2.2 hT h0 (Nat.le_refl _) (Nat.zero_add _) (Nat.zero_add _)
        rw [hpc] at hz
        have hlo := zloc_entry ad [.inr (.inr q)] (nL1 + 1) (by simp [zargs])
        have hlo2 : zfill (nL1 + 1) (zargs [.inr (.inr q)]) = some (.inr (.inr q)) :: List.replicate nL1 none := by simp [zfill, zargs]
        rw [hlo2] at hlo
        exact hz s.heap [] _ ad hP hD0.self va_S.rf hlo (fun _ _ => rfl)
    next => cases h
end YCL
theorem zf_head (C : Nat → List zV → zS → zR) (n : Nat) (x i L : Int32) (τ : zS) : zexec [.inl 8] C zT_J_fill2 0 (n + 1) 5 [some (.inr (.inr 0)), some (.inl x), some (.inl i), some (.inl L)] [] τ = if L ≤ i then some (none, τ) else zin i 8 (zexec [.inl 8] C zT_J_fill2 0 n 5 [some (.inr (.inr 0)), some (.inl x), some (.inl (i + 1)), some (.inl L)] [] (zs τ 0 i.toNatClampNeg x)) := rfl
theorem zf_entry (C : Nat → List zV → zS → zR) (n : Nat) (x : Int32) (τ : zS) : zexec [.inl 8] C zT_J_fill2 0 (n + 1) 0 [some (.inr (.inr 0)), some (.inl x), none, none] [] τ = zexec [.inl 8] C zT_J_fill2 0 n 5 [some (.inr (.inr 0)), some (.inl x), some (.inl 0), some (.inl (Int32.ofNat 8))] [] τ := rfl
def zfF (k : Nat) (x : Int32) (τ : zS) : zS := (fun a j => if a = 0 then (if k ≤ j ∧ j < 8 then x else τ.1 a j) else τ.1 a j, τ.2)
theorem zf_loop (C : Nat → List zV → zS → zR) (x : Int32) : ∀ (f k n : Nat) (τ : zS), k + f = 8 → f < n → zexec [.inl 8] C zT_J_fill2 0 n 5 [some (.inr (.inr 0)), some (.inl x), some (.inl (nI k)), some (.inl (nI 8))] [] τ = some (none, zfF k x τ) := by
  intro f
  induction f with
  | zero =>
    intro k n τ hk hn
    obtain ⟨n, rfl⟩ : ∃ n', n = n' + 1 := ⟨n - 1, by omega⟩
    rw [zf_head, if_pos (nI_le (by omega) (by omega))]
    have : zfF k x τ = τ := by
      unfold zfF
      apply Prod.ext
      · funext a j
        dsimp only
        split
        · rw [if_neg (by omega)]
        · rfl
      · rfl
    rw [this]
  | succ f ih =>
    intro k n τ hk hn
    obtain ⟨n, rfl⟩ : ∃ n', n = n' + 1 := ⟨n - 1, by omega⟩
    rw [zf_head, if_neg (nI_ge (by omega) (by omega)), nI_1, nI_clamp (by omega)]
    unfold zin
    rw [if_neg (nI_in (by omega) (by omega)), ih (k + 1) n _ (by omega) (by omega)]
    congr 2
    apply Prod.ext
    · funext a j
      simp only [zfF, zs, zup]
      by_cases ha : a = 0
      · subst ha
        simp only [if_true]
        by_cases hj : j = k
        · subst hj
          rw [if_neg (by omega), if_pos rfl, if_pos (by omega)]
        · by_cases h2 : k + 1 ≤ j ∧ j < 8
          · rw [if_pos h2, if_pos (by omega)]
          · rw [if_neg h2, if_neg hj, if_neg (by omega)]
      · simp only [if_neg ha]
    · rfl
theorem zfill8 (d : Nat) (x : Int32) (τ : zS) : zcall zMs [.inl 8] (d + 1) 220 [.inr (.inr 0), .inl x] τ = some (none, yfill τ 0 8 x) := by
  have h1 : zcall zMs [.inl 8] (d + 1) 220 [.inr (.inr 0), .inl x] τ = zexec [.inl 8] (zcall zMs [.inl 8] d) zT_J_fill2 0 (19999 + 1) 0 [some (.inr (.inr 0)), some (.inl x), none, none] [] τ := rfl
  have e : zfF 0 x τ = yfill τ 0 8 x := by
    apply Prod.ext
    · funext a j
      simp [zfF, yfill]
    · rfl
  have h2 := zf_loop (zcall zMs [.inl 8] d) x 8 0 19999 τ rfl (by omega)
  rw [e] at h2
  rw [h1, zf_entry]
  exact h2
end
section
set_option maxRecDepth 100000 in
set_option maxHeartbeats 4000000 in
theorem ymo_Applying : ymok yMs yI_Applying := ⟨by decide +kernel, ⟨by decide +kernel, by decide +kernel⟩, zwd_ok (a := 1) (b := 93) (by decide +kernel), zwd_ok (a := 1) (b := 4) (by decide +kernel), by decide +kernel, zwd_ok (a := 1) (b := 92) (by decide +kernel), rfl, by decide +kernel, rfl, yall_ok yT_Applying (by decide +kernel)⟩
set_option maxRecDepth 100000 in
set_option maxHeartbeats 4000000 in
theorem ymo_Merge : ymok yMs yI_Merge := ⟨by decide +kernel, ⟨by decide +kernel, by decide +kernel⟩, zwd_ok (a := 1) (b := 200) (by decide +kernel), zwd_ok (a := 1) (b := 7) (by decide +kernel), by decide +kernel, zwd_ok (a := 1) (b := 199) (by decide +kernel), rfl, by decide +kernel, rfl, yall_ok yT_Merge (by decide +kernel)⟩
set_option maxRecDepth 100000 in
set_option maxHeartbeats 4000000 in
theorem ymo_Reader : ymok yMs yI_Reader := ⟨by decide +kernel, ⟨by decide +kernel, by decide +kernel⟩, zwd_ok (a := 1) (b := 235) (by decide +kernel), zwd_ok (a := 1) (b := 8) (by decide +kernel), by decide +kernel, zwd_ok (a := 1) (b := 234) (by decide +kernel), rfl, by decide +kernel, rfl, yall_ok yT_Reader (by decide +kernel)⟩
set_option maxRecDepth 100000 in
set_option maxHeartbeats 4000000 in
theorem ymo_Runner : ymok yMs yI_Runner := ⟨by decide +kernel, ⟨by decide +kernel, by decide +kernel⟩, zwd_ok (a := 1) (b := 25) (by decide +kernel), zwd_ok (a := 1) (b := 2) (by decide +kernel), by decide +kernel, zwd_ok (a := 1) (b := 24) (by decide +kernel), rfl, by decide +kernel, rfl, yall_ok yT_Runner (by decide +kernel)⟩
set_option maxRecDepth 100000 in
set_option maxHeartbeats 4000000 in
theorem ymo_Shelves : ymok yMs yI_Shelves := ⟨by decide +kernel, ⟨by decide +kernel, by decide +kernel⟩, zwd_ok (a := 1) (b := 177) (by decide +kernel), zwd_ok (a := 1) (b := 5) (by decide +kernel), by decide +kernel, zwd_ok (a := 1) (b := 176) (by decide +kernel), rfl, by decide +kernel, rfl, yall_ok yT_Shelves (by decide +kernel)⟩
set_option maxRecDepth 100000 in
set_option maxHeartbeats 4000000 in
theorem ymo_World : ymok yMs yI_World := ⟨by decide +kernel, ⟨by decide +kernel, by decide +kernel⟩, zwd_ok (a := 1) (b := 31) (by decide +kernel), zwd_ok (a := 1) (b := 3) (by decide +kernel), by decide +kernel, zwd_ok (a := 1) (b := 30) (by decide +kernel), rfl, by decide +kernel, rfl, yall_ok yT_World (by decide +kernel)⟩
set_option maxRecDepth 100000 in
set_option maxHeartbeats 4000000 in
theorem ymo_ProtoOrders : ymok yMs yI_ProtoOrders := ⟨by decide +kernel, ⟨by decide +kernel, by decide +kernel⟩, zwd_ok (a := 1) (b := 17) (by decide +kernel), zwd_ok (a := 1) (b := 1) (by decide +kernel), by decide +kernel, zwd_ok (a := 1) (b := 16) (by decide +kernel), rfl, by decide +kernel, rfl, yall_ok yT_ProtoOrders (by decide +kernel)⟩
set_option maxRecDepth 100000 in
set_option maxHeartbeats 4000000 in
theorem ymo_ProtoOrdersModel : ymok yMs yI_ProtoOrdersModel := ⟨by decide +kernel, ⟨by decide +kernel, by decide +kernel⟩, zwd_ok (a := 4) (b := 128) (by decide +kernel), zwd_ok (a := 1) (b := 9) (by decide +kernel), by decide +kernel, zwd_ok (a := 4) (b := 127) (by decide +kernel), rfl, by decide +kernel, rfl, yall_ok yT_ProtoOrdersModel (by decide +kernel)⟩
theorem yMs_all : ∀ y ∈ yMs, ymok yMs y := List.forall_mem_cons.mpr ⟨ymo_Applying, List.forall_mem_cons.mpr ⟨ymo_Merge, List.forall_mem_cons.mpr ⟨ymo_Reader, List.forall_mem_cons.mpr ⟨ymo_Runner, List.forall_mem_cons.mpr ⟨ymo_Shelves, List.forall_mem_cons.mpr ⟨ymo_World, List.forall_mem_cons.mpr ⟨ymo_ProtoOrders, List.forall_mem_cons.mpr ⟨ymo_ProtoOrdersModel, fun _ h => absurd h List.not_mem_nil⟩⟩⟩⟩⟩⟩⟩⟩
theorem yMs_ok (mm : Nat) (y : zMeth) (h : yMs[mm]? = some y) : ymok yMs y := yMs_all y (List.mem_of_getElem? h)
end
