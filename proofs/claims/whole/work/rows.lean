section
-- ===== PART A: goes FIRST, ahead of the names: the tables' words, and 'selects' of the private methods out of them =====
/-- a private method of a class that the tables say can be made, by its rows of tables_1 -/
def lw_okq (q : MethodName × Nat) : Prop := (q.1.cls ≠ "java/lang/invoke/MethodHandle" ∧ q.1.cls ≠ "java/lang/invoke/VarHandle") ∧ Cond.instantiable q.1.cls q.2 ∈ tables_1 ∧ Cond.privateMethod q.1 ∈ tables_1 ∧ Cond.instanceMethod q.1 ∈ tables_1
theorem lw_p0 : lw_okq (⟨"SidelessTown", "found", "(I)I"⟩, 14) := ⟨⟨by decide +kernel, by decide +kernel⟩, List.mem_of_getElem? (i := 20) (by decide +kernel), List.mem_of_getElem? (i := 357) (by decide +kernel), List.mem_of_getElem? (i := 358) (by decide +kernel)⟩
theorem lw_p1 : lw_okq (⟨"SidelessTown", "fine", "(I)I"⟩, 14) := ⟨⟨by decide +kernel, by decide +kernel⟩, List.mem_of_getElem? (i := 20) (by decide +kernel), List.mem_of_getElem? (i := 369) (by decide +kernel), List.mem_of_getElem? (i := 370) (by decide +kernel)⟩
theorem lw_p2 : lw_okq (⟨"SidelessTown$Rows", "beyond", "(III)Z"⟩, 3) := ⟨⟨by decide +kernel, by decide +kernel⟩, List.mem_of_getElem? (i := 28) (by decide +kernel), List.mem_of_getElem? (i := 389) (by decide +kernel), List.mem_of_getElem? (i := 390) (by decide +kernel)⟩
theorem lw_p3 : lw_okq (⟨"SidelessTown$Text", "cut", "()V"⟩, 10) := ⟨⟨by decide +kernel, by decide +kernel⟩, List.mem_of_getElem? (i := 48) (by decide +kernel), List.mem_of_getElem? (i := 457) (by decide +kernel), List.mem_of_getElem? (i := 458) (by decide +kernel)⟩
theorem lw_p4 : lw_okq (⟨"SidelessTown$Text", "behindRun", "(II)I"⟩, 10) := ⟨⟨by decide +kernel, by decide +kernel⟩, List.mem_of_getElem? (i := 48) (by decide +kernel), List.mem_of_getElem? (i := 465) (by decide +kernel), List.mem_of_getElem? (i := 466) (by decide +kernel)⟩
theorem lw_p5 : lw_okq (⟨"SidelessTown$Text", "note", "(III)V"⟩, 10) := ⟨⟨by decide +kernel, by decide +kernel⟩, List.mem_of_getElem? (i := 48) (by decide +kernel), List.mem_of_getElem? (i := 469) (by decide +kernel), List.mem_of_getElem? (i := 470) (by decide +kernel)⟩
theorem lw_p6 : lw_okq (⟨"SidelessTown$Text", "nameOf", "(II)I"⟩, 10) := ⟨⟨by decide +kernel, by decide +kernel⟩, List.mem_of_getElem? (i := 48) (by decide +kernel), List.mem_of_getElem? (i := 473) (by decide +kernel), List.mem_of_getElem? (i := 474) (by decide +kernel)⟩
theorem lw_p7 : lw_okq (⟨"SidelessTown$Text", "isSpelt", "(Ljava/lang/String;II)Z"⟩, 10) := ⟨⟨by decide +kernel, by decide +kernel⟩, List.mem_of_getElem? (i := 48) (by decide +kernel), List.mem_of_getElem? (i := 492) (by decide +kernel), List.mem_of_getElem? (i := 493) (by decide +kernel)⟩
theorem lw_p8 : lw_okq (⟨"SidelessTown$Text", "numberOf", "(II)I"⟩, 10) := ⟨⟨by decide +kernel, by decide +kernel⟩, List.mem_of_getElem? (i := 48) (by decide +kernel), List.mem_of_getElem? (i := 544) (by decide +kernel), List.mem_of_getElem? (i := 545) (by decide +kernel)⟩
theorem lw_p9 : lw_okq (⟨"SidelessTown$Text", "readCorners", "(LSidelessTown$Town;)Z"⟩, 10) := ⟨⟨by decide +kernel, by decide +kernel⟩, List.mem_of_getElem? (i := 48) (by decide +kernel), List.mem_of_getElem? (i := 548) (by decide +kernel), List.mem_of_getElem? (i := 549) (by decide +kernel)⟩
theorem lw_p10 : lw_okq (⟨"SidelessTown$Text", "isName", "(I)Z"⟩, 10) := ⟨⟨by decide +kernel, by decide +kernel⟩, List.mem_of_getElem? (i := 48) (by decide +kernel), List.mem_of_getElem? (i := 552) (by decide +kernel), List.mem_of_getElem? (i := 553) (by decide +kernel)⟩
theorem lw_p11 : lw_okq (⟨"SidelessTown$Text", "sort", "()I"⟩, 10) := ⟨⟨by decide +kernel, by decide +kernel⟩, List.mem_of_getElem? (i := 48) (by decide +kernel), List.mem_of_getElem? (i := 556) (by decide +kernel), List.mem_of_getElem? (i := 557) (by decide +kernel)⟩
theorem lw_p12 : lw_okq (⟨"SidelessTown$Text", "value", "()I"⟩, 10) := ⟨⟨by decide +kernel, by decide +kernel⟩, List.mem_of_getElem? (i := 48) (by decide +kernel), List.mem_of_getElem? (i := 560) (by decide +kernel), List.mem_of_getElem? (i := 561) (by decide +kernel)⟩
theorem lw_p13 : lw_okq (⟨"SidelessTown$Text", "fail", "(I)Z"⟩, 10) := ⟨⟨by decide +kernel, by decide +kernel⟩, List.mem_of_getElem? (i := 48) (by decide +kernel), List.mem_of_getElem? (i := 564) (by decide +kernel), List.mem_of_getElem? (i := 565) (by decide +kernel)⟩
theorem lw_p14 : lw_okq (⟨"SidelessTown$Text", "readCorner", "(LSidelessTown$Town;)Z"⟩, 10) := ⟨⟨by decide +kernel, by decide +kernel⟩, List.mem_of_getElem? (i := 48) (by decide +kernel), List.mem_of_getElem? (i := 568) (by decide +kernel), List.mem_of_getElem? (i := 569) (by decide +kernel)⟩
theorem lw_p15 : lw_okq (⟨"SidelessTown$Text", "readNumber", "(I)Z"⟩, 10) := ⟨⟨by decide +kernel, by decide +kernel⟩, List.mem_of_getElem? (i := 48) (by decide +kernel), List.mem_of_getElem? (i := 572) (by decide +kernel), List.mem_of_getElem? (i := 573) (by decide +kernel)⟩
def lw_privs_1 : List (MethodName × Nat) := [(⟨"SidelessTown", "found", "(I)I"⟩, 14), (⟨"SidelessTown", "fine", "(I)I"⟩, 14), (⟨"SidelessTown$Rows", "beyond", "(III)Z"⟩, 3), (⟨"SidelessTown$Text", "cut", "()V"⟩, 10), (⟨"SidelessTown$Text", "behindRun", "(II)I"⟩, 10), (⟨"SidelessTown$Text", "note", "(III)V"⟩, 10), (⟨"SidelessTown$Text", "nameOf", "(II)I"⟩, 10), (⟨"SidelessTown$Text", "isSpelt", "(Ljava/lang/String;II)Z"⟩, 10), (⟨"SidelessTown$Text", "numberOf", "(II)I"⟩, 10), (⟨"SidelessTown$Text", "readCorners", "(LSidelessTown$Town;)Z"⟩, 10), (⟨"SidelessTown$Text", "isName", "(I)Z"⟩, 10), (⟨"SidelessTown$Text", "sort", "()I"⟩, 10), (⟨"SidelessTown$Text", "value", "()I"⟩, 10), (⟨"SidelessTown$Text", "fail", "(I)Z"⟩, 10), (⟨"SidelessTown$Text", "readCorner", "(LSidelessTown$Town;)Z"⟩, 10), (⟨"SidelessTown$Text", "readNumber", "(I)Z"⟩, 10)]
theorem lw_r1 : ∀ q ∈ lw_privs_1, lw_okq q := List.forall_mem_cons.mpr ⟨lw_p0, List.forall_mem_cons.mpr ⟨lw_p1, List.forall_mem_cons.mpr ⟨lw_p2, List.forall_mem_cons.mpr ⟨lw_p3, List.forall_mem_cons.mpr ⟨lw_p4, List.forall_mem_cons.mpr ⟨lw_p5, List.forall_mem_cons.mpr ⟨lw_p6, List.forall_mem_cons.mpr ⟨lw_p7, List.forall_mem_cons.mpr ⟨lw_p8, List.forall_mem_cons.mpr ⟨lw_p9, List.forall_mem_cons.mpr ⟨lw_p10, List.forall_mem_cons.mpr ⟨lw_p11, List.forall_mem_cons.mpr ⟨lw_p12, List.forall_mem_cons.mpr ⟨lw_p13, List.forall_mem_cons.mpr ⟨lw_p14, List.forall_mem_cons.mpr ⟨lw_p15, fun _ h => absurd h List.not_mem_nil⟩⟩⟩⟩⟩⟩⟩⟩⟩⟩⟩⟩⟩⟩⟩⟩
theorem lw_p16 : lw_okq (⟨"SidelessTown$Text", "readSign", "()Z"⟩, 10) := ⟨⟨by decide +kernel, by decide +kernel⟩, List.mem_of_getElem? (i := 48) (by decide +kernel), List.mem_of_getElem? (i := 581) (by decide +kernel), List.mem_of_getElem? (i := 582) (by decide +kernel)⟩
theorem lw_p17 : lw_okq (⟨"SidelessTown$Text", "readStreets", "(LSidelessTown$Town;)Z"⟩, 10) := ⟨⟨by decide +kernel, by decide +kernel⟩, List.mem_of_getElem? (i := 48) (by decide +kernel), List.mem_of_getElem? (i := 585) (by decide +kernel), List.mem_of_getElem? (i := 586) (by decide +kernel)⟩
theorem lw_p18 : lw_okq (⟨"SidelessTown$Text", "readStreet", "(LSidelessTown$Town;)Z"⟩, 10) := ⟨⟨by decide +kernel, by decide +kernel⟩, List.mem_of_getElem? (i := 48) (by decide +kernel), List.mem_of_getElem? (i := 589) (by decide +kernel), List.mem_of_getElem? (i := 590) (by decide +kernel)⟩
theorem lw_p19 : lw_okq (⟨"SidelessTown$Text", "readStreetEnd", "(LSidelessTown$Town;I)Z"⟩, 10) := ⟨⟨by decide +kernel, by decide +kernel⟩, List.mem_of_getElem? (i := 48) (by decide +kernel), List.mem_of_getElem? (i := 594) (by decide +kernel), List.mem_of_getElem? (i := 595) (by decide +kernel)⟩
theorem lw_p20 : lw_okq (⟨"SidelessTown$Town", "addStreetAt", "(II)V"⟩, 8) := ⟨⟨by decide +kernel, by decide +kernel⟩, List.mem_of_getElem? (i := 85) (by decide +kernel), List.mem_of_getElem? (i := 616) (by decide +kernel), List.mem_of_getElem? (i := 617) (by decide +kernel)⟩
theorem lw_p21 : lw_okq (⟨"SidelessTown$Text", "isWord", "()Z"⟩, 10) := ⟨⟨by decide +kernel, by decide +kernel⟩, List.mem_of_getElem? (i := 48) (by decide +kernel), List.mem_of_getElem? (i := 657) (by decide +kernel), List.mem_of_getElem? (i := 658) (by decide +kernel)⟩
theorem lw_p22 : lw_okq (⟨"SidelessTown$Text", "readWord", "(LSidelessTown$Saying;)Z"⟩, 10) := ⟨⟨by decide +kernel, by decide +kernel⟩, List.mem_of_getElem? (i := 48) (by decide +kernel), List.mem_of_getElem? (i := 662) (by decide +kernel), List.mem_of_getElem? (i := 663) (by decide +kernel)⟩
theorem lw_p23 : lw_okq (⟨"SidelessTown$Walker", "goalOf", "(I)I"⟩, 6) := ⟨⟨by decide +kernel, by decide +kernel⟩, List.mem_of_getElem? (i := 155) (by decide +kernel), List.mem_of_getElem? (i := 767) (by decide +kernel), List.mem_of_getElem? (i := 768) (by decide +kernel)⟩
theorem lw_p24 : lw_okq (⟨"SidelessTown$Goals", "look", "()V"⟩, 8) := ⟨⟨by decide +kernel, by decide +kernel⟩, List.mem_of_getElem? (i := 190) (by decide +kernel), List.mem_of_getElem? (i := 812) (by decide +kernel), List.mem_of_getElem? (i := 813) (by decide +kernel)⟩
theorem lw_p25 : lw_okq (⟨"SidelessTown$Goals", "finerClassOf", "(I)I"⟩, 8) := ⟨⟨by decide +kernel, by decide +kernel⟩, List.mem_of_getElem? (i := 190) (by decide +kernel), List.mem_of_getElem? (i := 821) (by decide +kernel), List.mem_of_getElem? (i := 822) (by decide +kernel)⟩
theorem lw_p26 : lw_okq (⟨"SidelessTown$Goals", "alikeSoFar", "(II)Z"⟩, 8) := ⟨⟨by decide +kernel, by decide +kernel⟩, List.mem_of_getElem? (i := 190) (by decide +kernel), List.mem_of_getElem? (i := 825) (by decide +kernel), List.mem_of_getElem? (i := 826) (by decide +kernel)⟩
theorem lw_p27 : lw_okq (⟨"SidelessTown$Goals", "goalOf", "(II)I"⟩, 8) := ⟨⟨by decide +kernel, by decide +kernel⟩, List.mem_of_getElem? (i := 190) (by decide +kernel), List.mem_of_getElem? (i := 835) (by decide +kernel), List.mem_of_getElem? (i := 836) (by decide +kernel)⟩
theorem lw_p28 : lw_okq (⟨"SidelessTown$Search", "note", "(III)V"⟩, 8) := ⟨⟨by decide +kernel, by decide +kernel⟩, List.mem_of_getElem? (i := 221) (by decide +kernel), List.mem_of_getElem? (i := 856) (by decide +kernel), List.mem_of_getElem? (i := 857) (by decide +kernel)⟩
theorem lw_p29 : lw_okq (⟨"SidelessTown$Search", "standAt", "(I)V"⟩, 8) := ⟨⟨by decide +kernel, by decide +kernel⟩, List.mem_of_getElem? (i := 221) (by decide +kernel), List.mem_of_getElem? (i := 871) (by decide +kernel), List.mem_of_getElem? (i := 872) (by decide +kernel)⟩
theorem lw_p30 : lw_okq (⟨"SidelessTown$Search", "better", "(II)Z"⟩, 8) := ⟨⟨by decide +kernel, by decide +kernel⟩, List.mem_of_getElem? (i := 221) (by decide +kernel), List.mem_of_getElem? (i := 906) (by decide +kernel), List.mem_of_getElem? (i := 907) (by decide +kernel)⟩
theorem lw_p31 : lw_okq (⟨"SidelessTown$Layings", "canLay", "(IIII)Z"⟩, 5) := ⟨⟨by decide +kernel, by decide +kernel⟩, List.mem_of_getElem? (i := 254) (by decide +kernel), List.mem_of_getElem? (i := 922) (by decide +kernel), List.mem_of_getElem? (i := 923) (by decide +kernel)⟩
def lw_privs_2 : List (MethodName × Nat) := [(⟨"SidelessTown$Text", "readSign", "()Z"⟩, 10), (⟨"SidelessTown$Text", "readStreets", "(LSidelessTown$Town;)Z"⟩, 10), (⟨"SidelessTown$Text", "readStreet", "(LSidelessTown$Town;)Z"⟩, 10), (⟨"SidelessTown$Text", "readStreetEnd", "(LSidelessTown$Town;I)Z"⟩, 10), (⟨"SidelessTown$Town", "addStreetAt", "(II)V"⟩, 8), (⟨"SidelessTown$Text", "isWord", "()Z"⟩, 10), (⟨"SidelessTown$Text", "readWord", "(LSidelessTown$Saying;)Z"⟩, 10), (⟨"SidelessTown$Walker", "goalOf", "(I)I"⟩, 6), (⟨"SidelessTown$Goals", "look", "()V"⟩, 8), (⟨"SidelessTown$Goals", "finerClassOf", "(I)I"⟩, 8), (⟨"SidelessTown$Goals", "alikeSoFar", "(II)Z"⟩, 8), (⟨"SidelessTown$Goals", "goalOf", "(II)I"⟩, 8), (⟨"SidelessTown$Search", "note", "(III)V"⟩, 8), (⟨"SidelessTown$Search", "standAt", "(I)V"⟩, 8), (⟨"SidelessTown$Search", "better", "(II)Z"⟩, 8), (⟨"SidelessTown$Layings", "canLay", "(IIII)Z"⟩, 5)]
theorem lw_r2 : ∀ q ∈ lw_privs_2, lw_okq q := List.forall_mem_cons.mpr ⟨lw_p16, List.forall_mem_cons.mpr ⟨lw_p17, List.forall_mem_cons.mpr ⟨lw_p18, List.forall_mem_cons.mpr ⟨lw_p19, List.forall_mem_cons.mpr ⟨lw_p20, List.forall_mem_cons.mpr ⟨lw_p21, List.forall_mem_cons.mpr ⟨lw_p22, List.forall_mem_cons.mpr ⟨lw_p23, List.forall_mem_cons.mpr ⟨lw_p24, List.forall_mem_cons.mpr ⟨lw_p25, List.forall_mem_cons.mpr ⟨lw_p26, List.forall_mem_cons.mpr ⟨lw_p27, List.forall_mem_cons.mpr ⟨lw_p28, List.forall_mem_cons.mpr ⟨lw_p29, List.forall_mem_cons.mpr ⟨lw_p30, List.forall_mem_cons.mpr ⟨lw_p31, fun _ h => absurd h List.not_mem_nil⟩⟩⟩⟩⟩⟩⟩⟩⟩⟩⟩⟩⟩⟩⟩⟩
theorem lw_p32 : lw_okq (⟨"SidelessTown$Layings", "fits", "(II)Z"⟩, 5) := ⟨⟨by decide +kernel, by decide +kernel⟩, List.mem_of_getElem? (i := 254) (by decide +kernel), List.mem_of_getElem? (i := 926) (by decide +kernel), List.mem_of_getElem? (i := 927) (by decide +kernel)⟩
theorem lw_p33 : lw_okq (⟨"SidelessTown$Layings", "ordersAgree", "(I)Z"⟩, 5) := ⟨⟨by decide +kernel, by decide +kernel⟩, List.mem_of_getElem? (i := 254) (by decide +kernel), List.mem_of_getElem? (i := 937) (by decide +kernel), List.mem_of_getElem? (i := 938) (by decide +kernel)⟩
theorem lw_p34 : lw_okq (⟨"SidelessTown$Layings", "canLayRest", "(II)Z"⟩, 5) := ⟨⟨by decide +kernel, by decide +kernel⟩, List.mem_of_getElem? (i := 254) (by decide +kernel), List.mem_of_getElem? (i := 943) (by decide +kernel), List.mem_of_getElem? (i := 944) (by decide +kernel)⟩
theorem lw_p35 : lw_okq (⟨"SidelessTown$Layings", "nextToLay", "()I"⟩, 5) := ⟨⟨by decide +kernel, by decide +kernel⟩, List.mem_of_getElem? (i := 254) (by decide +kernel), List.mem_of_getElem? (i := 947) (by decide +kernel), List.mem_of_getElem? (i := 948) (by decide +kernel)⟩
theorem lw_p36 : lw_okq (⟨"SidelessTown$Goals", "notePair", "(III)V"⟩, 8) := ⟨⟨by decide +kernel, by decide +kernel⟩, List.mem_of_getElem? (i := 190) (by decide +kernel), List.mem_of_getElem? (i := 991) (by decide +kernel), List.mem_of_getElem? (i := 992) (by decide +kernel)⟩
theorem lw_p37 : lw_okq (⟨"SidelessTown$Goals", "stepOf", "(III)Z"⟩, 8) := ⟨⟨by decide +kernel, by decide +kernel⟩, List.mem_of_getElem? (i := 190) (by decide +kernel), List.mem_of_getElem? (i := 995) (by decide +kernel), List.mem_of_getElem? (i := 996) (by decide +kernel)⟩
theorem lw_p38 : lw_okq (⟨"SidelessTown", "keptBy", "(I)LSidelessTown$Kept;"⟩, 14) := ⟨⟨by decide +kernel, by decide +kernel⟩, List.mem_of_getElem? (i := 20) (by decide +kernel), List.mem_of_getElem? (i := 1016) (by decide +kernel), List.mem_of_getElem? (i := 1017) (by decide +kernel)⟩
theorem lw_p39 : lw_okq (⟨"SidelessTown$Asks", "body11", "()I"⟩, 6) := ⟨⟨by decide +kernel, by decide +kernel⟩, List.mem_of_getElem? (i := 276) (by decide +kernel), List.mem_of_getElem? (i := 1071) (by decide +kernel), List.mem_of_getElem? (i := 1072) (by decide +kernel)⟩
theorem lw_p40 : lw_okq (⟨"SidelessTown$Asks", "leave", "(I)V"⟩, 6) := ⟨⟨by decide +kernel, by decide +kernel⟩, List.mem_of_getElem? (i := 276) (by decide +kernel), List.mem_of_getElem? (i := 1075) (by decide +kernel), List.mem_of_getElem? (i := 1076) (by decide +kernel)⟩
theorem lw_p41 : lw_okq (⟨"SidelessTown$Asks", "body10", "()I"⟩, 6) := ⟨⟨by decide +kernel, by decide +kernel⟩, List.mem_of_getElem? (i := 276) (by decide +kernel), List.mem_of_getElem? (i := 1079) (by decide +kernel), List.mem_of_getElem? (i := 1080) (by decide +kernel)⟩
theorem lw_p42 : lw_okq (⟨"SidelessTown$Asks", "body20", "()I"⟩, 6) := ⟨⟨by decide +kernel, by decide +kernel⟩, List.mem_of_getElem? (i := 276) (by decide +kernel), List.mem_of_getElem? (i := 1083) (by decide +kernel), List.mem_of_getElem? (i := 1084) (by decide +kernel)⟩
theorem lw_p43 : lw_okq (⟨"SidelessTown$Asks", "body12", "()I"⟩, 6) := ⟨⟨by decide +kernel, by decide +kernel⟩, List.mem_of_getElem? (i := 276) (by decide +kernel), List.mem_of_getElem? (i := 1087) (by decide +kernel), List.mem_of_getElem? (i := 1088) (by decide +kernel)⟩
theorem lw_p44 : lw_okq (⟨"SidelessTown$Asks", "body22", "()I"⟩, 6) := ⟨⟨by decide +kernel, by decide +kernel⟩, List.mem_of_getElem? (i := 276) (by decide +kernel), List.mem_of_getElem? (i := 1091) (by decide +kernel), List.mem_of_getElem? (i := 1092) (by decide +kernel)⟩
theorem lw_p45 : lw_okq (⟨"SidelessTown$Asks", "body13", "()I"⟩, 6) := ⟨⟨by decide +kernel, by decide +kernel⟩, List.mem_of_getElem? (i := 276) (by decide +kernel), List.mem_of_getElem? (i := 1095) (by decide +kernel), List.mem_of_getElem? (i := 1096) (by decide +kernel)⟩
theorem lw_p46 : lw_okq (⟨"SidelessTown$Asks", "body14", "()I"⟩, 6) := ⟨⟨by decide +kernel, by decide +kernel⟩, List.mem_of_getElem? (i := 276) (by decide +kernel), List.mem_of_getElem? (i := 1099) (by decide +kernel), List.mem_of_getElem? (i := 1100) (by decide +kernel)⟩
theorem lw_p47 : lw_okq (⟨"SidelessTown$Asks", "body21", "()I"⟩, 6) := ⟨⟨by decide +kernel, by decide +kernel⟩, List.mem_of_getElem? (i := 276) (by decide +kernel), List.mem_of_getElem? (i := 1107) (by decide +kernel), List.mem_of_getElem? (i := 1108) (by decide +kernel)⟩
def lw_privs_3 : List (MethodName × Nat) := [(⟨"SidelessTown$Layings", "fits", "(II)Z"⟩, 5), (⟨"SidelessTown$Layings", "ordersAgree", "(I)Z"⟩, 5), (⟨"SidelessTown$Layings", "canLayRest", "(II)Z"⟩, 5), (⟨"SidelessTown$Layings", "nextToLay", "()I"⟩, 5), (⟨"SidelessTown$Goals", "notePair", "(III)V"⟩, 8), (⟨"SidelessTown$Goals", "stepOf", "(III)Z"⟩, 8), (⟨"SidelessTown", "keptBy", "(I)LSidelessTown$Kept;"⟩, 14), (⟨"SidelessTown$Asks", "body11", "()I"⟩, 6), (⟨"SidelessTown$Asks", "leave", "(I)V"⟩, 6), (⟨"SidelessTown$Asks", "body10", "()I"⟩, 6), (⟨"SidelessTown$Asks", "body20", "()I"⟩, 6), (⟨"SidelessTown$Asks", "body12", "()I"⟩, 6), (⟨"SidelessTown$Asks", "body22", "()I"⟩, 6), (⟨"SidelessTown$Asks", "body13", "()I"⟩, 6), (⟨"SidelessTown$Asks", "body14", "()I"⟩, 6), (⟨"SidelessTown$Asks", "body21", "()I"⟩, 6)]
theorem lw_r3 : ∀ q ∈ lw_privs_3, lw_okq q := List.forall_mem_cons.mpr ⟨lw_p32, List.forall_mem_cons.mpr ⟨lw_p33, List.forall_mem_cons.mpr ⟨lw_p34, List.forall_mem_cons.mpr ⟨lw_p35, List.forall_mem_cons.mpr ⟨lw_p36, List.forall_mem_cons.mpr ⟨lw_p37, List.forall_mem_cons.mpr ⟨lw_p38, List.forall_mem_cons.mpr ⟨lw_p39, List.forall_mem_cons.mpr ⟨lw_p40, List.forall_mem_cons.mpr ⟨lw_p41, List.forall_mem_cons.mpr ⟨lw_p42, List.forall_mem_cons.mpr ⟨lw_p43, List.forall_mem_cons.mpr ⟨lw_p44, List.forall_mem_cons.mpr ⟨lw_p45, List.forall_mem_cons.mpr ⟨lw_p46, List.forall_mem_cons.mpr ⟨lw_p47, fun _ h => absurd h List.not_mem_nil⟩⟩⟩⟩⟩⟩⟩⟩⟩⟩⟩⟩⟩⟩⟩⟩
theorem lw_p48 : lw_okq (⟨"SidelessTown$Asks", "body23", "()I"⟩, 6) := ⟨⟨by decide +kernel, by decide +kernel⟩, List.mem_of_getElem? (i := 276) (by decide +kernel), List.mem_of_getElem? (i := 1111) (by decide +kernel), List.mem_of_getElem? (i := 1112) (by decide +kernel)⟩
theorem lw_p49 : lw_okq (⟨"SidelessTownModel", "finding", "(I)I"⟩, 41) := ⟨⟨by decide +kernel, by decide +kernel⟩, List.mem_of_getElem? (i := 1147) (by decide +kernel), List.mem_of_getElem? (i := 1291) (by decide +kernel), List.mem_of_getElem? (i := 1292) (by decide +kernel)⟩
theorem lw_p50 : lw_okq (⟨"SidelessTownModel", "begin", "()V"⟩, 41) := ⟨⟨by decide +kernel, by decide +kernel⟩, List.mem_of_getElem? (i := 1147) (by decide +kernel), List.mem_of_getElem? (i := 1319) (by decide +kernel), List.mem_of_getElem? (i := 1320) (by decide +kernel)⟩
theorem lw_p51 : lw_okq (⟨"SidelessTownModel", "next", "()V"⟩, 41) := ⟨⟨by decide +kernel, by decide +kernel⟩, List.mem_of_getElem? (i := 1147) (by decide +kernel), List.mem_of_getElem? (i := 1323) (by decide +kernel), List.mem_of_getElem? (i := 1324) (by decide +kernel)⟩
theorem lw_p52 : lw_okq (⟨"SidelessTownModel", "byteAt", "(I)I"⟩, 41) := ⟨⟨by decide +kernel, by decide +kernel⟩, List.mem_of_getElem? (i := 1147) (by decide +kernel), List.mem_of_getElem? (i := 1327) (by decide +kernel), List.mem_of_getElem? (i := 1328) (by decide +kernel)⟩
theorem lw_p53 : lw_okq (⟨"SidelessTownModel", "name", "()J"⟩, 41) := ⟨⟨by decide +kernel, by decide +kernel⟩, List.mem_of_getElem? (i := 1147) (by decide +kernel), List.mem_of_getElem? (i := 1338) (by decide +kernel), List.mem_of_getElem? (i := 1339) (by decide +kernel)⟩
theorem lw_p54 : lw_okq (⟨"SidelessTownModel", "bad", "(I)V"⟩, 41) := ⟨⟨by decide +kernel, by decide +kernel⟩, List.mem_of_getElem? (i := 1147) (by decide +kernel), List.mem_of_getElem? (i := 1343) (by decide +kernel), List.mem_of_getElem? (i := 1344) (by decide +kernel)⟩
theorem lw_p55 : lw_okq (⟨"SidelessTownModel", "readCorner", "()V"⟩, 41) := ⟨⟨by decide +kernel, by decide +kernel⟩, List.mem_of_getElem? (i := 1147) (by decide +kernel), List.mem_of_getElem? (i := 1347) (by decide +kernel), List.mem_of_getElem? (i := 1348) (by decide +kernel)⟩
theorem lw_p56 : lw_okq (⟨"SidelessTownModel", "begins", "(II)V"⟩, 41) := ⟨⟨by decide +kernel, by decide +kernel⟩, List.mem_of_getElem? (i := 1147) (by decide +kernel), List.mem_of_getElem? (i := 1351) (by decide +kernel), List.mem_of_getElem? (i := 1352) (by decide +kernel)⟩
theorem lw_p57 : lw_okq (⟨"SidelessTownModel", "must", "(Z)V"⟩, 41) := ⟨⟨by decide +kernel, by decide +kernel⟩, List.mem_of_getElem? (i := 1147) (by decide +kernel), List.mem_of_getElem? (i := 1355) (by decide +kernel), List.mem_of_getElem? (i := 1356) (by decide +kernel)⟩
theorem lw_p58 : lw_okq (⟨"SidelessTownModel", "number", "(II)I"⟩, 41) := ⟨⟨by decide +kernel, by decide +kernel⟩, List.mem_of_getElem? (i := 1147) (by decide +kernel), List.mem_of_getElem? (i := 1359) (by decide +kernel), List.mem_of_getElem? (i := 1360) (by decide +kernel)⟩
theorem lw_p59 : lw_okq (⟨"SidelessTownModel", "figures", "()I"⟩, 41) := ⟨⟨by decide +kernel, by decide +kernel⟩, List.mem_of_getElem? (i := 1147) (by decide +kernel), List.mem_of_getElem? (i := 1363) (by decide +kernel), List.mem_of_getElem? (i := 1364) (by decide +kernel)⟩
theorem lw_p60 : lw_okq (⟨"SidelessTownModel", "mustEnd", "()V"⟩, 41) := ⟨⟨by decide +kernel, by decide +kernel⟩, List.mem_of_getElem? (i := 1147) (by decide +kernel), List.mem_of_getElem? (i := 1368) (by decide +kernel), List.mem_of_getElem? (i := 1369) (by decide +kernel)⟩
theorem lw_p61 : lw_okq (⟨"SidelessTownModel", "readStreet", "()V"⟩, 41) := ⟨⟨by decide +kernel, by decide +kernel⟩, List.mem_of_getElem? (i := 1147) (by decide +kernel), List.mem_of_getElem? (i := 1373) (by decide +kernel), List.mem_of_getElem? (i := 1374) (by decide +kernel)⟩
theorem lw_p62 : lw_okq (⟨"SidelessTownModel", "end", "(I)I"⟩, 41) := ⟨⟨by decide +kernel, by decide +kernel⟩, List.mem_of_getElem? (i := 1147) (by decide +kernel), List.mem_of_getElem? (i := 1377) (by decide +kernel), List.mem_of_getElem? (i := 1378) (by decide +kernel)⟩
theorem lw_p63 : lw_okq (⟨"SidelessTownModel", "isJoined", "(II)Z"⟩, 41) := ⟨⟨by decide +kernel, by decide +kernel⟩, List.mem_of_getElem? (i := 1147) (by decide +kernel), List.mem_of_getElem? (i := 1381) (by decide +kernel), List.mem_of_getElem? (i := 1382) (by decide +kernel)⟩
def lw_privs_4 : List (MethodName × Nat) := [(⟨"SidelessTown$Asks", "body23", "()I"⟩, 6), (⟨"SidelessTownModel", "finding", "(I)I"⟩, 41), (⟨"SidelessTownModel", "begin", "()V"⟩, 41), (⟨"SidelessTownModel", "next", "()V"⟩, 41), (⟨"SidelessTownModel", "byteAt", "(I)I"⟩, 41), (⟨"SidelessTownModel", "name", "()J"⟩, 41), (⟨"SidelessTownModel", "bad", "(I)V"⟩, 41), (⟨"SidelessTownModel", "readCorner", "()V"⟩, 41), (⟨"SidelessTownModel", "begins", "(II)V"⟩, 41), (⟨"SidelessTownModel", "must", "(Z)V"⟩, 41), (⟨"SidelessTownModel", "number", "(II)I"⟩, 41), (⟨"SidelessTownModel", "figures", "()I"⟩, 41), (⟨"SidelessTownModel", "mustEnd", "()V"⟩, 41), (⟨"SidelessTownModel", "readStreet", "()V"⟩, 41), (⟨"SidelessTownModel", "end", "(I)I"⟩, 41), (⟨"SidelessTownModel", "isJoined", "(II)Z"⟩, 41)]
theorem lw_r4 : ∀ q ∈ lw_privs_4, lw_okq q := List.forall_mem_cons.mpr ⟨lw_p48, List.forall_mem_cons.mpr ⟨lw_p49, List.forall_mem_cons.mpr ⟨lw_p50, List.forall_mem_cons.mpr ⟨lw_p51, List.forall_mem_cons.mpr ⟨lw_p52, List.forall_mem_cons.mpr ⟨lw_p53, List.forall_mem_cons.mpr ⟨lw_p54, List.forall_mem_cons.mpr ⟨lw_p55, List.forall_mem_cons.mpr ⟨lw_p56, List.forall_mem_cons.mpr ⟨lw_p57, List.forall_mem_cons.mpr ⟨lw_p58, List.forall_mem_cons.mpr ⟨lw_p59, List.forall_mem_cons.mpr ⟨lw_p60, List.forall_mem_cons.mpr ⟨lw_p61, List.forall_mem_cons.mpr ⟨lw_p62, List.forall_mem_cons.mpr ⟨lw_p63, fun _ h => absurd h List.not_mem_nil⟩⟩⟩⟩⟩⟩⟩⟩⟩⟩⟩⟩⟩⟩⟩⟩
theorem lw_p64 : lw_okq (⟨"SidelessTownModel", "ends", "(I)I"⟩, 41) := ⟨⟨by decide +kernel, by decide +kernel⟩, List.mem_of_getElem? (i := 1147) (by decide +kernel), List.mem_of_getElem? (i := 1385) (by decide +kernel), List.mem_of_getElem? (i := 1386) (by decide +kernel)⟩
theorem lw_p65 : lw_okq (⟨"SidelessTownModel", "isCorner", "(I)Z"⟩, 41) := ⟨⟨by decide +kernel, by decide +kernel⟩, List.mem_of_getElem? (i := 1147) (by decide +kernel), List.mem_of_getElem? (i := 1423) (by decide +kernel), List.mem_of_getElem? (i := 1424) (by decide +kernel)⟩
theorem lw_p66 : lw_okq (⟨"SidelessTownModel", "walks", "(IZZI)I"⟩, 41) := ⟨⟨by decide +kernel, by decide +kernel⟩, List.mem_of_getElem? (i := 1147) (by decide +kernel), List.mem_of_getElem? (i := 1443) (by decide +kernel), List.mem_of_getElem? (i := 1444) (by decide +kernel)⟩
theorem lw_p67 : lw_okq (⟨"SidelessTownModel", "starts", "(I)V"⟩, 41) := ⟨⟨by decide +kernel, by decide +kernel⟩, List.mem_of_getElem? (i := 1147) (by decide +kernel), List.mem_of_getElem? (i := 1447) (by decide +kernel), List.mem_of_getElem? (i := 1448) (by decide +kernel)⟩
theorem lw_p68 : lw_okq (⟨"SidelessTownModel", "goes", "(IZZ)Z"⟩, 41) := ⟨⟨by decide +kernel, by decide +kernel⟩, List.mem_of_getElem? (i := 1147) (by decide +kernel), List.mem_of_getElem? (i := 1451) (by decide +kernel), List.mem_of_getElem? (i := 1452) (by decide +kernel)⟩
theorem lw_p69 : lw_okq (⟨"SidelessTownModel", "streetBy", "(IZZ)I"⟩, 41) := ⟨⟨by decide +kernel, by decide +kernel⟩, List.mem_of_getElem? (i := 1147) (by decide +kernel), List.mem_of_getElem? (i := 1455) (by decide +kernel), List.mem_of_getElem? (i := 1456) (by decide +kernel)⟩
theorem lw_p70 : lw_okq (⟨"SidelessTownModel", "marked", "(II)I"⟩, 41) := ⟨⟨by decide +kernel, by decide +kernel⟩, List.mem_of_getElem? (i := 1147) (by decide +kernel), List.mem_of_getElem? (i := 1459) (by decide +kernel), List.mem_of_getElem? (i := 1460) (by decide +kernel)⟩
theorem lw_p71 : lw_okq (⟨"SidelessTownModel", "slope", "(IZ)I"⟩, 41) := ⟨⟨by decide +kernel, by decide +kernel⟩, List.mem_of_getElem? (i := 1147) (by decide +kernel), List.mem_of_getElem? (i := 1463) (by decide +kernel), List.mem_of_getElem? (i := 1464) (by decide +kernel)⟩
theorem lw_p72 : lw_okq (⟨"SidelessTownModel", "besides", "(I)I"⟩, 41) := ⟨⟨by decide +kernel, by decide +kernel⟩, List.mem_of_getElem? (i := 1147) (by decide +kernel), List.mem_of_getElem? (i := 1467) (by decide +kernel), List.mem_of_getElem? (i := 1468) (by decide +kernel)⟩
theorem lw_p73 : lw_okq (⟨"SidelessTownModel", "startTwo", "(II)V"⟩, 41) := ⟨⟨by decide +kernel, by decide +kernel⟩, List.mem_of_getElem? (i := 1147) (by decide +kernel), List.mem_of_getElem? (i := 1475) (by decide +kernel), List.mem_of_getElem? (i := 1476) (by decide +kernel)⟩
theorem lw_p74 : lw_okq (⟨"SidelessTownModel", "change", "()V"⟩, 41) := ⟨⟨by decide +kernel, by decide +kernel⟩, List.mem_of_getElem? (i := 1147) (by decide +kernel), List.mem_of_getElem? (i := 1479) (by decide +kernel), List.mem_of_getElem? (i := 1480) (by decide +kernel)⟩
theorem lw_p75 : lw_okq (⟨"SidelessTownModel", "splits", "()I"⟩, 41) := ⟨⟨by decide +kernel, by decide +kernel⟩, List.mem_of_getElem? (i := 1147) (by decide +kernel), List.mem_of_getElem? (i := 1487) (by decide +kernel), List.mem_of_getElem? (i := 1488) (by decide +kernel)⟩
theorem lw_p76 : lw_okq (⟨"SidelessTownModel", "areAlike", "(II)Z"⟩, 41) := ⟨⟨by decide +kernel, by decide +kernel⟩, List.mem_of_getElem? (i := 1147) (by decide +kernel), List.mem_of_getElem? (i := 1491) (by decide +kernel), List.mem_of_getElem? (i := 1492) (by decide +kernel)⟩
theorem lw_p77 : lw_okq (⟨"SidelessTownModel", "classBy", "(II)I"⟩, 41) := ⟨⟨by decide +kernel, by decide +kernel⟩, List.mem_of_getElem? (i := 1147) (by decide +kernel), List.mem_of_getElem? (i := 1498) (by decide +kernel), List.mem_of_getElem? (i := 1499) (by decide +kernel)⟩
theorem lw_p78 : lw_okq (⟨"SidelessTownModel", "seek", "(IZ)V"⟩, 41) := ⟨⟨by decide +kernel, by decide +kernel⟩, List.mem_of_getElem? (i := 1147) (by decide +kernel), List.mem_of_getElem? (i := 1506) (by decide +kernel), List.mem_of_getElem? (i := 1507) (by decide +kernel)⟩
theorem lw_p79 : lw_okq (⟨"SidelessTownModel", "reach", "(II)V"⟩, 41) := ⟨⟨by decide +kernel, by decide +kernel⟩, List.mem_of_getElem? (i := 1147) (by decide +kernel), List.mem_of_getElem? (i := 1510) (by decide +kernel), List.mem_of_getElem? (i := 1511) (by decide +kernel)⟩
def lw_privs_5 : List (MethodName × Nat) := [(⟨"SidelessTownModel", "ends", "(I)I"⟩, 41), (⟨"SidelessTownModel", "isCorner", "(I)Z"⟩, 41), (⟨"SidelessTownModel", "walks", "(IZZI)I"⟩, 41), (⟨"SidelessTownModel", "starts", "(I)V"⟩, 41), (⟨"SidelessTownModel", "goes", "(IZZ)Z"⟩, 41), (⟨"SidelessTownModel", "streetBy", "(IZZ)I"⟩, 41), (⟨"SidelessTownModel", "marked", "(II)I"⟩, 41), (⟨"SidelessTownModel", "slope", "(IZ)I"⟩, 41), (⟨"SidelessTownModel", "besides", "(I)I"⟩, 41), (⟨"SidelessTownModel", "startTwo", "(II)V"⟩, 41), (⟨"SidelessTownModel", "change", "()V"⟩, 41), (⟨"SidelessTownModel", "splits", "()I"⟩, 41), (⟨"SidelessTownModel", "areAlike", "(II)Z"⟩, 41), (⟨"SidelessTownModel", "classBy", "(II)I"⟩, 41), (⟨"SidelessTownModel", "seek", "(IZ)V"⟩, 41), (⟨"SidelessTownModel", "reach", "(II)V"⟩, 41)]
theorem lw_r5 : ∀ q ∈ lw_privs_5, lw_okq q := List.forall_mem_cons.mpr ⟨lw_p64, List.forall_mem_cons.mpr ⟨lw_p65, List.forall_mem_cons.mpr ⟨lw_p66, List.forall_mem_cons.mpr ⟨lw_p67, List.forall_mem_cons.mpr ⟨lw_p68, List.forall_mem_cons.mpr ⟨lw_p69, List.forall_mem_cons.mpr ⟨lw_p70, List.forall_mem_cons.mpr ⟨lw_p71, List.forall_mem_cons.mpr ⟨lw_p72, List.forall_mem_cons.mpr ⟨lw_p73, List.forall_mem_cons.mpr ⟨lw_p74, List.forall_mem_cons.mpr ⟨lw_p75, List.forall_mem_cons.mpr ⟨lw_p76, List.forall_mem_cons.mpr ⟨lw_p77, List.forall_mem_cons.mpr ⟨lw_p78, List.forall_mem_cons.mpr ⟨lw_p79, fun _ h => absurd h List.not_mem_nil⟩⟩⟩⟩⟩⟩⟩⟩⟩⟩⟩⟩⟩⟩⟩⟩
theorem lw_p80 : lw_okq (⟨"SidelessTownModel", "stateNow", "()I"⟩, 41) := ⟨⟨by decide +kernel, by decide +kernel⟩, List.mem_of_getElem? (i := 1147) (by decide +kernel), List.mem_of_getElem? (i := 1514) (by decide +kernel), List.mem_of_getElem? (i := 1515) (by decide +kernel)⟩
theorem lw_p81 : lw_okq (⟨"SidelessTownModel", "beAt", "(I)V"⟩, 41) := ⟨⟨by decide +kernel, by decide +kernel⟩, List.mem_of_getElem? (i := 1147) (by decide +kernel), List.mem_of_getElem? (i := 1518) (by decide +kernel), List.mem_of_getElem? (i := 1519) (by decide +kernel)⟩
theorem lw_p82 : lw_okq (⟨"SidelessTownModel", "firstAt", "(I)I"⟩, 41) := ⟨⟨by decide +kernel, by decide +kernel⟩, List.mem_of_getElem? (i := 1147) (by decide +kernel), List.mem_of_getElem? (i := 1525) (by decide +kernel), List.mem_of_getElem? (i := 1526) (by decide +kernel)⟩
theorem lw_p83 : lw_okq (⟨"SidelessTownModel", "layWay", "(ZI)Z"⟩, 41) := ⟨⟨by decide +kernel, by decide +kernel⟩, List.mem_of_getElem? (i := 1147) (by decide +kernel), List.mem_of_getElem? (i := 1537) (by decide +kernel), List.mem_of_getElem? (i := 1538) (by decide +kernel)⟩
theorem lw_p84 : lw_okq (⟨"SidelessTownModel", "fits", "(II)Z"⟩, 41) := ⟨⟨by decide +kernel, by decide +kernel⟩, List.mem_of_getElem? (i := 1147) (by decide +kernel), List.mem_of_getElem? (i := 1541) (by decide +kernel), List.mem_of_getElem? (i := 1542) (by decide +kernel)⟩
theorem lw_p85 : lw_okq (⟨"SidelessTownModel", "isNear", "(II)Z"⟩, 41) := ⟨⟨by decide +kernel, by decide +kernel⟩, List.mem_of_getElem? (i := 1147) (by decide +kernel), List.mem_of_getElem? (i := 1545) (by decide +kernel), List.mem_of_getElem? (i := 1546) (by decide +kernel)⟩
theorem lw_p86 : lw_okq (⟨"SidelessTownModel", "isWay", "(Z)Z"⟩, 41) := ⟨⟨by decide +kernel, by decide +kernel⟩, List.mem_of_getElem? (i := 1147) (by decide +kernel), List.mem_of_getElem? (i := 1549) (by decide +kernel), List.mem_of_getElem? (i := 1550) (by decide +kernel)⟩
theorem lw_p87 : lw_okq (⟨"SidelessTownModel", "turnsAbout", "(IZ)Z"⟩, 41) := ⟨⟨by decide +kernel, by decide +kernel⟩, List.mem_of_getElem? (i := 1147) (by decide +kernel), List.mem_of_getElem? (i := 1553) (by decide +kernel), List.mem_of_getElem? (i := 1554) (by decide +kernel)⟩
theorem lw_p88 : lw_okq (⟨"SidelessTownModel", "fixedNow", "()I"⟩, 41) := ⟨⟨by decide +kernel, by decide +kernel⟩, List.mem_of_getElem? (i := 1147) (by decide +kernel), List.mem_of_getElem? (i := 1557) (by decide +kernel), List.mem_of_getElem? (i := 1558) (by decide +kernel)⟩
theorem lw_p89 : lw_okq (⟨"SidelessTownModel", "meets", "(II)I"⟩, 41) := ⟨⟨by decide +kernel, by decide +kernel⟩, List.mem_of_getElem? (i := 1147) (by decide +kernel), List.mem_of_getElem? (i := 1574) (by decide +kernel), List.mem_of_getElem? (i := 1575) (by decide +kernel)⟩
theorem lw_p90 : lw_okq (⟨"SidelessTownModel", "soon", "(II)I"⟩, 41) := ⟨⟨by decide +kernel, by decide +kernel⟩, List.mem_of_getElem? (i := 1147) (by decide +kernel), List.mem_of_getElem? (i := 1578) (by decide +kernel), List.mem_of_getElem? (i := 1579) (by decide +kernel)⟩
theorem lw_p91 : lw_okq (⟨"SidelessTownModel", "plainTo", "(II)I"⟩, 41) := ⟨⟨by decide +kernel, by decide +kernel⟩, List.mem_of_getElem? (i := 1147) (by decide +kernel), List.mem_of_getElem? (i := 1582) (by decide +kernel), List.mem_of_getElem? (i := 1583) (by decide +kernel)⟩
theorem lw_p92 : lw_okq (⟨"SidelessTownModel", "isWord", "(I)Z"⟩, 41) := ⟨⟨by decide +kernel, by decide +kernel⟩, List.mem_of_getElem? (i := 1147) (by decide +kernel), List.mem_of_getElem? (i := 1602) (by decide +kernel), List.mem_of_getElem? (i := 1603) (by decide +kernel)⟩
theorem lw_p93 : lw_okq (⟨"SidelessTownModel", "kindOf", "(I)I"⟩, 41) := ⟨⟨by decide +kernel, by decide +kernel⟩, List.mem_of_getElem? (i := 1147) (by decide +kernel), List.mem_of_getElem? (i := 1606) (by decide +kernel), List.mem_of_getElem? (i := 1607) (by decide +kernel)⟩
theorem lw_p94 : lw_okq (⟨"SidelessTownModel", "wordAt", "(I)I"⟩, 41) := ⟨⟨by decide +kernel, by decide +kernel⟩, List.mem_of_getElem? (i := 1147) (by decide +kernel), List.mem_of_getElem? (i := 1610) (by decide +kernel), List.mem_of_getElem? (i := 1611) (by decide +kernel)⟩
theorem lw_p95 : lw_okq (⟨"SidelessTownModel", "sizeOf", "(I)I"⟩, 41) := ⟨⟨by decide +kernel, by decide +kernel⟩, List.mem_of_getElem? (i := 1147) (by decide +kernel), List.mem_of_getElem? (i := 1626) (by decide +kernel), List.mem_of_getElem? (i := 1627) (by decide +kernel)⟩
def lw_privs_6 : List (MethodName × Nat) := [(⟨"SidelessTownModel", "stateNow", "()I"⟩, 41), (⟨"SidelessTownModel", "beAt", "(I)V"⟩, 41), (⟨"SidelessTownModel", "firstAt", "(I)I"⟩, 41), (⟨"SidelessTownModel", "layWay", "(ZI)Z"⟩, 41), (⟨"SidelessTownModel", "fits", "(II)Z"⟩, 41), (⟨"SidelessTownModel", "isNear", "(II)Z"⟩, 41), (⟨"SidelessTownModel", "isWay", "(Z)Z"⟩, 41), (⟨"SidelessTownModel", "turnsAbout", "(IZ)Z"⟩, 41), (⟨"SidelessTownModel", "fixedNow", "()I"⟩, 41), (⟨"SidelessTownModel", "meets", "(II)I"⟩, 41), (⟨"SidelessTownModel", "soon", "(II)I"⟩, 41), (⟨"SidelessTownModel", "plainTo", "(II)I"⟩, 41), (⟨"SidelessTownModel", "isWord", "(I)Z"⟩, 41), (⟨"SidelessTownModel", "kindOf", "(I)I"⟩, 41), (⟨"SidelessTownModel", "wordAt", "(I)I"⟩, 41), (⟨"SidelessTownModel", "sizeOf", "(I)I"⟩, 41)]
theorem lw_r6 : ∀ q ∈ lw_privs_6, lw_okq q := List.forall_mem_cons.mpr ⟨lw_p80, List.forall_mem_cons.mpr ⟨lw_p81, List.forall_mem_cons.mpr ⟨lw_p82, List.forall_mem_cons.mpr ⟨lw_p83, List.forall_mem_cons.mpr ⟨lw_p84, List.forall_mem_cons.mpr ⟨lw_p85, List.forall_mem_cons.mpr ⟨lw_p86, List.forall_mem_cons.mpr ⟨lw_p87, List.forall_mem_cons.mpr ⟨lw_p88, List.forall_mem_cons.mpr ⟨lw_p89, List.forall_mem_cons.mpr ⟨lw_p90, List.forall_mem_cons.mpr ⟨lw_p91, List.forall_mem_cons.mpr ⟨lw_p92, List.forall_mem_cons.mpr ⟨lw_p93, List.forall_mem_cons.mpr ⟨lw_p94, List.forall_mem_cons.mpr ⟨lw_p95, fun _ h => absurd h List.not_mem_nil⟩⟩⟩⟩⟩⟩⟩⟩⟩⟩⟩⟩⟩⟩⟩⟩
theorem lw_p96 : lw_okq (⟨"SidelessTownModel", "began", "(I)V"⟩, 41) := ⟨⟨by decide +kernel, by decide +kernel⟩, List.mem_of_getElem? (i := 1147) (by decide +kernel), List.mem_of_getElem? (i := 1630) (by decide +kernel), List.mem_of_getElem? (i := 1631) (by decide +kernel)⟩
theorem lw_p97 : lw_okq (⟨"SidelessTownModel", "plainSize", "(I)I"⟩, 41) := ⟨⟨by decide +kernel, by decide +kernel⟩, List.mem_of_getElem? (i := 1147) (by decide +kernel), List.mem_of_getElem? (i := 1634) (by decide +kernel), List.mem_of_getElem? (i := 1635) (by decide +kernel)⟩
theorem lw_p98 : lw_okq (⟨"SidelessTownModel", "markOf", "(I)I"⟩, 41) := ⟨⟨by decide +kernel, by decide +kernel⟩, List.mem_of_getElem? (i := 1147) (by decide +kernel), List.mem_of_getElem? (i := 1638) (by decide +kernel), List.mem_of_getElem? (i := 1639) (by decide +kernel)⟩
theorem lw_p99 : lw_okq (⟨"SidelessTownModel", "takenSize", "(I)I"⟩, 41) := ⟨⟨by decide +kernel, by decide +kernel⟩, List.mem_of_getElem? (i := 1147) (by decide +kernel), List.mem_of_getElem? (i := 1642) (by decide +kernel), List.mem_of_getElem? (i := 1643) (by decide +kernel)⟩
theorem lw_p100 : lw_okq (⟨"SidelessTownModel", "turnedSize", "(I)I"⟩, 41) := ⟨⟨by decide +kernel, by decide +kernel⟩, List.mem_of_getElem? (i := 1147) (by decide +kernel), List.mem_of_getElem? (i := 1646) (by decide +kernel), List.mem_of_getElem? (i := 1647) (by decide +kernel)⟩
def lw_privs_7 : List (MethodName × Nat) := [(⟨"SidelessTownModel", "began", "(I)V"⟩, 41), (⟨"SidelessTownModel", "plainSize", "(I)I"⟩, 41), (⟨"SidelessTownModel", "markOf", "(I)I"⟩, 41), (⟨"SidelessTownModel", "takenSize", "(I)I"⟩, 41), (⟨"SidelessTownModel", "turnedSize", "(I)I"⟩, 41)]
theorem lw_r7 : ∀ q ∈ lw_privs_7, lw_okq q := List.forall_mem_cons.mpr ⟨lw_p96, List.forall_mem_cons.mpr ⟨lw_p97, List.forall_mem_cons.mpr ⟨lw_p98, List.forall_mem_cons.mpr ⟨lw_p99, List.forall_mem_cons.mpr ⟨lw_p100, fun _ h => absurd h List.not_mem_nil⟩⟩⟩⟩⟩
def lw_privs : List (MethodName × Nat) := lw_privs_1 ++ (lw_privs_2 ++ (lw_privs_3 ++ (lw_privs_4 ++ (lw_privs_5 ++ (lw_privs_6 ++ (lw_privs_7))))))
def lw_tbl : List Cond := k2_sels lw_privs ++ tables_1
theorem lw_privs_ok : ∀ q ∈ lw_privs, lw_okq q := by
  show ∀ q ∈ lw_privs_1 ++ (lw_privs_2 ++ (lw_privs_3 ++ (lw_privs_4 ++ (lw_privs_5 ++ (lw_privs_6 ++ (lw_privs_7)))))), lw_okq q
  exact List.forall_mem_append.mpr ⟨lw_r1, List.forall_mem_append.mpr ⟨lw_r2, List.forall_mem_append.mpr ⟨lw_r3, List.forall_mem_append.mpr ⟨lw_r4, List.forall_mem_append.mpr ⟨lw_r5, List.forall_mem_append.mpr ⟨lw_r6, lw_r7⟩⟩⟩⟩⟩⟩
def lw_T : List Cond := lw_tbl.filter goodWord
theorem lw_T_in {w : Cond} (h : w ∈ lw_T) : w ∈ lw_tbl := (List.mem_filter.mp h).1
theorem lw_T_good : GoodIn lw_T lw_T := fun w h => ⟨h, good_of_word (List.mem_filter.mp h).2⟩
theorem lw_T_of {w : Cond} {i : Nat} (h : lw_tbl[i]? = some w) (hg : goodWord w = true) : w ∈ lw_T := List.mem_filter.mpr ⟨List.mem_of_getElem? h, hg⟩
end
section
def RX0 : String := "SidelessTown$Asks"
def TX0 : u_T := fun k => match k with
  | 0 => ("SidelessTown$Asks", "saying", "LSidelessTown$Saying;", true)
  | 1 => ("SidelessTown$Asks", "asked", "I", false)
  | 2 => ("SidelessTown$Asks", "word", "I", false)
  | 3 => ("SidelessTown$Asks", "kind", "I", false)
  | 4 => ("SidelessTown$Asks", "numbers", "[I", true)
  | _ => ("SidelessTown$Asks", "many", "I", false)
def tyX0 : Nat → FieldType := fun k => match k with
  | 0 => .object "SidelessTown$Saying"
  | 1 => .int
  | 2 => .int
  | 3 => .int
  | 4 => .array .int
  | _ => .int
abbrev wsX00 : List Cond := u_ws RX0 TX0 6
theorem nmX0 : ∀ a, a < 6 → ∀ b, b < 6 → a ≠ b → (TX0 a).2.1 ≠ (TX0 b).2.1 := by decide +kernel
theorem tyX0_ok : ∀ k, k < 6 → parseFieldDescriptor (TX0 k).2.2.1 = some (tyX0 k) := by decide +kernel
abbrev cX0_init : ByteArray := prog_2_method_1_code
def yX0_init : MethodName := ⟨RX0, "<init>", "(LSidelessTown$Saying;)V"⟩
abbrev cX0_left : ByteArray := prog_2_method_2_code
def yX0_left : MethodName := ⟨RX0, "left", "(I)I"⟩
abbrev cX0_begin : ByteArray := prog_2_method_3_code
def yX0_begin : MethodName := ⟨RX0, "begin", "(I)V"⟩
abbrev cX0_leave : ByteArray := prog_2_method_4_code
def yX0_leave : MethodName := ⟨RX0, "leave", "(I)V"⟩
abbrev cX0_sizeOfAsked : ByteArray := prog_2_method_5_code
def yX0_sizeOfAsked : MethodName := ⟨RX0, "sizeOfAsked", "()I"⟩
abbrev cX0_markOfAsked : ByteArray := prog_2_method_6_code
def yX0_markOfAsked : MethodName := ⟨RX0, "markOfAsked", "()I"⟩
abbrev cX0_body10 : ByteArray := prog_2_method_7_code
def yX0_body10 : MethodName := ⟨RX0, "body10", "()I"⟩
abbrev cX0_body11 : ByteArray := prog_2_method_8_code
def yX0_body11 : MethodName := ⟨RX0, "body11", "()I"⟩
abbrev cX0_body12 : ByteArray := prog_2_method_9_code
def yX0_body12 : MethodName := ⟨RX0, "body12", "()I"⟩
abbrev cX0_body13 : ByteArray := prog_2_method_10_code
def yX0_body13 : MethodName := ⟨RX0, "body13", "()I"⟩
abbrev cX0_body14 : ByteArray := prog_2_method_11_code
def yX0_body14 : MethodName := ⟨RX0, "body14", "()I"⟩
abbrev cX0_body20 : ByteArray := prog_2_method_12_code
def yX0_body20 : MethodName := ⟨RX0, "body20", "()I"⟩
abbrev cX0_body21 : ByteArray := prog_2_method_13_code
def yX0_body21 : MethodName := ⟨RX0, "body21", "()I"⟩
abbrev cX0_body22 : ByteArray := prog_2_method_14_code
def yX0_body22 : MethodName := ⟨RX0, "body22", "()I"⟩
abbrev cX0_body23 : ByteArray := prog_2_method_15_code
def yX0_body23 : MethodName := ⟨RX0, "body23", "()I"⟩
def RX1 : String := "SidelessTown$Goals"
def TX1 : u_T := fun k => match k with
  | 0 => ("SidelessTown$Goals", "town", "LSidelessTown$Town;", true)
  | 1 => ("SidelessTown$Goals", "goal", "[I", true)
  | 2 => ("SidelessTown$Goals", "sorted", "[I", true)
  | 3 => ("SidelessTown$Goals", "finer", "[I", true)
  | 4 => ("SidelessTown$Goals", "classes", "I", false)
  | 5 => ("SidelessTown$Goals", "pairs", "[I", true)
  | 6 => ("SidelessTown$Goals", "wordsTo", "[I", true)
  | _ => ("SidelessTown$Goals", "pairsSeen", "I", false)
def tyX1 : Nat → FieldType := fun k => match k with
  | 0 => .object "SidelessTown$Town"
  | 1 => .array .int
  | 2 => .array .int
  | 3 => .array .int
  | 4 => .int
  | 5 => .array .int
  | 6 => .array .int
  | _ => .int
abbrev wsX10 : List Cond := u_ws RX1 TX1 8
theorem nmX1 : ∀ a, a < 8 → ∀ b, b < 8 → a ≠ b → (TX1 a).2.1 ≠ (TX1 b).2.1 := by decide +kernel
theorem tyX1_ok : ∀ k, k < 8 → parseFieldDescriptor (TX1 k).2.2.1 = some (tyX1 k) := by decide +kernel
abbrev cX1_init : ByteArray := prog_3_method_1_code
def yX1_init : MethodName := ⟨RX1, "<init>", "(LSidelessTown$Town;)V"⟩
abbrev cX1_classOf : ByteArray := prog_3_method_2_code
def yX1_classOf : MethodName := ⟨RX1, "classOf", "(I)I"⟩
abbrev cX1_classes : ByteArray := prog_3_method_3_code
def yX1_classes : MethodName := ⟨RX1, "classes", "()I"⟩
abbrev cX1_look : ByteArray := prog_3_method_4_code
def yX1_look : MethodName := ⟨RX1, "look", "()V"⟩
abbrev cX1_goalOf : ByteArray := prog_3_method_5_code
def yX1_goalOf : MethodName := ⟨RX1, "goalOf", "(II)I"⟩
abbrev cX1_sortIntoClasses : ByteArray := prog_3_method_6_code
def yX1_sortIntoClasses : MethodName := ⟨RX1, "sortIntoClasses", "()V"⟩
abbrev cX1_finerClassOf : ByteArray := prog_3_method_7_code
def yX1_finerClassOf : MethodName := ⟨RX1, "finerClassOf", "(I)I"⟩
abbrev cX1_alikeSoFar : ByteArray := prog_3_method_8_code
def yX1_alikeSoFar : MethodName := ⟨RX1, "alikeSoFar", "(II)Z"⟩
abbrev cX1_soonestMeeting : ByteArray := prog_3_method_9_code
def yX1_soonestMeeting : MethodName := ⟨RX1, "soonestMeeting", "(II)I"⟩
abbrev cX1_stepOf : ByteArray := prog_3_method_10_code
def yX1_stepOf : MethodName := ⟨RX1, "stepOf", "(III)Z"⟩
abbrev cX1_notePair : ByteArray := prog_3_method_11_code
def yX1_notePair : MethodName := ⟨RX1, "notePair", "(III)V"⟩
def RX2 : String := "SidelessTown$Kept"
def TX2 : u_T := fun k => match k with
  | 0 => ("SidelessTown$Kept", "town", "LSidelessTown$Town;", true)
  | 1 => ("SidelessTown$Kept", "saying", "LSidelessTown$Saying;", true)
  | _ => ("SidelessTown$Kept", "kept", "Z", false)
def tyX2 : Nat → FieldType := fun k => match k with
  | 0 => .object "SidelessTown$Town"
  | 1 => .object "SidelessTown$Saying"
  | _ => .boolean
abbrev wsX20 : List Cond := u_ws RX2 TX2 3
theorem nmX2 : ∀ a, a < 3 → ∀ b, b < 3 → a ≠ b → (TX2 a).2.1 ≠ (TX2 b).2.1 := by decide +kernel
theorem tyX2_ok : ∀ k, k < 3 → parseFieldDescriptor (TX2 k).2.2.1 = some (tyX2 k) := by decide +kernel
abbrev cX2_init : ByteArray := prog_4_method_1_code
def yX2_init : MethodName := ⟨RX2, "<init>", "()V"⟩
abbrev cX2_isKept : ByteArray := prog_4_method_2_code
def yX2_isKept : MethodName := ⟨RX2, "isKept", "()Z"⟩
abbrev cX2_keep : ByteArray := prog_4_method_3_code
def yX2_keep : MethodName := ⟨RX2, "keep", "(LSidelessTown$Town;LSidelessTown$Saying;)V"⟩
abbrev cX2_giveBack : ByteArray := prog_4_method_4_code
def yX2_giveBack : MethodName := ⟨RX2, "giveBack", "(LSidelessTown$Town;LSidelessTown$Saying;)V"⟩
def RX3 : String := "SidelessTown$Layings"
def TX3 : u_T := fun k => match k with
  | 0 => ("SidelessTown$Layings", "town", "LSidelessTown$Town;", true)
  | 1 => ("SidelessTown$Layings", "on", "[I", true)
  | 2 => ("SidelessTown$Layings", "block", "[I", true)
  | 3 => ("SidelessTown$Layings", "anyImage", "Z", false)
  | _ => ("SidelessTown$Layings", "counted", "Z", false)
def tyX3 : Nat → FieldType := fun k => match k with
  | 0 => .object "SidelessTown$Town"
  | 1 => .array .int
  | 2 => .array .int
  | 3 => .boolean
  | _ => .boolean
abbrev wsX30 : List Cond := u_ws RX3 TX3 5
theorem nmX3 : ∀ a, a < 5 → ∀ b, b < 5 → a ≠ b → (TX3 a).2.1 ≠ (TX3 b).2.1 := by decide +kernel
theorem tyX3_ok : ∀ k, k < 5 → parseFieldDescriptor (TX3 k).2.2.1 = some (tyX3 k) := by decide +kernel
abbrev cX3_init : ByteArray := prog_5_method_1_code
def yX3_init : MethodName := ⟨RX3, "<init>", "(LSidelessTown$Town;)V"⟩
abbrev cX3_forget : ByteArray := prog_5_method_2_code
def yX3_forget : MethodName := ⟨RX3, "forget", "()V"⟩
abbrev cX3_countAll : ByteArray := prog_5_method_3_code
def yX3_countAll : MethodName := ⟨RX3, "countAll", "()V"⟩
abbrev cX3_howMany : ByteArray := prog_5_method_4_code
def yX3_howMany : MethodName := ⟨RX3, "howMany", "(I)I"⟩
abbrev cX3_whereLaid : ByteArray := prog_5_method_5_code
def yX3_whereLaid : MethodName := ⟨RX3, "whereLaid", "(III)I"⟩
abbrev cX3_leastMovedByAllImages : ByteArray := prog_5_method_6_code
def yX3_leastMovedByAllImages : MethodName := ⟨RX3, "leastMovedByAllImages", "()I"⟩
abbrev cX3_canLay : ByteArray := prog_5_method_7_code
def yX3_canLay : MethodName := ⟨RX3, "canLay", "(IIII)Z"⟩
abbrev cX3_canLayRest : ByteArray := prog_5_method_8_code
def yX3_canLayRest : MethodName := ⟨RX3, "canLayRest", "(II)Z"⟩
abbrev cX3_nextToLay : ByteArray := prog_5_method_9_code
def yX3_nextToLay : MethodName := ⟨RX3, "nextToLay", "()I"⟩
abbrev cX3_fits : ByteArray := prog_5_method_10_code
def yX3_fits : MethodName := ⟨RX3, "fits", "(II)Z"⟩
abbrev cX3_ordersAgree : ByteArray := prog_5_method_11_code
def yX3_ordersAgree : MethodName := ⟨RX3, "ordersAgree", "(I)Z"⟩
def RX4 : String := "SidelessTown$Rows"
def TX4 : u_T := fun k => match k with
  | 0 => ("SidelessTown$Rows", "lane", "[I", true)
  | 1 => ("SidelessTown$Rows", "size", "[I", true)
  | _ => ("SidelessTown$Rows", "items", "[I", true)
def tyX4 : Nat → FieldType := fun k => match k with
  | 0 => .array .int
  | 1 => .array .int
  | _ => .array .int
abbrev wsX40 : List Cond := u_ws RX4 TX4 3
theorem nmX4 : ∀ a, a < 3 → ∀ b, b < 3 → a ≠ b → (TX4 a).2.1 ≠ (TX4 b).2.1 := by decide +kernel
theorem tyX4_ok : ∀ k, k < 3 → parseFieldDescriptor (TX4 k).2.2.1 = some (tyX4 k) := by decide +kernel
abbrev cX4_init : ByteArray := prog_6_method_1_code
def yX4_init : MethodName := ⟨RX4, "<init>", "()V"⟩
abbrev cX4_has : ByteArray := prog_6_method_2_code
def yX4_has : MethodName := ⟨RX4, "has", "(I)Z"⟩
abbrev cX4_missing : ByteArray := prog_6_method_3_code
def yX4_missing : MethodName := ⟨RX4, "missing", "(I)Z"⟩
abbrev cX4_howMany : ByteArray := prog_6_method_4_code
def yX4_howMany : MethodName := ⟨RX4, "howMany", "()I"⟩
abbrev cX4_findingAt : ByteArray := prog_6_method_5_code
def yX4_findingAt : MethodName := ⟨RX4, "findingAt", "(III)I"⟩
abbrev cX4_findingBetween : ByteArray := prog_6_method_6_code
def yX4_findingBetween : MethodName := ⟨RX4, "findingBetween", "(IIIII)I"⟩
abbrev cX4_beyond : ByteArray := prog_6_method_7_code
def yX4_beyond : MethodName := ⟨RX4, "beyond", "(III)Z"⟩
abbrev cX4_make : ByteArray := prog_6_method_8_code
def yX4_make : MethodName := ⟨RX4, "make", "(III)V"⟩
abbrev cX4_item : ByteArray := prog_6_method_9_code
def yX4_item : MethodName := ⟨RX4, "item", "(II)I"⟩
abbrev cX4_store : ByteArray := prog_6_method_10_code
def yX4_store : MethodName := ⟨RX4, "store", "(III)I"⟩
abbrev cX4_lowestBits : ByteArray := prog_6_method_11_code
def yX4_lowestBits : MethodName := ⟨RX4, "lowestBits", "(II)I"⟩
abbrev cX4_move : ByteArray := prog_6_method_12_code
def yX4_move : MethodName := ⟨RX4, "move", "(IIIII)V"⟩
abbrev cX4_takeAway : ByteArray := prog_6_method_13_code
def yX4_takeAway : MethodName := ⟨RX4, "takeAway", "(I)I"⟩
def RX5 : String := "SidelessTown$Saying"
def TX5 : u_T := fun k => match k with
  | 0 => ("SidelessTown$Saying", "length", "I", false)
  | _ => ("SidelessTown$Saying", "words", "[I", true)
def tyX5 : Nat → FieldType := fun k => match k with
  | 0 => .int
  | _ => .array .int
abbrev wsX50 : List Cond := u_ws RX5 TX5 2
theorem nmX5 : ∀ a, a < 2 → ∀ b, b < 2 → a ≠ b → (TX5 a).2.1 ≠ (TX5 b).2.1 := by decide +kernel
theorem tyX5_ok : ∀ k, k < 2 → parseFieldDescriptor (TX5 k).2.2.1 = some (tyX5 k) := by decide +kernel
abbrev cX5_init : ByteArray := prog_7_method_1_code
def yX5_init : MethodName := ⟨RX5, "<init>", "()V"⟩
abbrev cX5_clear : ByteArray := prog_7_method_2_code
def yX5_clear : MethodName := ⟨RX5, "clear", "()V"⟩
abbrev cX5_become : ByteArray := prog_7_method_3_code
def yX5_become : MethodName := ⟨RX5, "become", "(LSidelessTown$Saying;)V"⟩
abbrev cX5_add : ByteArray := prog_7_method_4_code
def yX5_add : MethodName := ⟨RX5, "add", "(I)Z"⟩
abbrev cX5_length : ByteArray := prog_7_method_5_code
def yX5_length : MethodName := ⟨RX5, "length", "()I"⟩
abbrev cX5_has : ByteArray := prog_7_method_6_code
def yX5_has : MethodName := ⟨RX5, "has", "(I)Z"⟩
abbrev cX5_wordAt : ByteArray := prog_7_method_7_code
def yX5_wordAt : MethodName := ⟨RX5, "wordAt", "(I)I"⟩
abbrev cX5_kindAt : ByteArray := prog_7_method_8_code
def yX5_kindAt : MethodName := ⟨RX5, "kindAt", "(I)I"⟩
abbrev cX5_isOne : ByteArray := prog_7_method_9_code
def yX5_isOne : MethodName := ⟨RX5, "isOne", "(II)Z"⟩
def RX6 : String := "SidelessTown$Search"
def TX6 : u_T := fun k => match k with
  | 0 => ("SidelessTown$Search", "town", "LSidelessTown$Town;", true)
  | 1 => ("SidelessTown$Search", "walker", "LSidelessTown$Walker;", true)
  | 2 => ("SidelessTown$Search", "states", "[I", true)
  | 3 => ("SidelessTown$Search", "before", "[I", true)
  | 4 => ("SidelessTown$Search", "by", "[I", true)
  | 5 => ("SidelessTown$Search", "words", "[I", true)
  | 6 => ("SidelessTown$Search", "seen", "[I", true)
  | _ => ("SidelessTown$Search", "reached", "I", false)
def tyX6 : Nat → FieldType := fun k => match k with
  | 0 => .object "SidelessTown$Town"
  | 1 => .object "SidelessTown$Walker"
  | 2 => .array .int
  | 3 => .array .int
  | 4 => .array .int
  | 5 => .array .int
  | 6 => .array .int
  | _ => .int
abbrev wsX60 : List Cond := u_ws RX6 TX6 8
theorem nmX6 : ∀ a, a < 8 → ∀ b, b < 8 → a ≠ b → (TX6 a).2.1 ≠ (TX6 b).2.1 := by decide +kernel
theorem tyX6_ok : ∀ k, k < 8 → parseFieldDescriptor (TX6 k).2.2.1 = some (tyX6 k) := by decide +kernel
abbrev cX6_init : ByteArray := prog_8_method_1_code
def yX6_init : MethodName := ⟨RX6, "<init>", "(LSidelessTown$Town;)V"⟩
abbrev cX6_spread : ByteArray := prog_8_method_2_code
def yX6_spread : MethodName := ⟨RX6, "spread", "(II)V"⟩
abbrev cX6_standAt : ByteArray := prog_8_method_3_code
def yX6_standAt : MethodName := ⟨RX6, "standAt", "(I)V"⟩
abbrev cX6_note : ByteArray := prog_8_method_4_code
def yX6_note : MethodName := ⟨RX6, "note", "(III)V"⟩
abbrev cX6_firstAt : ByteArray := prog_8_method_5_code
def yX6_firstAt : MethodName := ⟨RX6, "firstAt", "(I)I"⟩
abbrev cX6_firstAtWell : ByteArray := prog_8_method_6_code
def yX6_firstAtWell : MethodName := ⟨RX6, "firstAtWell", "()I"⟩
abbrev cX6_better : ByteArray := prog_8_method_7_code
def yX6_better : MethodName := ⟨RX6, "better", "(II)Z"⟩
abbrev cX6_cornerAt : ByteArray := prog_8_method_8_code
def yX6_cornerAt : MethodName := ⟨RX6, "cornerAt", "(I)I"⟩
abbrev cX6_wordsTo : ByteArray := prog_8_method_9_code
def yX6_wordsTo : MethodName := ⟨RX6, "wordsTo", "(I)I"⟩
abbrev cX6_wordOnTheWay : ByteArray := prog_8_method_10_code
def yX6_wordOnTheWay : MethodName := ⟨RX6, "wordOnTheWay", "(II)I"⟩
def RX7 : String := "SidelessTown$Text"
def TX7 : u_T := fun k => match k with
  | 0 => ("SidelessTown$Text", "tape", "[I", true)
  | 1 => ("SidelessTown$Text", "length", "I", false)
  | 2 => ("SidelessTown$Text", "starts", "[I", true)
  | 3 => ("SidelessTown$Text", "sorts", "[I", true)
  | 4 => ("SidelessTown$Text", "values", "[I", true)
  | 5 => ("SidelessTown$Text", "tokens", "I", false)
  | 6 => ("SidelessTown$Text", "token", "I", false)
  | 7 => ("SidelessTown$Text", "number", "I", false)
  | 8 => ("SidelessTown$Text", "faultNumber", "I", false)
  | _ => ("SidelessTown$Text", "faultPlace", "I", false)
def tyX7 : Nat → FieldType := fun k => match k with
  | 0 => .array .int
  | 1 => .int
  | 2 => .array .int
  | 3 => .array .int
  | 4 => .array .int
  | 5 => .int
  | 6 => .int
  | 7 => .int
  | 8 => .int
  | _ => .int
abbrev wsX70 : List Cond := u_ws RX7 TX7 10
theorem nmX7 : ∀ a, a < 10 → ∀ b, b < 10 → a ≠ b → (TX7 a).2.1 ≠ (TX7 b).2.1 := by decide +kernel
theorem tyX7_ok : ∀ k, k < 10 → parseFieldDescriptor (TX7 k).2.2.1 = some (tyX7 k) := by decide +kernel
abbrev cX7_init : ByteArray := prog_9_method_1_code
def yX7_init : MethodName := ⟨RX7, "<init>", "()V"⟩
abbrev cX7_length : ByteArray := prog_9_method_2_code
def yX7_length : MethodName := ⟨RX7, "length", "()I"⟩
abbrev cX7_hasRoomFor : ByteArray := prog_9_method_3_code
def yX7_hasRoomFor : MethodName := ⟨RX7, "hasRoomFor", "(I)Z"⟩
abbrev cX7_append : ByteArray := prog_9_method_4_code
def yX7_append : MethodName := ⟨RX7, "append", "(JI)V"⟩
abbrev cX7_empty : ByteArray := prog_9_method_5_code
def yX7_empty : MethodName := ⟨RX7, "empty", "()V"⟩
abbrev cX7_faultNumber : ByteArray := prog_9_method_6_code
def yX7_faultNumber : MethodName := ⟨RX7, "faultNumber", "()I"⟩
abbrev cX7_faultPlace : ByteArray := prog_9_method_7_code
def yX7_faultPlace : MethodName := ⟨RX7, "faultPlace", "()I"⟩
abbrev cX7_readTown : ByteArray := prog_9_method_8_code
def yX7_readTown : MethodName := ⟨RX7, "readTown", "(LSidelessTown$Town;)Z"⟩
abbrev cX7_readCorners : ByteArray := prog_9_method_9_code
def yX7_readCorners : MethodName := ⟨RX7, "readCorners", "(LSidelessTown$Town;)Z"⟩
abbrev cX7_readCorner : ByteArray := prog_9_method_10_code
def yX7_readCorner : MethodName := ⟨RX7, "readCorner", "(LSidelessTown$Town;)Z"⟩
abbrev cX7_readStreets : ByteArray := prog_9_method_11_code
def yX7_readStreets : MethodName := ⟨RX7, "readStreets", "(LSidelessTown$Town;)Z"⟩
abbrev cX7_readStreet : ByteArray := prog_9_method_12_code
def yX7_readStreet : MethodName := ⟨RX7, "readStreet", "(LSidelessTown$Town;)Z"⟩
abbrev cX7_readStreetEnd : ByteArray := prog_9_method_13_code
def yX7_readStreetEnd : MethodName := ⟨RX7, "readStreetEnd", "(LSidelessTown$Town;I)Z"⟩
abbrev cX7_readSaying : ByteArray := prog_9_method_14_code
def yX7_readSaying : MethodName := ⟨RX7, "readSaying", "(LSidelessTown$Saying;)Z"⟩
abbrev cX7_readWord : ByteArray := prog_9_method_15_code
def yX7_readWord : MethodName := ⟨RX7, "readWord", "(LSidelessTown$Saying;)Z"⟩
abbrev cX7_readNumber : ByteArray := prog_9_method_16_code
def yX7_readNumber : MethodName := ⟨RX7, "readNumber", "(I)Z"⟩
abbrev cX7_readSign : ByteArray := prog_9_method_17_code
def yX7_readSign : MethodName := ⟨RX7, "readSign", "()Z"⟩
abbrev cX7_isName : ByteArray := prog_9_method_18_code
def yX7_isName : MethodName := ⟨RX7, "isName", "(I)Z"⟩
abbrev cX7_isWord : ByteArray := prog_9_method_19_code
def yX7_isWord : MethodName := ⟨RX7, "isWord", "()Z"⟩
abbrev cX7_sort : ByteArray := prog_9_method_20_code
def yX7_sort : MethodName := ⟨RX7, "sort", "()I"⟩
abbrev cX7_value : ByteArray := prog_9_method_21_code
def yX7_value : MethodName := ⟨RX7, "value", "()I"⟩
abbrev cX7_fail : ByteArray := prog_9_method_22_code
def yX7_fail : MethodName := ⟨RX7, "fail", "(I)Z"⟩
abbrev cX7_cut : ByteArray := prog_9_method_23_code
def yX7_cut : MethodName := ⟨RX7, "cut", "()V"⟩
abbrev cX7_sortOf : ByteArray := prog_9_method_24_code
def yX7_sortOf : MethodName := ⟨RX7, "sortOf", "(I)I"⟩
abbrev cX7_behindRun : ByteArray := prog_9_method_25_code
def yX7_behindRun : MethodName := ⟨RX7, "behindRun", "(II)I"⟩
abbrev cX7_note : ByteArray := prog_9_method_26_code
def yX7_note : MethodName := ⟨RX7, "note", "(III)V"⟩
abbrev cX7_numberOf : ByteArray := prog_9_method_27_code
def yX7_numberOf : MethodName := ⟨RX7, "numberOf", "(II)I"⟩
abbrev cX7_nameOf : ByteArray := prog_9_method_28_code
def yX7_nameOf : MethodName := ⟨RX7, "nameOf", "(II)I"⟩
abbrev cX7_isSpelt : ByteArray := prog_9_method_29_code
def yX7_isSpelt : MethodName := ⟨RX7, "isSpelt", "(Ljava/lang/String;II)Z"⟩
abbrev cX7_spelling : ByteArray := prog_9_method_30_code
def yX7_spelling : MethodName := ⟨RX7, "spelling", "(I)Ljava/lang/String;"⟩
def RX8 : String := "SidelessTown$Town"
def TX8 : u_T := fun k => match k with
  | 0 => ("SidelessTown$Town", "corners", "I", false)
  | 1 => ("SidelessTown$Town", "streets", "I", false)
  | 2 => ("SidelessTown$Town", "height", "[I", true)
  | 3 => ("SidelessTown$Town", "mark", "[I", true)
  | 4 => ("SidelessTown$Town", "well", "[I", true)
  | 5 => ("SidelessTown$Town", "about", "[I", true)
  | 6 => ("SidelessTown$Town", "order", "[I", true)
  | _ => ("SidelessTown$Town", "place", "[I", true)
def tyX8 : Nat → FieldType := fun k => match k with
  | 0 => .int
  | 1 => .int
  | 2 => .array .int
  | 3 => .array .int
  | 4 => .array .int
  | 5 => .array .int
  | 6 => .array .int
  | _ => .array .int
abbrev wsX80 : List Cond := u_ws RX8 TX8 8
theorem nmX8 : ∀ a, a < 8 → ∀ b, b < 8 → a ≠ b → (TX8 a).2.1 ≠ (TX8 b).2.1 := by decide +kernel
theorem tyX8_ok : ∀ k, k < 8 → parseFieldDescriptor (TX8 k).2.2.1 = some (tyX8 k) := by decide +kernel
abbrev cX8_init : ByteArray := prog_10_method_1_code
def yX8_init : MethodName := ⟨RX8, "<init>", "()V"⟩
abbrev cX8_clear : ByteArray := prog_10_method_2_code
def yX8_clear : MethodName := ⟨RX8, "clear", "()V"⟩
abbrev cX8_become : ByteArray := prog_10_method_3_code
def yX8_become : MethodName := ⟨RX8, "become", "(LSidelessTown$Town;)V"⟩
abbrev cX8_addCorner : ByteArray := prog_10_method_4_code
def yX8_addCorner : MethodName := ⟨RX8, "addCorner", "(IIZ)V"⟩
abbrev cX8_addStreet : ByteArray := prog_10_method_5_code
def yX8_addStreet : MethodName := ⟨RX8, "addStreet", "(II)V"⟩
abbrev cX8_addStreetAt : ByteArray := prog_10_method_6_code
def yX8_addStreetAt : MethodName := ⟨RX8, "addStreetAt", "(II)V"⟩
abbrev cX8_has : ByteArray := prog_10_method_7_code
def yX8_has : MethodName := ⟨RX8, "has", "(I)Z"⟩
abbrev cX8_corners : ByteArray := prog_10_method_8_code
def yX8_corners : MethodName := ⟨RX8, "corners", "()I"⟩
abbrev cX8_streets : ByteArray := prog_10_method_9_code
def yX8_streets : MethodName := ⟨RX8, "streets", "()I"⟩
abbrev cX8_wells : ByteArray := prog_10_method_10_code
def yX8_wells : MethodName := ⟨RX8, "wells", "()I"⟩
abbrev cX8_heightOf : ByteArray := prog_10_method_11_code
def yX8_heightOf : MethodName := ⟨RX8, "heightOf", "(I)I"⟩
abbrev cX8_markOf : ByteArray := prog_10_method_12_code
def yX8_markOf : MethodName := ⟨RX8, "markOf", "(I)I"⟩
abbrev cX8_setMark : ByteArray := prog_10_method_13_code
def yX8_setMark : MethodName := ⟨RX8, "setMark", "(II)V"⟩
abbrev cX8_hasWell : ByteArray := prog_10_method_14_code
def yX8_hasWell : MethodName := ⟨RX8, "hasWell", "(I)Z"⟩
abbrev cX8_streetsAt : ByteArray := prog_10_method_15_code
def yX8_streetsAt : MethodName := ⟨RX8, "streetsAt", "(I)I"⟩
abbrev cX8_neighbour : ByteArray := prog_10_method_16_code
def yX8_neighbour : MethodName := ⟨RX8, "neighbour", "(II)I"⟩
abbrev cX8_joined : ByteArray := prog_10_method_17_code
def yX8_joined : MethodName := ⟨RX8, "joined", "(II)Z"⟩
abbrev cX8_steepest : ByteArray := prog_10_method_18_code
def yX8_steepest : MethodName := ⟨RX8, "steepest", "(II)I"⟩
abbrev cX8_marked : ByteArray := prog_10_method_19_code
def yX8_marked : MethodName := ⟨RX8, "marked", "(II)I"⟩
abbrev cX8_roundFrom : ByteArray := prog_10_method_20_code
def yX8_roundFrom : MethodName := ⟨RX8, "roundFrom", "(III)I"⟩
def RX9 : String := "SidelessTown$Walker"
def TX9 : u_T := fun k => match k with
  | 0 => ("SidelessTown$Walker", "town", "LSidelessTown$Town;", true)
  | 1 => ("SidelessTown$Walker", "place", "I", false)
  | 2 => ("SidelessTown$Walker", "from", "I", false)
  | 3 => ("SidelessTown$Walker", "handed", "Z", false)
  | 4 => ("SidelessTown$Walker", "raw", "Z", false)
  | _ => ("SidelessTown$Walker", "side", "I", false)
def tyX9 : Nat → FieldType := fun k => match k with
  | 0 => .object "SidelessTown$Town"
  | 1 => .int
  | 2 => .int
  | 3 => .boolean
  | 4 => .boolean
  | _ => .int
abbrev wsX90 : List Cond := u_ws RX9 TX9 6
theorem nmX9 : ∀ a, a < 6 → ∀ b, b < 6 → a ≠ b → (TX9 a).2.1 ≠ (TX9 b).2.1 := by decide +kernel
theorem tyX9_ok : ∀ k, k < 6 → parseFieldDescriptor (TX9 k).2.2.1 = some (tyX9 k) := by decide +kernel
abbrev cX9_init : ByteArray := prog_11_method_1_code
def yX9_init : MethodName := ⟨RX9, "<init>", "(LSidelessTown$Town;)V"⟩
abbrev cX9_start : ByteArray := prog_11_method_2_code
def yX9_start : MethodName := ⟨RX9, "start", "(IZZ)V"⟩
abbrev cX9_stand : ByteArray := prog_11_method_3_code
def yX9_stand : MethodName := ⟨RX9, "stand", "(IIZ)V"⟩
abbrev cX9_place : ByteArray := prog_11_method_4_code
def yX9_place : MethodName := ⟨RX9, "place", "()I"⟩
abbrev cX9_cameFrom : ByteArray := prog_11_method_5_code
def yX9_cameFrom : MethodName := ⟨RX9, "cameFrom", "()I"⟩
abbrev cX9_hasHand : ByteArray := prog_11_method_6_code
def yX9_hasHand : MethodName := ⟨RX9, "hasHand", "()Z"⟩
abbrev cX9_goBy : ByteArray := prog_11_method_7_code
def yX9_goBy : MethodName := ⟨RX9, "goBy", "(I)Z"⟩
abbrev cX9_goalOf : ByteArray := prog_11_method_8_code
def yX9_goalOf : MethodName := ⟨RX9, "goalOf", "(I)I"⟩
def RX10 : String := "SidelessTown$Walks"
def TX10 : u_T := fun k => match k with
  | 0 => ("SidelessTown$Walks", "saying", "LSidelessTown$Saying;", true)
  | 1 => ("SidelessTown$Walks", "one", "LSidelessTown$Walker;", true)
  | _ => ("SidelessTown$Walks", "two", "LSidelessTown$Walker;", true)
def tyX10 : Nat → FieldType := fun k => match k with
  | 0 => .object "SidelessTown$Saying"
  | 1 => .object "SidelessTown$Walker"
  | _ => .object "SidelessTown$Walker"
abbrev wsX100 : List Cond := u_ws RX10 TX10 3
theorem nmX10 : ∀ a, a < 3 → ∀ b, b < 3 → a ≠ b → (TX10 a).2.1 ≠ (TX10 b).2.1 := by decide +kernel
theorem tyX10_ok : ∀ k, k < 3 → parseFieldDescriptor (TX10 k).2.2.1 = some (tyX10 k) := by decide +kernel
abbrev cX10_init : ByteArray := prog_12_method_1_code
def yX10_init : MethodName := ⟨RX10, "<init>", "(LSidelessTown$Town;LSidelessTown$Saying;)V"⟩
abbrev cX10_lead : ByteArray := prog_12_method_2_code
def yX10_lead : MethodName := ⟨RX10, "lead", "(IZZI)I"⟩
abbrev cX10_end : ByteArray := prog_12_method_3_code
def yX10_end : MethodName := ⟨RX10, "end", "()I"⟩
abbrev cX10_partingOf : ByteArray := prog_12_method_4_code
def yX10_partingOf : MethodName := ⟨RX10, "partingOf", "(IZ)I"⟩
abbrev cX10_endsWithOneLost : ByteArray := prog_12_method_5_code
def yX10_endsWithOneLost : MethodName := ⟨RX10, "endsWithOneLost", "(I)I"⟩
abbrev cX10_meeting : ByteArray := prog_12_method_6_code
def yX10_meeting : MethodName := ⟨RX10, "meeting", "(II)I"⟩
def RX11 : String := "SidelessTown"
def TX11 : u_T := fun k => match k with
  | 0 => ("SidelessTown", "rows", "LSidelessTown$Rows;", true)
  | 1 => ("SidelessTown", "text", "LSidelessTown$Text;", true)
  | 2 => ("SidelessTown", "here", "LSidelessTown$Town;", true)
  | 3 => ("SidelessTown", "draftTown", "LSidelessTown$Town;", true)
  | 4 => ("SidelessTown", "told", "LSidelessTown$Saying;", true)
  | 5 => ("SidelessTown", "draftSaying", "LSidelessTown$Saying;", true)
  | 6 => ("SidelessTown", "firstImage", "LSidelessTown$Kept;", true)
  | 7 => ("SidelessTown", "secondImage", "LSidelessTown$Kept;", true)
  | 8 => ("SidelessTown", "walks", "LSidelessTown$Walks;", true)
  | 9 => ("SidelessTown", "goals", "LSidelessTown$Goals;", true)
  | 10 => ("SidelessTown", "search", "LSidelessTown$Search;", true)
  | 11 => ("SidelessTown", "layings", "LSidelessTown$Layings;", true)
  | 12 => ("SidelessTown", "asks", "LSidelessTown$Asks;", true)
  | _ => ("SidelessTown", "latestFinding", "I", false)
def tyX11 : Nat → FieldType := fun k => match k with
  | 0 => .object "SidelessTown$Rows"
  | 1 => .object "SidelessTown$Text"
  | 2 => .object "SidelessTown$Town"
  | 3 => .object "SidelessTown$Town"
  | 4 => .object "SidelessTown$Saying"
  | 5 => .object "SidelessTown$Saying"
  | 6 => .object "SidelessTown$Kept"
  | 7 => .object "SidelessTown$Kept"
  | 8 => .object "SidelessTown$Walks"
  | 9 => .object "SidelessTown$Goals"
  | 10 => .object "SidelessTown$Search"
  | 11 => .object "SidelessTown$Layings"
  | 12 => .object "SidelessTown$Asks"
  | _ => .int
abbrev wsX110 : List Cond := u_ws RX11 TX11 14
theorem nmX11 : ∀ a, a < 14 → ∀ b, b < 14 → a ≠ b → (TX11 a).2.1 ≠ (TX11 b).2.1 := by decide +kernel
theorem tyX11_ok : ∀ k, k < 14 → parseFieldDescriptor (TX11 k).2.2.1 = some (tyX11 k) := by decide +kernel
abbrev cX11_init : ByteArray := prog_1_method_1_code
def yX11_init : MethodName := ⟨RX11, "<init>", "()V"⟩
abbrev cX11_row : ByteArray := prog_1_method_2_code
def yX11_row : MethodName := ⟨RX11, "row", "(III)I"⟩
abbrev cX11_set : ByteArray := prog_1_method_3_code
def yX11_set : MethodName := ⟨RX11, "set", "(III)I"⟩
abbrev cX11_copy : ByteArray := prog_1_method_4_code
def yX11_copy : MethodName := ⟨RX11, "copy", "(IIIII)I"⟩
abbrev cX11_drop : ByteArray := prog_1_method_5_code
def yX11_drop : MethodName := ⟨RX11, "drop", "(I)I"⟩
abbrev cX11_feed : ByteArray := prog_1_method_6_code
def yX11_feed : MethodName := ⟨RX11, "feed", "(JI)I"⟩
abbrev cX11_town : ByteArray := prog_1_method_7_code
def yX11_town : MethodName := ⟨RX11, "town", "()I"⟩
abbrev cX11_say : ByteArray := prog_1_method_8_code
def yX11_say : MethodName := ⟨RX11, "say", "()I"⟩
abbrev cX11_words : ByteArray := prog_1_method_9_code
def yX11_words : MethodName := ⟨RX11, "words", "(III)I"⟩
abbrev cX11_fault : ByteArray := prog_1_method_10_code
def yX11_fault : MethodName := ⟨RX11, "fault", "()I"⟩
abbrev cX11_corner : ByteArray := prog_1_method_11_code
def yX11_corner : MethodName := ⟨RX11, "corner", "(II)I"⟩
abbrev cX11_mark : ByteArray := prog_1_method_12_code
def yX11_mark : MethodName := ⟨RX11, "mark", "(II)I"⟩
abbrev cX11_word : ByteArray := prog_1_method_13_code
def yX11_word : MethodName := ⟨RX11, "word", "(I)I"⟩
abbrev cX11_walk : ByteArray := prog_1_method_14_code
def yX11_walk : MethodName := ⟨RX11, "walk", "(IIII)I"⟩
abbrev cX11_parts : ByteArray := prog_1_method_15_code
def yX11_parts : MethodName := ⟨RX11, "parts", "(II)I"⟩
abbrev cX11_apart : ByteArray := prog_1_method_16_code
def yX11_apart : MethodName := ⟨RX11, "apart", "(II)I"⟩
abbrev cX11_shortest : ByteArray := prog_1_method_17_code
def yX11_shortest : MethodName := ⟨RX11, "shortest", "(IIII)I"⟩
abbrev cX11_soonest : ByteArray := prog_1_method_18_code
def yX11_soonest : MethodName := ⟨RX11, "soonest", "(II)I"⟩
abbrev cX11_laid : ByteArray := prog_1_method_19_code
def yX11_laid : MethodName := ⟨RX11, "laid", "(III)I"⟩
abbrev cX11_ends : ByteArray := prog_1_method_20_code
def yX11_ends : MethodName := ⟨RX11, "ends", "()I"⟩
abbrev cX11_lost : ByteArray := prog_1_method_21_code
def yX11_lost : MethodName := ⟨RX11, "lost", "(I)I"⟩
abbrev cX11_meet : ByteArray := prog_1_method_22_code
def yX11_meet : MethodName := ⟨RX11, "meet", "(III)I"⟩
abbrev cX11_gloves : ByteArray := prog_1_method_23_code
def yX11_gloves : MethodName := ⟨RX11, "gloves", "(III)I"⟩
abbrev cX11_image : ByteArray := prog_1_method_24_code
def yX11_image : MethodName := ⟨RX11, "image", "(I)I"⟩
abbrev cX11_restore : ByteArray := prog_1_method_25_code
def yX11_restore : MethodName := ⟨RX11, "restore", "(I)I"⟩
abbrev cX11_kind : ByteArray := prog_1_method_26_code
def yX11_kind : MethodName := ⟨RX11, "kind", "(I)I"⟩
abbrev cX11_as : ByteArray := prog_1_method_27_code
def yX11_as : MethodName := ⟨RX11, "as", "(II)I"⟩
abbrev cX11_ask : ByteArray := prog_1_method_28_code
def yX11_ask : MethodName := ⟨RX11, "ask", "(II)I"⟩
abbrev cX11_trace : ByteArray := prog_1_method_29_code
def yX11_trace : MethodName := ⟨RX11, "trace", "(I)I"⟩
abbrev cX11_count : ByteArray := prog_1_method_30_code
def yX11_count : MethodName := ⟨RX11, "count", "(I)I"⟩
abbrev cX11_status : ByteArray := prog_1_method_31_code
def yX11_status : MethodName := ⟨RX11, "status", "()I"⟩
abbrev cX11_found : ByteArray := prog_1_method_32_code
def yX11_found : MethodName := ⟨RX11, "found", "(I)I"⟩
abbrev cX11_fine : ByteArray := prog_1_method_33_code
def yX11_fine : MethodName := ⟨RX11, "fine", "(I)I"⟩
abbrev cX11_keptBy : ByteArray := prog_1_method_34_code
def yX11_keptBy : MethodName := ⟨RX11, "keptBy", "(I)LSidelessTown$Kept;"⟩
abbrev cX11_bit : ByteArray := prog_1_method_35_code
def yX11_bit : MethodName := ⟨RX11, "bit", "(I)Z"⟩
abbrev cX11_within : ByteArray := prog_1_method_36_code
def yX11_within : MethodName := ⟨RX11, "within", "(II)Z"⟩
abbrev cX11_commonMeasure : ByteArray := prog_1_method_37_code
def yX11_commonMeasure : MethodName := ⟨RX11, "commonMeasure", "(II)I"⟩
abbrev cX11_at : ByteArray := prog_1_method_38_code
def yX11_at : MethodName := ⟨RX11, "at", "([II)I"⟩
abbrev cX11_put : ByteArray := prog_1_method_39_code
def yX11_put : MethodName := ⟨RX11, "put", "([III)V"⟩
abbrev cX11_fill : ByteArray := prog_1_method_40_code
def yX11_fill : MethodName := ⟨RX11, "fill", "([II)V"⟩
abbrev cX11_putAll : ByteArray := prog_1_method_41_code
def yX11_putAll : MethodName := ⟨RX11, "putAll", "([I[I)V"⟩
def RX12 : String := "SidelessTownModel"
def TX12 : u_T := fun k => match k with
  | 0 => ("SidelessTownModel", "thrown", "I", false)
  | 1 => ("SidelessTownModel", "status", "I", false)
  | 2 => ("SidelessTownModel", "lane", "[I", true)
  | 3 => ("SidelessTownModel", "many", "[I", true)
  | 4 => ("SidelessTownModel", "item", "[I", true)
  | 5 => ("SidelessTownModel", "town", "[I", true)
  | 6 => ("SidelessTownModel", "fresh", "[I", true)
  | 7 => ("SidelessTownModel", "isThere", "Z", false)
  | 8 => ("SidelessTownModel", "saying", "[I", true)
  | 9 => ("SidelessTownModel", "freshSaying", "[I", true)
  | 10 => ("SidelessTownModel", "tape", "[I", true)
  | 11 => ("SidelessTownModel", "taped", "I", false)
  | 12 => ("SidelessTownModel", "latest", "I", false)
  | 13 => ("SidelessTownModel", "length", "I", false)
  | 14 => ("SidelessTownModel", "cursor", "I", false)
  | 15 => ("SidelessTownModel", "token", "I", false)
  | 16 => ("SidelessTownModel", "start", "I", false)
  | 17 => ("SidelessTownModel", "till", "I", false)
  | 18 => ("SidelessTownModel", "fault", "I", false)
  | 19 => ("SidelessTownModel", "faultAt", "I", false)
  | 20 => ("SidelessTownModel", "at", "I", false)
  | 21 => ("SidelessTownModel", "came", "I", false)
  | 22 => ("SidelessTownModel", "hasHand", "Z", false)
  | 23 => ("SidelessTownModel", "otherAt", "I", false)
  | 24 => ("SidelessTownModel", "otherCame", "I", false)
  | 25 => ("SidelessTownModel", "otherHand", "Z", false)
  | 26 => ("SidelessTownModel", "classOf", "[I", true)
  | 27 => ("SidelessTownModel", "nextOf", "[I", true)
  | 28 => ("SidelessTownModel", "behind", "[I", true)
  | 29 => ("SidelessTownModel", "byWord", "[I", true)
  | 30 => ("SidelessTownModel", "far", "[I", true)
  | 31 => ("SidelessTownModel", "queue", "[I", true)
  | 32 => ("SidelessTownModel", "queued", "I", false)
  | 33 => ("SidelessTownModel", "laid", "[I", true)
  | 34 => ("SidelessTownModel", "foundWays", "I", false)
  | 35 => ("SidelessTownModel", "fixedSet", "I", false)
  | 36 => ("SidelessTownModel", "isKept", "[Z", true)
  | 37 => ("SidelessTownModel", "keptTown", "[I", true)
  | 38 => ("SidelessTownModel", "keptSaying", "[I", true)
  | 39 => ("SidelessTownModel", "trace", "[I", true)
  | _ => ("SidelessTownModel", "traced", "I", false)
def tyX12 : Nat → FieldType := fun k => match k with
  | 0 => .int
  | 1 => .int
  | 2 => .array .int
  | 3 => .array .int
  | 4 => .array .int
  | 5 => .array .int
  | 6 => .array .int
  | 7 => .boolean
  | 8 => .array .int
  | 9 => .array .int
  | 10 => .array .int
  | 11 => .int
  | 12 => .int
  | 13 => .int
  | 14 => .int
  | 15 => .int
  | 16 => .int
  | 17 => .int
  | 18 => .int
  | 19 => .int
  | 20 => .int
  | 21 => .int
  | 22 => .boolean
  | 23 => .int
  | 24 => .int
  | 25 => .boolean
  | 26 => .array .int
  | 27 => .array .int
  | 28 => .array .int
  | 29 => .array .int
  | 30 => .array .int
  | 31 => .array .int
  | 32 => .int
  | 33 => .array .int
  | 34 => .int
  | 35 => .int
  | 36 => .array .boolean
  | 37 => .array .int
  | 38 => .array .int
  | 39 => .array .int
  | _ => .int
abbrev wsX120 : List Cond := u_ws RX12 TX12 41
theorem nmX12 : ∀ a, a < 41 → ∀ b, b < 41 → a ≠ b → (TX12 a).2.1 ≠ (TX12 b).2.1 := by decide +kernel
theorem tyX12_ok : ∀ k, k < 41 → parseFieldDescriptor (TX12 k).2.2.1 = some (tyX12 k) := by decide +kernel
abbrev cX12_init : ByteArray := prog_14_method_1_code
def yX12_init : MethodName := ⟨RX12, "<init>", "()V"⟩
abbrev cX12_in : ByteArray := prog_14_method_3_code
def yX12_in : MethodName := ⟨RX12, "in", "(JJJ)Z"⟩
abbrev cX12_finding : ByteArray := prog_14_method_4_code
def yX12_finding : MethodName := ⟨RX12, "finding", "(I)I"⟩
abbrev cX12_isRow : ByteArray := prog_14_method_5_code
def yX12_isRow : MethodName := ⟨RX12, "isRow", "(I)Z"⟩
abbrev cX12_row : ByteArray := prog_14_method_6_code
def yX12_row : MethodName := ⟨RX12, "row", "(III)I"⟩
abbrev cX12_set : ByteArray := prog_14_method_7_code
def yX12_set : MethodName := ⟨RX12, "set", "(III)I"⟩
abbrev cX12_copy : ByteArray := prog_14_method_8_code
def yX12_copy : MethodName := ⟨RX12, "copy", "(IIIII)I"⟩
abbrev cX12_drop : ByteArray := prog_14_method_9_code
def yX12_drop : MethodName := ⟨RX12, "drop", "(I)I"⟩
abbrev cX12_feed : ByteArray := prog_14_method_10_code
def yX12_feed : MethodName := ⟨RX12, "feed", "(JI)I"⟩
abbrev cX12_byteAt : ByteArray := prog_14_method_11_code
def yX12_byteAt : MethodName := ⟨RX12, "byteAt", "(I)I"⟩
abbrev cX12_isLetter : ByteArray := prog_14_method_12_code
def yX12_isLetter : MethodName := ⟨RX12, "isLetter", "(I)Z"⟩
abbrev cX12_isFigure : ByteArray := prog_14_method_13_code
def yX12_isFigure : MethodName := ⟨RX12, "isFigure", "(I)Z"⟩
abbrev cX12_next : ByteArray := prog_14_method_14_code
def yX12_next : MethodName := ⟨RX12, "next", "()V"⟩
abbrev cX12_begin : ByteArray := prog_14_method_15_code
def yX12_begin : MethodName := ⟨RX12, "begin", "()V"⟩
abbrev cX12_bad : ByteArray := prog_14_method_16_code
def yX12_bad : MethodName := ⟨RX12, "bad", "(I)V"⟩
abbrev cX12_must : ByteArray := prog_14_method_17_code
def yX12_must : MethodName := ⟨RX12, "must", "(Z)V"⟩
abbrev cX12_name : ByteArray := prog_14_method_18_code
def yX12_name : MethodName := ⟨RX12, "name", "()J"⟩
abbrev cX12_figures : ByteArray := prog_14_method_19_code
def yX12_figures : MethodName := ⟨RX12, "figures", "()I"⟩
abbrev cX12_number : ByteArray := prog_14_method_20_code
def yX12_number : MethodName := ⟨RX12, "number", "(II)I"⟩
abbrev cX12_wordOf : ByteArray := prog_14_method_21_code
def yX12_wordOf : MethodName := ⟨RX12, "wordOf", "(J)I"⟩
abbrev cX12_begins : ByteArray := prog_14_method_22_code
def yX12_begins : MethodName := ⟨RX12, "begins", "(II)V"⟩
abbrev cX12_mustEnd : ByteArray := prog_14_method_23_code
def yX12_mustEnd : MethodName := ⟨RX12, "mustEnd", "()V"⟩
abbrev cX12_readCorner : ByteArray := prog_14_method_24_code
def yX12_readCorner : MethodName := ⟨RX12, "readCorner", "()V"⟩
abbrev cX12_isJoined : ByteArray := prog_14_method_25_code
def yX12_isJoined : MethodName := ⟨RX12, "isJoined", "(II)Z"⟩
abbrev cX12_end : ByteArray := prog_14_method_26_code
def yX12_end : MethodName := ⟨RX12, "end", "(I)I"⟩
abbrev cX12_readStreet : ByteArray := prog_14_method_27_code
def yX12_readStreet : MethodName := ⟨RX12, "readStreet", "()V"⟩
abbrev cX12_ends : ByteArray := prog_14_method_28_code
def yX12_ends : MethodName := ⟨RX12, "ends", "(I)I"⟩
abbrev cX12_town : ByteArray := prog_14_method_29_code
def yX12_town : MethodName := ⟨RX12, "town", "()I"⟩
abbrev cX12_say : ByteArray := prog_14_method_30_code
def yX12_say : MethodName := ⟨RX12, "say", "()I"⟩
abbrev cX12_isWordNumber : ByteArray := prog_14_method_31_code
def yX12_isWordNumber : MethodName := ⟨RX12, "isWordNumber", "(I)Z"⟩
abbrev cX12_words : ByteArray := prog_14_method_32_code
def yX12_words : MethodName := ⟨RX12, "words", "(III)I"⟩
abbrev cX12_fault : ByteArray := prog_14_method_33_code
def yX12_fault : MethodName := ⟨RX12, "fault", "()I"⟩
abbrev cX12_isCorner : ByteArray := prog_14_method_34_code
def yX12_isCorner : MethodName := ⟨RX12, "isCorner", "(I)Z"⟩
abbrev cX12_corner : ByteArray := prog_14_method_35_code
def yX12_corner : MethodName := ⟨RX12, "corner", "(II)I"⟩
abbrev cX12_mark : ByteArray := prog_14_method_36_code
def yX12_mark : MethodName := ⟨RX12, "mark", "(II)I"⟩
abbrev cX12_word : ByteArray := prog_14_method_37_code
def yX12_word : MethodName := ⟨RX12, "word", "(I)I"⟩
abbrev cX12_starts : ByteArray := prog_14_method_38_code
def yX12_starts : MethodName := ⟨RX12, "starts", "(I)V"⟩
abbrev cX12_slope : ByteArray := prog_14_method_39_code
def yX12_slope : MethodName := ⟨RX12, "slope", "(IZ)I"⟩
abbrev cX12_marked : ByteArray := prog_14_method_40_code
def yX12_marked : MethodName := ⟨RX12, "marked", "(II)I"⟩
abbrev cX12_besides : ByteArray := prog_14_method_41_code
def yX12_besides : MethodName := ⟨RX12, "besides", "(I)I"⟩
abbrev cX12_streetBy : ByteArray := prog_14_method_42_code
def yX12_streetBy : MethodName := ⟨RX12, "streetBy", "(IZZ)I"⟩
abbrev cX12_goes : ByteArray := prog_14_method_43_code
def yX12_goes : MethodName := ⟨RX12, "goes", "(IZZ)Z"⟩
abbrev cX12_walks : ByteArray := prog_14_method_44_code
def yX12_walks : MethodName := ⟨RX12, "walks", "(IZZI)I"⟩
abbrev cX12_walk : ByteArray := prog_14_method_45_code
def yX12_walk : MethodName := ⟨RX12, "walk", "(IIII)I"⟩
abbrev cX12_change : ByteArray := prog_14_method_46_code
def yX12_change : MethodName := ⟨RX12, "change", "()V"⟩
abbrev cX12_startTwo : ByteArray := prog_14_method_47_code
def yX12_startTwo : MethodName := ⟨RX12, "startTwo", "(II)V"⟩
abbrev cX12_parts : ByteArray := prog_14_method_48_code
def yX12_parts : MethodName := ⟨RX12, "parts", "(II)I"⟩
abbrev cX12_plainWord : ByteArray := prog_14_method_49_code
def yX12_plainWord : MethodName := ⟨RX12, "plainWord", "(I)I"⟩
abbrev cX12_classBy : ByteArray := prog_14_method_50_code
def yX12_classBy : MethodName := ⟨RX12, "classBy", "(II)I"⟩
abbrev cX12_areAlike : ByteArray := prog_14_method_51_code
def yX12_areAlike : MethodName := ⟨RX12, "areAlike", "(II)Z"⟩
abbrev cX12_splits : ByteArray := prog_14_method_52_code
def yX12_splits : MethodName := ⟨RX12, "splits", "()I"⟩
abbrev cX12_apart : ByteArray := prog_14_method_53_code
def yX12_apart : MethodName := ⟨RX12, "apart", "(II)I"⟩
abbrev cX12_sought : ByteArray := prog_14_method_54_code
def yX12_sought : MethodName := ⟨RX12, "sought", "(I)I"⟩
abbrev cX12_stateNow : ByteArray := prog_14_method_55_code
def yX12_stateNow : MethodName := ⟨RX12, "stateNow", "()I"⟩
abbrev cX12_beAt : ByteArray := prog_14_method_56_code
def yX12_beAt : MethodName := ⟨RX12, "beAt", "(I)V"⟩
abbrev cX12_reach : ByteArray := prog_14_method_57_code
def yX12_reach : MethodName := ⟨RX12, "reach", "(II)V"⟩
abbrev cX12_seek : ByteArray := prog_14_method_58_code
def yX12_seek : MethodName := ⟨RX12, "seek", "(IZ)V"⟩
abbrev cX12_firstAt : ByteArray := prog_14_method_59_code
def yX12_firstAt : MethodName := ⟨RX12, "firstAt", "(I)I"⟩
abbrev cX12_shortest : ByteArray := prog_14_method_60_code
def yX12_shortest : MethodName := ⟨RX12, "shortest", "(IIII)I"⟩
abbrev cX12_soonest : ByteArray := prog_14_method_61_code
def yX12_soonest : MethodName := ⟨RX12, "soonest", "(II)I"⟩
abbrev cX12_isNear : ByteArray := prog_14_method_62_code
def yX12_isNear : MethodName := ⟨RX12, "isNear", "(II)Z"⟩
abbrev cX12_fits : ByteArray := prog_14_method_63_code
def yX12_fits : MethodName := ⟨RX12, "fits", "(II)Z"⟩
abbrev cX12_turnsAbout : ByteArray := prog_14_method_64_code
def yX12_turnsAbout : MethodName := ⟨RX12, "turnsAbout", "(IZ)Z"⟩
abbrev cX12_isWay : ByteArray := prog_14_method_65_code
def yX12_isWay : MethodName := ⟨RX12, "isWay", "(Z)Z"⟩
abbrev cX12_fixedNow : ByteArray := prog_14_method_66_code
def yX12_fixedNow : MethodName := ⟨RX12, "fixedNow", "()I"⟩
abbrev cX12_layWay : ByteArray := prog_14_method_67_code
def yX12_layWay : MethodName := ⟨RX12, "layWay", "(ZI)Z"⟩
abbrev cX12_laid : ByteArray := prog_14_method_68_code
def yX12_laid : MethodName := ⟨RX12, "laid", "(III)I"⟩
abbrev cX12_ends_ : ByteArray := prog_14_method_69_code
def yX12_ends_ : MethodName := ⟨RX12, "ends", "()I"⟩
abbrev cX12_lost : ByteArray := prog_14_method_70_code
def yX12_lost : MethodName := ⟨RX12, "lost", "(I)I"⟩
abbrev cX12_meets : ByteArray := prog_14_method_71_code
def yX12_meets : MethodName := ⟨RX12, "meets", "(II)I"⟩
abbrev cX12_plainTo : ByteArray := prog_14_method_72_code
def yX12_plainTo : MethodName := ⟨RX12, "plainTo", "(II)I"⟩
abbrev cX12_soon : ByteArray := prog_14_method_73_code
def yX12_soon : MethodName := ⟨RX12, "soon", "(II)I"⟩
abbrev cX12_meet : ByteArray := prog_14_method_74_code
def yX12_meet : MethodName := ⟨RX12, "meet", "(III)I"⟩
abbrev cX12_gloves : ByteArray := prog_14_method_75_code
def yX12_gloves : MethodName := ⟨RX12, "gloves", "(III)I"⟩
abbrev cX12_image : ByteArray := prog_14_method_76_code
def yX12_image : MethodName := ⟨RX12, "image", "(I)I"⟩
abbrev cX12_restore : ByteArray := prog_14_method_77_code
def yX12_restore : MethodName := ⟨RX12, "restore", "(I)I"⟩
abbrev cX12_isWord : ByteArray := prog_14_method_78_code
def yX12_isWord : MethodName := ⟨RX12, "isWord", "(I)Z"⟩
abbrev cX12_wordAt : ByteArray := prog_14_method_79_code
def yX12_wordAt : MethodName := ⟨RX12, "wordAt", "(I)I"⟩
abbrev cX12_kindOf : ByteArray := prog_14_method_80_code
def yX12_kindOf : MethodName := ⟨RX12, "kindOf", "(I)I"⟩
abbrev cX12_isOf : ByteArray := prog_14_method_81_code
def yX12_isOf : MethodName := ⟨RX12, "isOf", "(II)Z"⟩
abbrev cX12_kind : ByteArray := prog_14_method_82_code
def yX12_kind : MethodName := ⟨RX12, "kind", "(I)I"⟩
abbrev cX12_as : ByteArray := prog_14_method_83_code
def yX12_as : MethodName := ⟨RX12, "as", "(II)I"⟩
abbrev cX12_began : ByteArray := prog_14_method_84_code
def yX12_began : MethodName := ⟨RX12, "began", "(I)V"⟩
abbrev cX12_plainSize : ByteArray := prog_14_method_85_code
def yX12_plainSize : MethodName := ⟨RX12, "plainSize", "(I)I"⟩
abbrev cX12_takenSize : ByteArray := prog_14_method_86_code
def yX12_takenSize : MethodName := ⟨RX12, "takenSize", "(I)I"⟩
abbrev cX12_markOf : ByteArray := prog_14_method_87_code
def yX12_markOf : MethodName := ⟨RX12, "markOf", "(I)I"⟩
abbrev cX12_turnedSize : ByteArray := prog_14_method_88_code
def yX12_turnedSize : MethodName := ⟨RX12, "turnedSize", "(I)I"⟩
abbrev cX12_sizeOf : ByteArray := prog_14_method_89_code
def yX12_sizeOf : MethodName := ⟨RX12, "sizeOf", "(I)I"⟩
abbrev cX12_ask : ByteArray := prog_14_method_90_code
def yX12_ask : MethodName := ⟨RX12, "ask", "(II)I"⟩
abbrev cX12_trace : ByteArray := prog_14_method_91_code
def yX12_trace : MethodName := ⟨RX12, "trace", "(I)I"⟩
abbrev cX12_count : ByteArray := prog_14_method_92_code
def yX12_count : MethodName := ⟨RX12, "count", "(I)I"⟩
abbrev cX12_status : ByteArray := prog_14_method_93_code
def yX12_status : MethodName := ⟨RX12, "status", "()I"⟩
def RJ9 : String := "java/lang/Math"
def TJ9 : u_T := fun k => match k with
  | _ => ("", "", "", false)
def tyJ9 : Nat → FieldType := fun k => match k with
  | _ => .int
abbrev wsJ90 : List Cond := u_ws RJ9 TJ9 0
theorem nmJ9 : ∀ a, a < 0 → ∀ b, b < 0 → a ≠ b → (TJ9 a).2.1 ≠ (TJ9 b).2.1 := by decide +kernel
theorem tyJ9_ok : ∀ k, k < 0 → parseFieldDescriptor (TJ9 k).2.2.1 = some (tyJ9 k) := by decide +kernel
abbrev cJ9_floorMod_7cf53 : ByteArray := prog_15_method_50_code
def yJ9_floorMod_7cf53 : MethodName := ⟨RJ9, "floorMod", "(II)I"⟩
abbrev cJ9_max_7cf53 : ByteArray := prog_15_method_65_code
def yJ9_max_7cf53 : MethodName := ⟨RJ9, "max", "(II)I"⟩
abbrev cJ9_min_7cf53 : ByteArray := prog_15_method_69_code
def yJ9_min_7cf53 : MethodName := ⟨RJ9, "min", "(II)I"⟩
def RJ0 : String := "java/lang/String"
def TJ0 : u_T := fun k => match k with
  | _ => ("", "", "", false)
def tyJ0 : Nat → FieldType := fun k => match k with
  | _ => .int
abbrev wsJ00 : List Cond := u_ws RJ0 TJ0 0
theorem nmJ0 : ∀ a, a < 0 → ∀ b, b < 0 → a ≠ b → (TJ0 a).2.1 ≠ (TJ0 b).2.1 := by decide +kernel
theorem tyJ0_ok : ∀ k, k < 0 → parseFieldDescriptor (TJ0 k).2.2.1 = some (tyJ0 k) := by decide +kernel
abbrev cJ0_length_8abf5 : ByteArray := prog_16_method_54_code
def yJ0_length_8abf5 : MethodName := ⟨RJ0, "length", "()I"⟩
abbrev cJ0_charAt_5068e : ByteArray := prog_16_method_56_code
def yJ0_charAt_5068e : MethodName := ⟨RJ0, "charAt", "(I)C"⟩
abbrev cJ0_coder_7d493 : ByteArray := prog_16_method_152_code
def yJ0_coder_7d493 : MethodName := ⟨RJ0, "coder", "()B"⟩
abbrev cJ0_isLatin1_aae02 : ByteArray := prog_16_method_154_code
def yJ0_isLatin1_aae02 : MethodName := ⟨RJ0, "isLatin1", "()Z"⟩
abbrev cJ0_checkIndex_df160 : ByteArray := prog_16_method_155_code
def yJ0_checkIndex_df160 : MethodName := ⟨RJ0, "checkIndex", "(II)V"⟩
def RJ1 : String := "java/lang/StringLatin1"
def TJ1 : u_T := fun k => match k with
  | _ => ("", "", "", false)
def tyJ1 : Nat → FieldType := fun k => match k with
  | _ => .int
abbrev wsJ10 : List Cond := u_ws RJ1 TJ1 0
theorem nmJ1 : ∀ a, a < 0 → ∀ b, b < 0 → a ≠ b → (TJ1 a).2.1 ≠ (TJ1 b).2.1 := by decide +kernel
theorem tyJ1_ok : ∀ k, k < 0 → parseFieldDescriptor (TJ1 k).2.2.1 = some (tyJ1 k) := by decide +kernel
abbrev cJ1_charAt_3b067 : ByteArray := prog_17_method_2_code
def yJ1_charAt_3b067 : MethodName := ⟨RJ1, "charAt", "([BI)C"⟩
def RJ2 : String := "java/lang/StringUTF16"
def TJ2 : u_T := fun k => match k with
  | _ => ("", "", "", false)
def tyJ2 : Nat → FieldType := fun k => match k with
  | _ => .int
abbrev wsJ20 : List Cond := u_ws RJ2 TJ2 0
theorem nmJ2 : ∀ a, a < 0 → ∀ b, b < 0 → a ≠ b → (TJ2 a).2.1 ≠ (TJ2 b).2.1 := by decide +kernel
theorem tyJ2_ok : ∀ k, k < 0 → parseFieldDescriptor (TJ2 k).2.2.1 = some (tyJ2 k) := by decide +kernel
abbrev cJ2_getChar_3b067 : ByteArray := prog_18_method_5_code
def yJ2_getChar_3b067 : MethodName := ⟨RJ2, "getChar", "([BI)C"⟩
abbrev cJ2_length_9d52b : ByteArray := prog_18_method_6_code
def yJ2_length_9d52b : MethodName := ⟨RJ2, "length", "([B)I"⟩
abbrev cJ2_charAt_3b067 : ByteArray := prog_18_method_83_code
def yJ2_charAt_3b067 : MethodName := ⟨RJ2, "charAt", "([BI)C"⟩
abbrev cJ2_checkIndex_2214a : ByteArray := prog_18_method_91_code
def yJ2_checkIndex_2214a : MethodName := ⟨RJ2, "checkIndex", "(I[B)V"⟩
def RJ3 : String := "jdk/internal/util/Preconditions"
def TJ3 : u_T := fun k => match k with
  | _ => ("", "", "", false)
def tyJ3 : Nat → FieldType := fun k => match k with
  | _ => .int
abbrev wsJ30 : List Cond := u_ws RJ3 TJ3 0
theorem nmJ3 : ∀ a, a < 0 → ∀ b, b < 0 → a ≠ b → (TJ3 a).2.1 ≠ (TJ3 b).2.1 := by decide +kernel
theorem tyJ3_ok : ∀ k, k < 0 → parseFieldDescriptor (TJ3 k).2.2.1 = some (tyJ3 k) := by decide +kernel
abbrev cJ3_checkIndex_8e157 : ByteArray := prog_19_method_11_code
def yJ3_checkIndex_8e157 : MethodName := ⟨RJ3, "checkIndex", "(IILjava/util/function/BiFunction;)I"⟩
def RL : String := "SidelessTownLaw"
abbrev cL_law : ByteArray := code
def yL_law : MethodName := ⟨RL, "law", "([I)Z"⟩
abbrev vwCl : List vw_C := [(RX0, TX0, 6), (RX1, TX1, 8), (RX2, TX2, 3), (RX3, TX3, 5), (RX4, TX4, 3), (RX5, TX5, 2), (RX6, TX6, 8), (RX7, TX7, 10), (RX8, TX8, 8), (RX9, TX9, 6), (RX10, TX10, 3), (RX11, TX11, 14), (RX12, TX12, 41)]
theorem inX0 : ∀ w ∈ wsX00, w ∈ lw_T := by decide +kernel
theorem inX1 : ∀ w ∈ wsX10, w ∈ lw_T := by decide +kernel
theorem inX2 : ∀ w ∈ wsX20, w ∈ lw_T := by decide +kernel
theorem inX3 : ∀ w ∈ wsX30, w ∈ lw_T := by decide +kernel
theorem inX4 : ∀ w ∈ wsX40, w ∈ lw_T := by decide +kernel
theorem inX5 : ∀ w ∈ wsX50, w ∈ lw_T := by decide +kernel
theorem inX6 : ∀ w ∈ wsX60, w ∈ lw_T := by decide +kernel
theorem inX7 : ∀ w ∈ wsX70, w ∈ lw_T := by decide +kernel
theorem inX8 : ∀ w ∈ wsX80, w ∈ lw_T := by decide +kernel
theorem inX9 : ∀ w ∈ wsX90, w ∈ lw_T := by decide +kernel
theorem inX10 : ∀ w ∈ wsX100, w ∈ lw_T := by decide +kernel
theorem inX11 : ∀ w ∈ wsX110, w ∈ lw_T := by decide +kernel
theorem inX12 : ∀ w ∈ wsX120, w ∈ lw_T := by decide +kernel
end
section
/-! AN ABSTRACT MACHINE: cells by their numbers, not their addresses. A method is a table of instructions, held against its bytes by a program. -/
abbrev am_C : Type := (Nat × Nat × (Nat → Int32)) ⊕ (Nat × List Value)
abbrev am_H : Type := Nat → am_C
abbrev am_J : Type := Instr × Nat × List Nat × MethodName × Value
/-- a method: its name, bytes, locals, answer, how many bytes, its table -/
abbrev am_M : Type := MethodName × ByteArray × Nat × Option FieldType × Nat × (Nat → Option am_J)
def am_at (M : am_M) (pc : Nat) : Option am_J := if pc < M.2.2.2.2.1 then M.2.2.2.2.2 pc else none
def am_len (i : Instr) (d : Nat) : Nat := match i with
  | .bipush _ => 2
  | .iload _ => 2
  | .istore _ => 2
  | .aload _ => 2
  | .astore _ => 2
  | .lload _ => 2
  | .lstore _ => 2
  | .ldc _ => 2
  | .newarray _ => 2
  | .sipush _ => 3
  | .iinc _ _ => 3
  | .ifCond _ _ => 3
  | .if_icmp _ _ => 3
  | .goto _ => 3
  | .getfield _ => 3
  | .putfield _ => 3
  | .getstatic _ => 3
  | .invokevirtual _ => 3
  | .invokestatic _ => 3
  | .invokespecial _ => 3
  | .new _ => 3
  | .ldc_w _ => 3
  | .ldc2_w _ => 3
  | .tableswitch _ _ _ _ => d
  | .lookupswitch _ _ => d
  | _ => 1
def am_word (i : Nat) (w : Cond) : Bool := decide (lw_tbl[i]? = some w) && goodWord w
def am_1 (x : List Nat) (f : Nat → Bool) : Bool := match x with
  | [a] => f a
  | _ => false
def am_2 (x : List Nat) (f : Nat → Nat → Bool) : Bool := match x with
  | [a, b] => f a b
  | _ => false
def am_3 (x : List Nat) (f : Nat → Nat → Nat → Bool) : Bool := match x with
  | [a, b, c] => f a b c
  | _ => false
def am_4 (x : List Nat) (f : Nat → Nat → Nat → Nat → Bool) : Bool := match x with
  | [a, b, c, d] => f a b c d
  | _ => false
def am_ii (v : Value) (f : Int32 → Bool) : Bool := match v with
  | .int a => f a
  | _ => false
def am_ll (v : Value) (f : Int64 → Bool) : Bool := match v with
  | .long a => f a
  | _ => false
def am_fld (own : String) (idx ci k i : Nat) (put : Bool) : Bool := match vwCl[ci]? with
  | some q => decide (k < q.2.2) && am_word i (.fieldLink own idx (q.2.1 k).1 (q.2.1 k).2.1 (q.2.1 k).2.2.1) && (!put || !(q.2.1 k).2.2.2 || decide ((q.2.1 k).1 = own))
  | none => false
/-- the texts -/
def am_txt : List (Nat × String × List Int32) := [(166, "up", [117, 112]), (168, "down", [100, 111, 119, 110]), (170, "mark", [109, 97, 114, 107]), (172, "on", [111, 110]), (174, "back", [98, 97, 99, 107]), (176, "hand", [104, 97, 110, 100]), (178, "other", [111, 116, 104, 101, 114]), (180, "take", [116, 97, 107, 101]), (182, "corner", [99, 111, 114, 110, 101, 114]), (184, "street", [115, 116, 114, 101, 101, 116]), (186, "well", [119, 101, 108, 108]), (188, "", [])]
def am_tx (k : Nat) : Nat × String × List Int32 := am_txt.getD k (0, "", [])
def am_byt : List (List Int32) := am_txt.map fun q => q.2.2
def am_lens : List Nat := am_txt.map fun q => q.2.2.length
def am_ldcOk (own : String) (idx : Nat) (x : List Nat) (v : Value) : Bool := match v with
  | .int a => am_1 x fun i => am_word i (.constant own idx a)
  | .ref q => decide (1000 ≤ q) && (decide (q < 1012) && (decide (own = RX7) && decide ((am_tx (q - 1000)).1 = idx)))
  | _ => false
def am_nest (w : Cond) : Bool := match w with
  | .methodLinkNest _ _ _ _ => true
  | .fieldLinkNest _ _ _ _ _ _ => true
  | _ => false
def am_linkN (own : String) (idx i : Nat) (y : MethodName) : Bool := match lw_tbl[i]? with
  | some (.methodLinkNest o ix y' _) => decide (o = own) && (decide (ix = idx) && decide (y' = y))
  | _ => false
/-- a call's link: plain (0), of a nest mate (1) -/
def am_link (own : String) (idx : Nat) (x : List Nat) (y : MethodName) : Bool := am_2 x fun k i => match k with
  | 0 => am_word i (.methodLink own idx y)
  | _ => am_linkN own idx i y
def am_okX (own : String) (pc : Nat) (i : Instr) (x : List Nat) (y : MethodName) (v : Value) : Bool := match i with
  | .iconst n => decide (v = .int (Int32.ofInt n))
  | .bipush n => decide (v = .int (Int8.ofInt n).toInt32)
  | .sipush n => decide (v = .int (Int16.ofInt n).toInt32)
  | .lconst n => decide (v = .long (Int64.ofNat (n : Nat)))
  | .iinc _ n => decide (v = .int (Int32.ofInt n))
  | .ldc idx => am_ldcOk own idx x v
  | .ldc_w idx => am_1 x fun i => am_ii v fun a => am_word i (.constant own idx a)
  | .ldc2_w idx => am_1 x fun i => am_ll v fun a => am_word i (.constantLong own idx a)
  | .goto o => am_1 x fun t => decide ((pc : Int) + o = (t : Int))
  | .ifCond _ o => am_1 x fun t => decide ((pc : Int) + o = (t : Int))
  | .if_icmp _ o => am_1 x fun t => decide ((pc : Int) + o = (t : Int))
  | .tableswitch d _ _ os => decide (((pc : Int) + d) :: os.toList.map (fun o => (pc : Int) + o) = x.map Int.ofNat)
  | .lookupswitch d ps => decide (((pc : Int) + d) :: ps.toList.map (fun o => (pc : Int) + o.2) = x.map Int.ofNat) && (ps.toList.zip (ps.toList.drop 1)).all (fun (a, next) => a.1 < next.1)
  | .getfield idx => am_3 x fun ci k i => am_fld own idx ci k i false
  | .putfield idx => am_3 x fun ci k i => am_fld own idx ci k i true
  | .invokevirtual idx => am_link own idx x y
  | .invokestatic idx => am_link own idx x y
  | .invokespecial idx => am_link own idx x y
  | .new idx => am_4 x fun ci i1 i2 i3 => match vwCl[ci]? with
    | some q => am_word i1 (.classLink own idx q.1) && (am_word i2 (.instantiable q.1 q.2.2) && am_word i3 (.initialized q.1))
    | none => false
  | .newarray t => am_1 x fun i => am_word i (.arrayClass (newarray.typeOf t))
  | _ => true
def am_okJ (M : am_M) (pc : Nat) (j : am_J) : Bool := decide (decode M.2.1 pc = .ok (j.1, am_len j.1 (j.2.1 - pc))) && (decide (j.2.1 = pc + am_len j.1 (j.2.1 - pc)) && am_okX M.1.cls pc j.1 j.2.2.1 j.2.2.2.1 j.2.2.2.2)
def am_okM (M : am_M) : Bool := (List.range M.2.2.2.2.1).all fun pc => match M.2.2.2.2.2 pc with
  | none => true
  | some j => am_okJ M pc j
theorem am_okM_at {M : am_M} (h : am_okM M = true) {pc : Nat} {j : am_J} (hj : am_at M pc = some j) : am_okJ M pc j = true := by
  unfold am_at at hj
  by_cases hp : pc < M.2.2.2.2.1
  · rw [if_pos hp] at hj
    have h1 := List.all_eq_true.mp h pc (List.mem_range.mpr hp)
    rw [hj] at h1
    exact h1
  · rw [if_neg hp] at hj
    cases hj
theorem am_okM_dec {M : am_M} (h : am_okM M = true) {pc nx : Nat} {i : Instr} {x : List Nat} {y : MethodName} {v : Value} (hj : am_at M pc = some (i, nx, x, y, v)) : decode M.2.1 pc = .ok (i, am_len i (nx - pc)) ∧ nx = pc + am_len i (nx - pc) ∧ am_okX M.1.cls pc i x y v = true := by
  have h1 := am_okM_at h hj
  unfold am_okJ at h1
  rw [Bool.and_eq_true, Bool.and_eq_true, decide_eq_true_eq, decide_eq_true_eq] at h1
  exact h1
theorem am_word_in {i : Nat} {w : Cond} (h : am_word i w = true) : w ∈ lw_T := by
  unfold am_word at h
  rw [Bool.and_eq_true, decide_eq_true_eq] at h
  exact lw_T_of h.1 h.2
/-! values -/
def am_R (as : Nat → Nat) (n : Nat) (v rv : Value) : Prop := match v with
  | .ref k => (k < n ∨ 1000 ≤ k) ∧ rv = .ref (as k)
  | w => rv = w
def am_Vs (as : Nat → Nat) (n : Nat) : List Value → List Value → Prop
  | [], [] => True
  | a :: l, b :: m => am_R as n a b ∧ am_Vs as n l m
  | _, _ => False
def am_E (as as' : Nat → Nat) (n n' : Nat) : Prop := n ≤ n' ∧ ∀ k, (k < n ∨ 1000 ≤ k) → as' k = as k
theorem am_E.rf {as : Nat → Nat} {n : Nat} : am_E as as n n := ⟨Nat.le_refl _, fun _ _ => rfl⟩
theorem am_E.trans {a b c : Nat → Nat} {n n' n'' : Nat} (h1 : am_E a b n n') (h2 : am_E b c n' n'') : am_E a c n n'' := ⟨Nat.le_trans h1.1 h2.1, fun k hk => (h2.2 k (hk.elim (fun h => Or.inl (Nat.lt_of_lt_of_le h h1.1)) Or.inr)).trans (h1.2 k hk)⟩
theorem am_R.mono {as as' : Nat → Nat} {n n' : Nat} (hE : am_E as as' n n') {v rv : Value} (h : am_R as n v rv) : am_R as' n' v rv := by
  cases v with
  | ref k =>
    obtain ⟨h1, h2⟩ := h
    exact ⟨h1.elim (fun h => Or.inl (Nat.lt_of_lt_of_le h hE.1)) Or.inr, by rw [h2, hE.2 k h1]⟩
  | _ => exact h
theorem am_Vs.mono {as as' : Nat → Nat} {n n' : Nat} (hE : am_E as as' n n') : ∀ {l m : List Value}, am_Vs as n l m → am_Vs as' n' l m
  | [], [], _ => trivial
  | _ :: _, _ :: _, h => ⟨h.1.mono hE, am_Vs.mono hE h.2⟩
theorem am_Vs.len {as : Nat → Nat} {n : Nat} : ∀ {l m : List Value}, am_Vs as n l m → m.length = l.length
  | [], [], _ => rfl
  | _ :: _, _ :: _, h => by simp [am_Vs.len h.2]
theorem am_Vs.get {as : Nat → Nat} {n : Nat} : ∀ {l m : List Value}, am_Vs as n l m → ∀ {k : Nat} {v : Value}, l[k]? = some v → ∃ rv, m[k]? = some rv ∧ am_R as n v rv
  | [], [], _, k, v, hk => by simp at hk
  | a :: l, b :: m, h, 0, v, hk => ⟨b, rfl, by simp at hk; rw [← hk]; exact h.1⟩
  | a :: l, b :: m, h, k + 1, v, hk => by simpa using am_Vs.get h.2 (k := k) (v := v) (by simpa using hk)
theorem am_Vs.set {as : Nat → Nat} {n : Nat} {v rv : Value} (hv : am_R as n v rv) : ∀ {l m : List Value}, am_Vs as n l m → ∀ k : Nat, am_Vs as n (l.set k v) (m.set k rv)
  | [], [], _, _ => trivial
  | _ :: _, _ :: _, h, 0 => ⟨hv, h.2⟩
  | _ :: _, _ :: _, h, k + 1 => ⟨h.1, am_Vs.set hv h.2 k⟩
theorem am_Vs.app {as : Nat → Nat} {n : Nat} {l2 m2 : List Value} (h2 : am_Vs as n l2 m2) : ∀ {l m : List Value}, am_Vs as n l m → am_Vs as n (l ++ l2) (m ++ m2)
  | [], [], _ => h2
  | _ :: _, _ :: _, h => ⟨h.1, am_Vs.app h2 h.2⟩
theorem am_Vs.rev {as : Nat → Nat} {n : Nat} : ∀ {l m : List Value}, am_Vs as n l m → am_Vs as n l.reverse m.reverse
  | [], [], _ => trivial
  | a :: l, b :: m, h => by
    rw [List.reverse_cons, List.reverse_cons]
    exact am_Vs.app (l2 := [a]) (m2 := [b]) ⟨h.1, trivial⟩ (am_Vs.rev h.2)
theorem am_Vs.split {as : Nat → Nat} {n : Nat} : ∀ {l l2 m : List Value}, am_Vs as n (l ++ l2) m → ∃ m1 m2, m = m1 ++ m2 ∧ am_Vs as n l m1 ∧ am_Vs as n l2 m2
  | [], l2, m, h => ⟨[], m, rfl, trivial, h⟩
  | a :: l, l2, b :: m, h => by
    obtain ⟨m1, m2, h1, h2, h3⟩ := am_Vs.split (l := l) (l2 := l2) h.2
    exact ⟨b :: m1, m2, by rw [h1]; rfl, ⟨h.1, h2⟩, h3⟩
theorem am_Vi {as : Nat → Nat} {n : Nat} {x : Int32} {l m : List Value} (h : am_Vs as n (.int x :: l) m) : ∃ m', m = .int x :: m' ∧ am_Vs as n l m' := by
  cases m with
  | nil => exact h.elim
  | cons b m => exact ⟨m, by rw [show b = .int x from h.1], h.2⟩
theorem am_Vl {as : Nat → Nat} {n : Nat} {x : Int64} {l m : List Value} (h : am_Vs as n (.long x :: l) m) : ∃ m', m = .long x :: m' ∧ am_Vs as n l m' := by
  cases m with
  | nil => exact h.elim
  | cons b m => exact ⟨m, by rw [show b = .long x from h.1], h.2⟩
theorem am_Vr {as : Nat → Nat} {n : Nat} {x : Nat} {l m : List Value} (h : am_Vs as n (.ref x :: l) m) : ∃ m', m = .ref (as x) :: m' ∧ (x < n ∨ 1000 ≤ x) ∧ am_Vs as n l m' := by
  cases m with
  | nil => exact h.elim
  | cons b m => exact ⟨m, by rw [h.1.2], h.1.1, h.2⟩
theorem am_Vc {as : Nat → Nat} {n : Nat} {x : Value} {l m : List Value} (h : am_Vs as n (x :: l) m) : ∃ rx m', m = rx :: m' ∧ am_R as n x rx ∧ am_Vs as n l m' := by
  cases m with
  | nil => exact h.elim
  | cons b m => exact ⟨b, m, rfl, h.1, h.2⟩
theorem am_V0 {as : Nat → Nat} {n : Nat} {m : List Value} (h : am_Vs as n [] m) : m = [] := by
  cases m with
  | nil => rfl
  | cons b m => exact h.elim
theorem am_R.cat {as : Nat → Nat} {n : Nat} {v rv : Value} (h : am_R as n v rv) : rv.category = v.category := by
  cases v with
  | ref k => rw [h.2]; rfl
  | _ => rw [show rv = _ from h]
theorem am_Vs.cat {as : Nat → Nat} {n : Nat} : ∀ {l m : List Value}, am_Vs as n l m → (m.map fun v => v.category) = (l.map fun v => v.category)
  | [], [], _ => rfl
  | _ :: _, _ :: _, h => by rw [List.map_cons, List.map_cons, h.1.cat, am_Vs.cat h.2]
/-! the world -/
def am_K0 (kd : Nat) : FieldType := match kd with
  | 0 => .int
  | _ => .boolean
def am_Cl (as : Nat → Nat) (n : Nat) (tys : List (ClassId × FieldType)) (c : am_C) (e : va_E) : Prop := match c with
  | .inl (kd, len, f) => ∃ (cA : ClassId) (t0 : Nat), e = .inl (cA, len, .inl f) ∧ tys[t0]? = some (cA, am_K0 kd)
  | .inr (ci, fs) => ∃ fs' : List Value, e = .inr (ci, fs') ∧ am_Vs as n fs fs'
def am_W (D : va_G) (as : Nat → Nat) (n : Nat) (h : am_H) (A : Nat → Prop) (U : State) (H : Heap) : Prop :=
  ∃ (ws : va_W) (tys : List (ClassId × FieldType)), ws.length = n ∧ (∀ k : Nat, k < n → ∃ e, ws[k]? = some (as k, e) ∧ am_Cl as n tys (h k) e) ∧ va_P D vwCl ws H ∧ va_K D vwCl tys U ∧ va_D A ws
def am_ways : List Int32 := [0, 1, 20, 21, 22, 23, 24, 25, 26, 27, 28, 29, 3, 4, 5, 6, 7]
/-- what was there before: the constants, the texts, the links of nest mates -/
def am_Z (as : Nat → Nat) (A : Nat → Prop) (U : State) (H : Heap) : Prop :=
  va_Z RX11 "WAYS" "[I" (.ref (as 3000)) A U H ∧ va_T .int (as 3000) 17 (fun j => .int (am_ways.getD j 0)) A U H ∧ va_Z "java/lang/String" "COMPACT_STRINGS" "Z" (.int 1) A U H ∧
  va_Z "jdk/internal/util/Preconditions" "SIOOBE_FORMATTER" "Ljava/util/function/BiFunction;" (.ref (as 3001)) A U H ∧
  vk_S 12 am_lens am_byt (fun i => as (1000 + i)) (fun i => as (2000 + i)) A U H ∧ (∀ i : Nat, i < 12 → vk_R RX7 (am_tx i).1 (am_tx i).2.1 (as (1000 + i)) U) ∧ ∀ w ∈ lw_tbl, am_nest w = true → va_Nw w U
theorem am_Cl.mono {as as' : Nat → Nat} {n n' : Nat} (hE : am_E as as' n n') {tys t2 : List (ClassId × FieldType)} {c : am_C} {e : va_E} (h : am_Cl as n tys c e) : am_Cl as' n' (tys ++ t2) c e := by
  cases c with
  | inl a =>
    obtain ⟨cA, t0, h1, h2⟩ := h
    exact ⟨cA, t0, h1, by rw [List.getElem?_append_left (List.getElem?_eq_some_iff.mp h2).1]; exact h2⟩
  | inr o =>
    obtain ⟨fs', h1, h2⟩ := h
    exact ⟨fs', h1, h2.mono hE⟩
theorem am_Nw.warm {w : Cond} (hn : am_nest w = true) {s U : State} (hW : s.WarmedH U.vm) (h : va_Nw w s) : va_Nw w U := by
  cases w <;> first | exact va_Nw.warmM hW h | exact va_Nw.warmF hW h | (exact absurd hn (by decide)) | (simp [am_nest] at hn)
theorem am_Nw.same {w : Cond} (hn : am_nest w = true) {s U : State} (hv : s.vm = U.vm) (h : va_Nw w s) : va_Nw w U := by
  cases w <;> first | exact va_Nw.same rfl hv h | (simp [am_nest] at hn)
theorem am_Z.to {as as' : Nat → Nat} {n n' : Nat} (hE : am_E as as' n n') {A B : Nat → Prop} {s U : State} {H H1 : Heap} (hW : s.WarmedH U.vm) (hq : ∀ a : Nat, a < H.size → ¬ A a → H1[a]? = H[a]?) (hAB : ∀ q, B q → A q) (h : am_Z as A s H) : am_Z as' B U H1 := by
  obtain ⟨h1, h2, h3, h4, h5, h6, h7⟩ := h
  have e0 : as' 3000 = as 3000 := hE.2 _ (Or.inr (by omega))
  have e1 : as' 3001 = as 3001 := hE.2 _ (Or.inr (by omega))
  have e2 : (fun i => as' (1000 + i)) = (fun i => as (1000 + i)) := funext fun i => hE.2 _ (Or.inr (by omega))
  have e3 : (fun i => as' (2000 + i)) = (fun i => as (2000 + i)) := funext fun i => hE.2 _ (Or.inr (by omega))
  refine ⟨by rw [e0]; exact ((h1.moved hW.alike).kept hq).narrow hAB, by rw [e0]; exact ((h2.moved hW.alike).kept hq).narrow hAB, ((h3.moved hW.alike).kept hq).narrow hAB, by rw [e1]; exact ((h4.moved hW.alike).kept hq).narrow hAB, by rw [e2, e3]; exact ((h5.moved hW.alike).kept hq).narrow hAB, fun i hi => ?_, fun w hw hn => am_Nw.warm hn hW (h7 w hw hn)⟩
  rw [show as' (1000 + i) = as (1000 + i) from hE.2 _ (Or.inr (by omega))]
  exact (h6 i hi).warm hW
end
