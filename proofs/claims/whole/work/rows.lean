section
-- ===== PART A: goes FIRST, ahead of the names: the tables' words, and 'selects' of the private methods out of them =====
/-- a private method of a class that the tables say can be made, by its rows of tables_1 -/
def lw_okq (q : MethodName × Nat) : Prop := (q.1.cls ≠ "java/lang/invoke/MethodHandle" ∧ q.1.cls ≠ "java/lang/invoke/VarHandle") ∧ Cond.instantiable q.1.cls q.2 ∈ tables_1 ∧ Cond.privateMethod q.1 ∈ tables_1 ∧ Cond.instanceMethod q.1 ∈ tables_1
theorem lw_p0 : lw_okq (⟨"SidelessTown", "found", "(I)I"⟩, 14) := ⟨⟨by decide +kernel, by decide +kernel⟩, List.mem_of_getElem? (i := 20) (by decide +kernel), List.mem_of_getElem? (i := 357) (by decide +kernel), List.mem_of_getElem? (i := 358) (by decide +kernel)⟩
theorem lw_p1 : lw_okq (⟨"SidelessTown", "fine", "(I)I"⟩, 14) := ⟨⟨by decide +kernel, by decide +kernel⟩, List.mem_of_getElem? (i := 20) (by decide +kernel), List.mem_of_getElem? (i := 369) (by decide +kernel), List.mem_of_getElem? (i := 370) (by decide +kernel)⟩
theorem lw_p2 : lw_okq (⟨"SidelessTown$Rows", "beyond", "(III)Z"⟩, 3) := ⟨⟨by decide +kernel, by decide +kernel⟩, List.mem_of_getElem? (i := 28) (by decide +kernel), List.mem_of_getElem? (i := 389) (by decide +kernel), List.mem_of_getElem? (i := 390) (by decide +kernel)⟩
theorem lw_p3 : lw_okq (⟨"SidelessTown$Text", "cut", "()V"⟩, 10) := ⟨⟨by decide +kernel, by decide +kernel⟩, List.mem_of_getElem? (i := 48) (by decide +kernel), List.mem_of_getElem? (i := 457) (by decide +kernel), List.mem_of_getElem? (i := 458) (by decide +kernel)⟩
theorem lw_p4 : lw_okq (⟨"SidelessTown$Text", "behindRun", "(II)I"⟩, 10) := ⟨⟨by decide +kernel, by decide +kernel⟩, List.mem_of_getElem? (i := 48) (by decide +kernel), List.mem_of_getElem? (i := 465) (by decide +kernel), List.mem_of_getElem? (i := 466) (by decide +kernel)⟩
theorem lw_p5 : lw_okq (⟨"SidelessTown$Text", "note", "(III)V"⟩, 10) := ⟨⟨by decide +kernel, by decide +kernel⟩, List.mem_of_getElem? (i := 48) (by decide +kernel), List.mem_of_getElem? (i := 469) (by decide +kernel), List.mem_of_getElem? (i := 470) (by decide +kernel)⟩
theorem lw_p6 : lw_okq (⟨"SidelessTown$Text", "nameOf", "(II)I"⟩, 10) := ⟨⟨by decide +kernel, by decide +kernel⟩, List.mem_of_getElem? (i := 48) (by decide +kernel), List.mem_of_getElem? (i := 473) (by decide +kernel), List.mem_of_getElem? (i := 474) (by decide +kernel)⟩
theorem lw_p7 : lw_okq (⟨"SidelessTown$Text", "isSpelt", "(Ljava/lang/String;II)Z"⟩, 10) := ⟨⟨by decide +kernel, by decide +kernel⟩, List.mem_of_getElem? (i := 48) (by decide +kernel), List.mem_of_getElem? (i := 492) (by decide +kernel), List.mem_of_getElem? (i := 493) (by decide +kernel)⟩
theorem lw_p8 : lw_okq (⟨"SidelessTown$Text", "numberOf", "(II)I"⟩, 10) := ⟨⟨by decide +kernel, by decide +kernel⟩, List.mem_of_getElem? (i := 48) (by decide +kernel), List.mem_of_getElem? (i := 544) (by decide +kernel), List.mem_of_getElem? (i := 545) (by decide +kernel)⟩
theorem lw_p9 : lw_okq (⟨"SidelessTown$Text", "readCorners", "(LSidelessTown$Town;)Z"⟩, 10) := ⟨⟨by decide +kernel, by decide +kernel⟩, List.mem_of_getElem? (i := 48) (by decide +kernel), List.mem_of_getElem? (i := 548) (by decide +kernel), List.mem_of_getElem? (i := 549) (by decide +kernel)⟩
theorem lw_p10 : lw_okq (⟨"SidelessTown$Text", "isName", "(I)Z"⟩, 10) := ⟨⟨by decide +kernel, by decide +kernel⟩, List.mem_of_getElem? (i := 48) (by decide +kernel), List.mem_of_getElem? (i := 552) (by decide +kernel), List.mem_of_getElem? (i := 553) (by decide +kernel)⟩
theorem lw_p11 : lw_okq (⟨"SidelessTown$Text", "sort", "()I"⟩, 10) := ⟨⟨by decide +kernel, by decide +kernel⟩, List.mem_of_getElem? (i := 48) (by decide +kernel), List.mem_of_getElem? (i := 556) (by decide +kernel), List.mem_of_getElem? (i := 557) (by decide +kernel)⟩
theorem lw_p12 : lw_okq (⟨"SidelessTown$Text", "value", "()I"⟩, 10) := ⟨⟨by decide +kernel, by decide +kernel⟩, List.mem_of_getElem? (i := 48) (by decide +kernel), List.mem_of_getElem? (i := 560) (by decide +kernel), List.mem_of_getElem? (i := 561) (by decide +kernel)⟩
theorem lw_p13 : lw_okq (⟨"SidelessTown$Text", "fail", "(I)Z"⟩, 10) := ⟨⟨by decide +kernel, by decide +kernel⟩, List.mem_of_getElem? (i := 48) (by decide +kernel), List.mem_of_getElem? (i := 564) (by decide +kernel), List.mem_of_getElem? (i := 565) (by decide +kernel)⟩
theorem lw_p14 : lw_okq (⟨"SidelessTown$Text", "readCorner", "(LSidelessTown$Town;)Z"⟩, 10) := ⟨⟨by decide +kernel, by decide +kernel⟩, List.mem_of_getElem? (i := 48) (by decide +kernel), List.mem_of_getElem? (i := 568) (by decide +kernel), List.mem_of_getElem? (i := 569) (by decide +kernel)⟩
theorem lw_p15 : lw_okq (⟨"SidelessTown$Text", "readNumber", "(I)Z"⟩, 10) := ⟨⟨by decide +kernel, by decide +kernel⟩, List.mem_of_getElem? (i := 48) (by decide +kernel), List.mem_of_getElem? (i := 572) (by decide +kernel), List.mem_of_getElem? (i := 573) (by decide +kernel)⟩
def lw_privs_1 : List (MethodName × Nat) := [(⟨"SidelessTown", "found", "(I)I"⟩, 14), (⟨"SidelessTown", "fine", "(I)I"⟩, 14), (⟨"SidelessTown$Rows", "beyond", "(III)Z"⟩, 3), (⟨"SidelessTown$Text", "cut", "()V"⟩, 10), (⟨"SidelessTown$Text", "behindRun", "(II)I"⟩, 10), (⟨"SidelessTown$Text", "note", "(III)V"⟩, 10), (⟨"SidelessTown$Text", "nameOf", "(II)I"⟩, 10), (⟨"SidelessTown$Text", "isSpelt", "(Ljava/lang/String;II)Z"⟩, 10), (⟨"SidelessTown$Text", "numberOf", "(II)I"⟩, 10), (⟨"SidelessTown$Text", "readCorners", "(LSidelessTown$Town;)Z"⟩, 10), (⟨"SidelessTown$Text", "isName", "(I)Z"⟩, 10), (⟨"SidelessTown$Text", "sort", "()I"⟩, 10), (⟨"SidelessTown$Text", "value", "()I"⟩, 10), (⟨"SidelessTown$Text", "fail", "(I)Z"⟩, 10), (⟨"SidelessTown$Text", "readCorner", "(LSidelessTown$Town;)Z"⟩, 10), (⟨"SidelessTown$Text", "readNumber", "(I)Z"⟩, 10)]
theorem lw_r1 : ∀ q ∈ lw_privs_1, lw_okq q := List.forall_mem_cons.mpr ⟨lw_p0, List.forall_mem_cons.mpr ⟨lw_p1, List.forall_mem_cons.mpr ⟨lw_p2, List.forall_mem_cons.mpr ⟨lw_p3, List.forall_mem_cons.mpr ⟨lw_p4, List.forall_mem_cons.mpr ⟨lw_p5, List.forall_mem_cons.mpr ⟨lw_p6, List.forall_mem_cons.mpr ⟨lw_p7, List.forall_mem_cons.mpr ⟨lw_p8, List.forall_mem_cons.mpr ⟨lw_p9, List.forall_mem_cons.mpr ⟨lw_p10, List.forall_mem_cons.mpr ⟨lw_p11, List.forall_mem_cons.mpr ⟨lw_p12, List.forall_mem_cons.mpr ⟨lw_p13, List.forall_mem_cons.mpr ⟨lw_p14, List.forall_mem_cons.mpr ⟨lw_p15, fun _ h => absurd h List.not_mem_nil⟩⟩⟩⟩⟩⟩⟩⟩⟩⟩⟩⟩⟩⟩⟩⟩
theorem lw_p16 : lw_okq (⟨"SidelessTown$Text", "readSign", "()Z"⟩, 10) := ⟨⟨by decide +kernel, by decide +kernel⟩, List.mem_of_getElem? (i := 48) (by decide +kernel), List.mem_of_getElem? (i := 581) (by decide +kernel), List.mem_of_getElem? (i := 582) (by decide +kernel)⟩
theorem lw_p17 : lw_okq (⟨"SidelessTown$Text", "readStreets", "(LSidelessTown$Town;)Z"⟩, 10) := ⟨⟨by decide +kernel, by decide +kernel⟩, List.mem_of_getElem? (i := 48) (by decide +kernel), List.mem_of_getElem? (i := 585) (by decide +kernel), List.mem_of_getElem? (i := 586) (by decide +kernel)⟩
theorem lw_p18 : lw_okq (⟨"SidelessTown$Text", "readStreet", "(LSidelessTown$Town;)Z"⟩, 10) := ⟨⟨by decide +kernel, by decide +kernel⟩, List.mem_of_getElem? (i := 48) (by decide +kernel), List.mem_of_getElem? (i := 589) (by decide +kernel), List.mem_of_getElem? (i := 590) (by decide +kernel)⟩
theorem lw_p19 : lw_okq (⟨"SidelessTown$Text", "readStreetEnd", "(LSidelessTown$Town;I)Z"⟩, 10) := ⟨⟨by decide +kernel, by decide +kernel⟩, List.mem_of_getElem? (i := 48) (by decide +kernel), List.mem_of_getElem? (i := 594) (by decide +kernel), List.mem_of_getElem? (i := 595) (by decide +kernel)⟩
theorem lw_p20 : lw_okq (⟨"SidelessTown$Town", "addStreetAt", "(II)V"⟩, 8) := ⟨⟨by decide +kernel, by decide +kernel⟩, List.mem_of_getElem? (i := 85) (by decide +kernel), List.mem_of_getElem? (i := 616) (by decide +kernel), List.mem_of_getElem? (i := 617) (by decide +kernel)⟩
theorem lw_p21 : lw_okq (⟨"SidelessTown$Text", "isWord", "()Z"⟩, 10) := ⟨⟨by decide +kernel, by decide +kernel⟩, List.mem_of_getElem? (i := 48) (by decide +kernel), List.mem_of_getElem? (i := 657) (by decide +kernel), List.mem_of_getElem? (i := 658) (by decide +kernel)⟩
theorem lw_p22 : lw_okq (⟨"SidelessTown$Text", "readWord", "(LSidelessTown$Saying;)Z"⟩, 10) := ⟨⟨by decide +kernel, by decide +kernel⟩, List.mem_of_getElem? (i := 48) (by decide +kernel), List.mem_of_getElem? (i := 662) (by decide +kernel), List.mem_of_getElem? (i := 663) (by decide +kernel)⟩
theorem lw_p23 : lw_okq (⟨"SidelessTown$Walker", "goalOf", "(I)I"⟩, 6) := ⟨⟨by decide +kernel, by decide +kernel⟩, List.mem_of_getElem? (i := 155) (by decide +kernel), List.mem_of_getElem? (i := 767) (by decide +kernel), List.mem_of_getElem? (i := 768) (by decide +kernel)⟩
theorem lw_p24 : lw_okq (⟨"SidelessTown$Goals", "look", "()V"⟩, 8) := ⟨⟨by decide +kernel, by decide +kernel⟩, List.mem_of_getElem? (i := 190) (by decide +kernel), List.mem_of_getElem? (i := 812) (by decide +kernel), List.mem_of_getElem? (i := 813) (by decide +kernel)⟩
theorem lw_p25 : lw_okq (⟨"SidelessTown$Goals", "finerClassOf", "(I)I"⟩, 8) := ⟨⟨by decide +kernel, by decide +kernel⟩, List.mem_of_getElem? (i := 190) (by decide +kernel), List.mem_of_getElem? (i := 821) (by decide +kernel), List.mem_of_getElem? (i := 822) (by decide +kernel)⟩
theorem lw_p26 : lw_okq (⟨"SidelessTown$Goals", "alikeSoFar", "(II)Z"⟩, 8) := ⟨⟨by decide +kernel, by decide +kernel⟩, List.mem_of_getElem? (i := 190) (by decide +kernel), List.mem_of_getElem? (i := 825) (by decide +kernel), List.mem_of_getElem? (i := 826) (by decide +kernel)⟩
theorem lw_p27 : lw_okq (⟨"SidelessTown$Goals", "goalOf", "(II)I"⟩, 8) := ⟨⟨by decide +kernel, by decide +kernel⟩, List.mem_of_getElem? (i := 190) (by decide +kernel), List.mem_of_getElem? (i := 835) (by decide +kernel), List.mem_of_getElem? (i := 836) (by decide +kernel)⟩
theorem lw_p28 : lw_okq (⟨"SidelessTown$Search", "note", "(III)V"⟩, 8) := ⟨⟨by decide +kernel, by decide +kernel⟩, List.mem_of_getElem? (i := 221) (by decide +kernel), List.mem_of_getElem? (i := 856) (by decide +kernel), List.mem_of_getElem? (i := 857) (by decide +kernel)⟩
theorem lw_p29 : lw_okq (⟨"SidelessTown$Search", "standAt", "(I)V"⟩, 8) := ⟨⟨by decide +kernel, by decide +kernel⟩, List.mem_of_getElem? (i := 221) (by decide +kernel), List.mem_of_getElem? (i := 871) (by decide +kernel), List.mem_of_getElem? (i := 872) (by decide +kernel)⟩
theorem lw_p30 : lw_okq (⟨"SidelessTown$Search", "better", "(II)Z"⟩, 8) := ⟨⟨by decide +kernel, by decide +kernel⟩, List.mem_of_getElem? (i := 221) (by decide +kernel), List.mem_of_getElem? (i := 906) (by decide +kernel), List.mem_of_getElem? (i := 907) (by decide +kernel)⟩
theorem lw_p31 : lw_okq (⟨"SidelessTown$Layings", "canLay", "(IIII)Z"⟩, 5) := ⟨⟨by decide +kernel, by decide +kernel⟩, List.mem_of_getElem? (i := 254) (by decide +kernel), List.mem_of_getElem? (i := 922) (by decide +kernel), List.mem_of_getElem? (i := 923) (by decide +kernel)⟩
def lw_privs_2 : List (MethodName × Nat) := [(⟨"SidelessTown$Text", "readSign", "()Z"⟩, 10), (⟨"SidelessTown$Text", "readStreets", "(LSidelessTown$Town;)Z"⟩, 10), (⟨"SidelessTown$Text", "readStreet", "(LSidelessTown$Town;)Z"⟩, 10), (⟨"SidelessTown$Text", "readStreetEnd", "(LSidelessTown$Town;I)Z"⟩, 10), (⟨"SidelessTown$Town", "addStreetAt", "(II)V"⟩, 8), (⟨"SidelessTown$Text", "isWord", "()Z"⟩, 10), (⟨"SidelessTown$Text", "readWord", "(LSidelessTown$Saying;)Z"⟩, 10), (⟨"SidelessTown$Walker", "goalOf", "(I)I"⟩, 6), (⟨"SidelessTown$Goals", "look", "()V"⟩, 8), (⟨"SidelessTown$Goals", "finerClassOf", "(I)I"⟩, 8), (⟨"SidelessTown$Goals", "alikeSoFar", "(II)Z"⟩, 8), (⟨"SidelessTown$Goals", "goalOf", "(II)I"⟩, 8), (⟨"SidelessTown$Search", "note", "(III)V"⟩, 8), (⟨"SidelessTown$Search", "standAt", "(I)V"⟩, 8), (⟨"SidelessTown$Search", "better", "(II)Z"⟩, 8), (⟨"SidelessTown$Layings", "canLay", "(IIII)Z"⟩, 5)]
theorem lw_r2 : ∀ q ∈ lw_privs_2, lw_okq q := List.forall_mem_cons.mpr ⟨lw_p16, List.forall_mem_cons.mpr ⟨lw_p17, List.forall_mem_cons.mpr ⟨lw_p18, List.forall_mem_cons.mpr ⟨lw_p19, List.forall_mem_cons.mpr ⟨lw_p20, List.forall_mem_cons.mpr ⟨lw_p21, List.forall_mem_cons.mpr ⟨lw_p22, List.forall_mem_cons.mpr ⟨lw_p23, List.forall_mem_cons.mpr ⟨lw_p24, List.forall_mem_cons.mpr ⟨lw_p25, List.forall_mem_cons.mpr ⟨lw_p26, List.forall_mem_cons.mpr ⟨lw_p27, List.forall_mem_cons.mpr ⟨lw_p28, List.forall_mem_cons.mpr ⟨lw_p29, List.forall_mem_cons.mpr ⟨lw_p30, List.forall_mem_cons.mpr ⟨lw_p31, fun _ h => absurd h List.not_mem_nil⟩⟩⟩⟩⟩⟩⟩⟩⟩⟩⟩⟩⟩⟩⟩⟩
theorem lw_p32 : lw_okq (⟨"SidelessTown$Layings", "fits", "(II)Z"⟩, 5) := ⟨⟨by decide +kernel, by decide +kernel⟩, List.mem_of_getElem? (i := 254) (by decide +kernel), List.mem_of_getElem? (i := 926) (by decide +kernel), List.mem_of_getElem? (i := 927) (by decide +kernel)⟩
theorem lw_p33 : lw_okq (⟨"SidelessTown$Layings", "ordersAgree", "(I)Z"⟩, 5) := ⟨⟨by decide +kernel, by decide +kernel⟩, List.mem_of_getElem? (i := 254) (by decide +kernel), List.mem_of_getElem? (i := 937) (by decide +kernel), List.mem_of_getElem? (i := 938) (by decide +kernel)⟩
theorem lw_p34 : lw_okq (⟨"SidelessTown$Layings", "canLayRest", "(II)Z"⟩, 5) := ⟨⟨by decide +kernel, by decide +kernel⟩, List.mem_of_getElem? (i := 254) (by decide +kernel), List.mem_of_getElem? (i := 943) (by decide +kernel), List.mem_of_getElem? (i := 944) (by decide +kernel)⟩
theorem lw_p35 : lw_okq (⟨"SidelessTown$Layings", "nextToLay", "()I"⟩, 5) := ⟨⟨by decide +kernel, by decide +kernel⟩, List.mem_of_getElem? (i := 254) (by decide +kernel), List.mem_of_getElem? (i := 947) (by decide +kernel), List.mem_of_getElem? (i := 948) (by decide +kernel)⟩
theorem lw_p36 : lw_okq (⟨"SidelessTown$Goals", "notePair", "(III)V"⟩, 8) := ⟨⟨by decide +kernel, by decide +kernel⟩, List.mem_of_getElem? (i := 190) (by decide +kernel), List.mem_of_getElem? (i := 991) (by decide +kernel), List.mem_of_getElem? (i := 992) (by decide +kernel)⟩
theorem lw_p37 : lw_okq (⟨"SidelessTown$Goals", "stepOf", "(III)Z"⟩, 8) := ⟨⟨by decide +kernel, by decide +kernel⟩, List.mem_of_getElem? (i := 190) (by decide +kernel), List.mem_of_getElem? (i := 995) (by decide +kernel), List.mem_of_getElem? (i := 996) (by decide +kernel)⟩
theorem lw_p38 : lw_okq (⟨"SidelessTown", "keptBy", "(I)LSidelessTown$Kept;"⟩, 14) := ⟨⟨by decide +kernel, by decide +kernel⟩, List.mem_of_getElem? (i := 20) (by decide +kernel), List.mem_of_getElem? (i := 1016) (by decide +kernel), List.mem_of_getElem? (i := 1017) (by decide +kernel)⟩
theorem lw_p39 : lw_okq (⟨"SidelessTown$Asks", "body11", "()I"⟩, 6) := ⟨⟨by decide +kernel, by decide +kernel⟩, List.mem_of_getElem? (i := 276) (by decide +kernel), List.mem_of_getElem? (i := 1071) (by decide +kernel), List.mem_of_getElem? (i := 1072) (by decide +kernel)⟩
theorem lw_p40 : lw_okq (⟨"SidelessTown$Asks", "leave", "(I)V"⟩, 6) := ⟨⟨by decide +kernel, by decide +kernel⟩, List.mem_of_getElem? (i := 276) (by decide +kernel), List.mem_of_getElem? (i := 1075) (by decide +kernel), List.mem_of_getElem? (i := 1076) (by decide +kernel)⟩
theorem lw_p41 : lw_okq (⟨"SidelessTown$Asks", "body10", "()I"⟩, 6) := ⟨⟨by decide +kernel, by decide +kernel⟩, List.mem_of_getElem? (i := 276) (by decide +kernel), List.mem_of_getElem? (i := 1079) (by decide +kernel), List.mem_of_getElem? (i := 1080) (by decide +kernel)⟩
theorem lw_p42 : lw_okq (⟨"SidelessTown$Asks", "body20", "()I"⟩, 6) := ⟨⟨by decide +kernel, by decide +kernel⟩, List.mem_of_getElem? (i := 276) (by decide +kernel), List.mem_of_getElem? (i := 1083) (by decide +kernel), List.mem_of_getElem? (i := 1084) (by decide +kernel)⟩
theorem lw_p43 : lw_okq (⟨"SidelessTown$Asks", "body12", "()I"⟩, 6) := ⟨⟨by decide +kernel, by decide +kernel⟩, List.mem_of_getElem? (i := 276) (by decide +kernel), List.mem_of_getElem? (i := 1087) (by decide +kernel), List.mem_of_getElem? (i := 1088) (by decide +kernel)⟩
theorem lw_p44 : lw_okq (⟨"SidelessTown$Asks", "body22", "()I"⟩, 6) := ⟨⟨by decide +kernel, by decide +kernel⟩, List.mem_of_getElem? (i := 276) (by decide +kernel), List.mem_of_getElem? (i := 1091) (by decide +kernel), List.mem_of_getElem? (i := 1092) (by decide +kernel)⟩
theorem lw_p45 : lw_okq (⟨"SidelessTown$Asks", "body13", "()I"⟩, 6) := ⟨⟨by decide +kernel, by decide +kernel⟩, List.mem_of_getElem? (i := 276) (by decide +kernel), List.mem_of_getElem? (i := 1095) (by decide +kernel), List.mem_of_getElem? (i := 1096) (by decide +kernel)⟩
theorem lw_p46 : lw_okq (⟨"SidelessTown$Asks", "body14", "()I"⟩, 6) := ⟨⟨by decide +kernel, by decide +kernel⟩, List.mem_of_getElem? (i := 276) (by decide +kernel), List.mem_of_getElem? (i := 1099) (by decide +kernel), List.mem_of_getElem? (i := 1100) (by decide +kernel)⟩
theorem lw_p47 : lw_okq (⟨"SidelessTown$Asks", "body21", "()I"⟩, 6) := ⟨⟨by decide +kernel, by decide +kernel⟩, List.mem_of_getElem? (i := 276) (by decide +kernel), List.mem_of_getElem? (i := 1107) (by decide +kernel), List.mem_of_getElem? (i := 1108) (by decide +kernel)⟩
def lw_privs_3 : List (MethodName × Nat) := [(⟨"SidelessTown$Layings", "fits", "(II)Z"⟩, 5), (⟨"SidelessTown$Layings", "ordersAgree", "(I)Z"⟩, 5), (⟨"SidelessTown$Layings", "canLayRest", "(II)Z"⟩, 5), (⟨"SidelessTown$Layings", "nextToLay", "()I"⟩, 5), (⟨"SidelessTown$Goals", "notePair", "(III)V"⟩, 8), (⟨"SidelessTown$Goals", "stepOf", "(III)Z"⟩, 8), (⟨"SidelessTown", "keptBy", "(I)LSidelessTown$Kept;"⟩, 14), (⟨"SidelessTown$Asks", "body11", "()I"⟩, 6), (⟨"SidelessTown$Asks", "leave", "(I)V"⟩, 6), (⟨"SidelessTown$Asks", "body10", "()I"⟩, 6), (⟨"SidelessTown$Asks", "body20", "()I"⟩, 6), (⟨"SidelessTown$Asks", "body12", "()I"⟩, 6), (⟨"SidelessTown$Asks", "body22", "()I"⟩, 6), (⟨"SidelessTown$Asks", "body13", "()I"⟩, 6), (⟨"SidelessTown$Asks", "body14", "()I"⟩, 6), (⟨"SidelessTown$Asks", "body21", "()I"⟩, 6)]
theorem lw_r3 : ∀ q ∈ lw_privs_3, lw_okq q := List.forall_mem_cons.mpr ⟨lw_p32, List.forall_mem_cons.mpr ⟨lw_p33, List.forall_mem_cons.mpr ⟨lw_p34, List.forall_mem_cons.mpr ⟨lw_p35, List.forall_mem_cons.mpr ⟨lw_p36, List.forall_mem_cons.mpr ⟨lw_p37, List.forall_mem_cons.mpr ⟨lw_p38, List.forall_mem_cons.mpr ⟨lw_p39, List.forall_mem_cons.mpr ⟨lw_p40, List.forall_mem_cons.mpr ⟨lw_p41, List.forall_mem_cons.mpr ⟨lw_p42, List.forall_mem_cons.mpr ⟨lw_p43, List.forall_mem_cons.mpr ⟨lw_p44, List.forall_mem_cons.mpr ⟨lw_p45, List.forall_mem_cons.mpr ⟨lw_p46, List.forall_mem_cons.mpr ⟨lw_p47, fun _ h => absurd h List.not_mem_nil⟩⟩⟩⟩⟩⟩⟩⟩⟩⟩⟩⟩⟩⟩⟩⟩
theorem lw_p48 : lw_okq (⟨"SidelessTown$Asks", "body23", "()I"⟩, 6) := ⟨⟨by decide +kernel, by decide +kernel⟩, List.mem_of_getElem? (i := 276) (by decide +kernel), List.mem_of_getElem? (i := 1111) (by decide +kernel), List.mem_of_getElem? (i := 1112) (by decide +kernel)⟩
theorem lw_p49 : lw_okq (⟨"SidelessTownModel", "finding", "(I)I"⟩, 41) := ⟨⟨by decide +kernel, by decide +kernel⟩, List.mem_of_getElem? (i := 1147) (by decide +kernel), List.mem_of_getElem? (i := 1291) (by decide +kernel), List.mem_of_getElem? (i := 1292) (by decide +kernel)⟩
theorem lw_p50 : lw_okq (⟨"SidelessTownModel", "begin", "()V"⟩, 41) := ⟨⟨by decide +kernel, by decide +kernel⟩, List.mem_of_getElem? (i := 1147) (by decide +kernel), List.mem_of_getElem? (i := 1319) (by decide +kernel), List.mem_of_getElem? (i := 1320) (by decide +kernel)⟩
theorem lw_p51 : lw_okq (⟨"SidelessTownModel", "next", "()V"⟩, 41) := ⟨⟨by decide +kernel, by decide +kernel⟩, List.mem_of_getElem? (i := 1147) (by decide +kernel), List.mem_of_getElem? (i := 1323) (by decide +kernel), List.mem_of_getElem? (i := 1324) (by decide +kernel)⟩
theorem lw_p52 : lw_okq (⟨"SidelessTownModel", "byteAt", "(I)I"⟩, 41) := ⟨⟨by decide +kernel, by decide +kernel⟩, List.mem_of_getElem? (i := 1147) (by decide +kernel), List.mem_of_getElem? (i := 1327) (by decide +kernel), List.mem_of_getElem? (i := 1328) (by decide +kernel)⟩
theorem lw_p53 : lw_okq (⟨"SidelessTownModel", "name", "()J"⟩, 41) := ⟨⟨by decide +kernel, by decide +kernel⟩, List.mem_of_getElem? (i := 1147) (by decide +kernel), List.mem_of_getElem? (i := 1338) (by decide +kernel), List.mem_of_getElem? (i := 1339) (by decide +kernel)⟩
theorem lw_p54 : lw_okq (⟨"SidelessTownModel", "bad", "(I)V"⟩, 41) := ⟨⟨by decide +kernel, by decide +kernel⟩, List.mem_of_getElem? (i := 1147) (by decide +kernel), List.mem_of_getElem? (i := 1343) (by decide +kernel), List.mem_of_getElem? (i := 1344) (by decide +kernel)⟩
theorem lw_p55 : lw_okq (⟨"SidelessTownModel", "readCorner", "()V"⟩, 41) := ⟨⟨by decide +kernel, by decide +kernel⟩, List.mem_of_getElem? (i := 1147) (by decide +kernel), List.mem_of_getElem? (i := 1347) (by decide +kernel), List.mem_of_getElem? (i := 1348) (by decide +kernel)⟩
theorem lw_p56 : lw_okq (⟨"SidelessTownModel", "begins", "(II)V"⟩, 41) := ⟨⟨by decide +kernel, by decide +kernel⟩, List.mem_of_getElem? (i := 1147) (by decide +kernel), List.mem_of_getElem? (i := 1351) (by decide +kernel), List.mem_of_getElem? (i := 1352) (by decide +kernel)⟩
theorem lw_p57 : lw_okq (⟨"SidelessTownModel", "must", "(Z)V"⟩, 41) := ⟨⟨by decide +kernel, by decide +kernel⟩, List.mem_of_getElem? (i := 1147) (by decide +kernel), List.mem_of_getElem? (i := 1355) (by decide +kernel), List.mem_of_getElem? (i := 1356) (by decide +kernel)⟩
theorem lw_p58 : lw_okq (⟨"SidelessTownModel", "number", "(II)I"⟩, 41) := ⟨⟨by decide +kernel, by decide +kernel⟩, List.mem_of_getElem? (i := 1147) (by decide +kernel), List.mem_of_getElem? (i := 1359) (by decide +kernel), List.mem_of_getElem? (i := 1360) (by decide +kernel)⟩
theorem lw_p59 : lw_okq (⟨"SidelessTownModel", "figures", "()I"⟩, 41) := ⟨⟨by decide +kernel, by decide +kernel⟩, List.mem_of_getElem? (i := 1147) (by decide +kernel), List.mem_of_getElem? (i := 1363) (by decide +kernel), List.mem_of_getElem? (i := 1364) (by decide +kernel)⟩
theorem lw_p60 : lw_okq (⟨"SidelessTownModel", "mustEnd", "()V"⟩, 41) := ⟨⟨by decide +kernel, by decide +kernel⟩, List.mem_of_getElem? (i := 1147) (by decide +kernel), List.mem_of_getElem? (i := 1368) (by decide +kernel), List.mem_of_getElem? (i := 1369) (by decide +kernel)⟩
theorem lw_p61 : lw_okq (⟨"SidelessTownModel", "readStreet", "()V"⟩, 41) := ⟨⟨by decide +kernel, by decide +kernel⟩, List.mem_of_getElem? (i := 1147) (by decide +kernel), List.mem_of_getElem? (i := 1373) (by decide +kernel), List.mem_of_getElem? (i := 1374) (by decide +kernel)⟩
theorem lw_p62 : lw_okq (⟨"SidelessTownModel", "end", "(I)I"⟩, 41) := ⟨⟨by decide +kernel, by decide +kernel⟩, List.mem_of_getElem? (i := 1147) (by decide +kernel), List.mem_of_getElem? (i := 1377) (by decide +kernel), List.mem_of_getElem? (i := 1378) (by decide +kernel)⟩
theorem lw_p63 : lw_okq (⟨"SidelessTownModel", "isJoined", "(II)Z"⟩, 41) := ⟨⟨by decide +kernel, by decide +kernel⟩, List.mem_of_getElem? (i := 1147) (by decide +kernel), List.mem_of_getElem? (i := 1381) (by decide +kernel), List.mem_of_getElem? (i := 1382) (by decide +kernel)⟩
def lw_privs_4 : List (MethodName × Nat) := [(⟨"SidelessTown$Asks", "body23", "()I"⟩, 6), (⟨"SidelessTownModel", "finding", "(I)I"⟩, 41), (⟨"SidelessTownModel", "begin", "()V"⟩, 41), (⟨"SidelessTownModel", "next", "()V"⟩, 41), (⟨"SidelessTownModel", "byteAt", "(I)I"⟩, 41), (⟨"SidelessTownModel", "name", "()J"⟩, 41), (⟨"SidelessTownModel", "bad", "(I)V"⟩, 41), (⟨"SidelessTownModel", "readCorner", "()V"⟩, 41), (⟨"SidelessTownModel", "begins", "(II)V"⟩, 41), (⟨"SidelessTownModel", "must", "(Z)V"⟩, 41), (⟨"SidelessTownModel", "number", "(II)I"⟩, 41), (⟨"SidelessTownModel", "figures", "()I"⟩, 41), (⟨"SidelessTownModel", "mustEnd", "()V"⟩, 41), (⟨"SidelessTownModel", "readStreet", "()V"⟩, 41), (⟨"SidelessTownModel", "end", "(I)I"⟩, 41), (⟨"SidelessTownModel", "isJoined", "(II)Z"⟩, 41)]
theorem lw_r4 : ∀ q ∈ lw_privs_4, lw_okq q := List.forall_mem_cons.mpr ⟨lw_p48, List.forall_mem_cons.mpr ⟨lw_p49, List.forall_mem_cons.mpr ⟨lw_p50, List.forall_mem_cons.mpr ⟨lw_p51, List.forall_mem_cons.mpr ⟨lw_p52, List.forall_mem_cons.mpr ⟨lw_p53, List.forall_mem_cons.mpr ⟨lw_p54, List.forall_mem_cons.mpr ⟨lw_p55, List.forall_mem_cons.mpr ⟨lw_p56, List.forall_mem_cons.mpr ⟨lw_p57, List.forall_mem_cons.mpr ⟨lw_p58, List.forall_mem_cons.mpr ⟨lw_p59, List.forall_mem_cons.mpr ⟨lw_p60, List.forall_mem_cons.mpr ⟨lw_p61, List.forall_mem_cons.mpr ⟨lw_p62, List.forall_mem_cons.mpr ⟨lw_p63, fun _ h => absurd h List.not_mem_nil⟩⟩⟩⟩⟩⟩⟩⟩⟩⟩⟩⟩⟩⟩⟩⟩
theorem lw_p64 : lw_okq (⟨"SidelessTownModel", "ends", "(I)I"⟩, 41) := ⟨⟨by decide +kernel, by decide +kernel⟩, List.mem_of_getElem? (i := 1147) (by decide +kernel), List.mem_of_getElem? (i := 1385) (by decide +kernel), List.mem_of_getElem? (i := 1386) (by decide +kernel)⟩
theorem lw_p65 : lw_okq (⟨"SidelessTownModel", "isCorner", "(I)Z"⟩, 41) := ⟨⟨by decide +kernel, by decide +kernel⟩, List.mem_of_getElem? (i := 1147) (by decide +kernel), List.mem_of_getElem? (i := 1423) (by decide +kernel), List.mem_of_getElem? (i := 1424) (by decide +kernel)⟩
theorem lw_p66 : lw_okq (⟨"SidelessTownModel", "walks", "(IZZI)I"⟩, 41) := ⟨⟨by decide +kernel, by decide +kernel⟩, List.mem_of_getElem? (i := 1147) (by decide +kernel), List.mem_of_getElem? (i := 1443) (by decide +kernel), List.mem_of_getElem? (i := 1444) (by decide +kernel)⟩
theorem lw_p67 : lw_okq (⟨"SidelessTownModel", "starts", "(I)V"⟩, 41) := ⟨⟨by decide +kernel, by decide +kernel⟩, List.mem_of_getElem? (i := 1147) (by decide +kernel), List.mem_of_getElem? (i := 1447) (by decide +kernel), List.mem_of_getElem? (i := 1448) (by decide +kernel)⟩
theorem lw_p68 : lw_okq (⟨"SidelessTownModel", "goes", "(IZZ)Z"⟩, 41) := ⟨⟨by decide +kernel, by decide +kernel⟩, List.mem_of_getElem? (i := 1147) (by decide +kernel), List.mem_of_getElem? (i := 1451) (by decide +kernel), List.mem_of_getElem? (i := 1452) (by decide +kernel)⟩
theorem lw_p69 : lw_okq (⟨"SidelessTownModel", "streetBy", "(IZZ)I"⟩, 41) := ⟨⟨by decide +kernel, by decide +kernel⟩, List.mem_of_getElem? (i := 1147) (by decide +kernel), List.mem_of_getElem? (i := 1455) (by decide +kernel), List.mem_of_getElem? (i := 1456) (by decide +kernel)⟩
theorem lw_p70 : lw_okq (⟨"SidelessTownModel", "marked", "(II)I"⟩, 41) := ⟨⟨by decide +kernel, by decide +kernel⟩, List.mem_of_getElem? (i := 1147) (by decide +kernel), List.mem_of_getElem? (i := 1459) (by decide +kernel), List.mem_of_getElem? (i := 1460) (by decide +kernel)⟩
theorem lw_p71 : lw_okq (⟨"SidelessTownModel", "slope", "(IZ)I"⟩, 41) := ⟨⟨by decide +kernel, by decide +kernel⟩, List.mem_of_getElem? (i := 1147) (by decide +kernel), List.mem_of_getElem? (i := 1463) (by decide +kernel), List.mem_of_getElem? (i := 1464) (by decide +kernel)⟩
theorem lw_p72 : lw_okq (⟨"SidelessTownModel", "besides", "(I)I"⟩, 41) := ⟨⟨by decide +kernel, by decide +kernel⟩, List.mem_of_getElem? (i := 1147) (by decide +kernel), List.mem_of_getElem? (i := 1467) (by decide +kernel), List.mem_of_getElem? (i := 1468) (by decide +kernel)⟩
theorem lw_p73 : lw_okq (⟨"SidelessTownModel", "startTwo", "(II)V"⟩, 41) := ⟨⟨by decide +kernel, by decide +kernel⟩, List.mem_of_getElem? (i := 1147) (by decide +kernel), List.mem_of_getElem? (i := 1475) (by decide +kernel), List.mem_of_getElem? (i := 1476) (by decide +kernel)⟩
theorem lw_p74 : lw_okq (⟨"SidelessTownModel", "change", "()V"⟩, 41) := ⟨⟨by decide +kernel, by decide +kernel⟩, List.mem_of_getElem? (i := 1147) (by decide +kernel), List.mem_of_getElem? (i := 1479) (by decide +kernel), List.mem_of_getElem? (i := 1480) (by decide +kernel)⟩
theorem lw_p75 : lw_okq (⟨"SidelessTownModel", "splits", "()I"⟩, 41) := ⟨⟨by decide +kernel, by decide +kernel⟩, List.mem_of_getElem? (i := 1147) (by decide +kernel), List.mem_of_getElem? (i := 1487) (by decide +kernel), List.mem_of_getElem? (i := 1488) (by decide +kernel)⟩
theorem lw_p76 : lw_okq (⟨"SidelessTownModel", "areAlike", "(II)Z"⟩, 41) := ⟨⟨by decide +kernel, by decide +kernel⟩, List.mem_of_getElem? (i := 1147) (by decide +kernel), List.mem_of_getElem? (i := 1491) (by decide +kernel), List.mem_of_getElem? (i := 1492) (by decide +kernel)⟩
theorem lw_p77 : lw_okq (⟨"SidelessTownModel", "classBy", "(II)I"⟩, 41) := ⟨⟨by decide +kernel, by decide +kernel⟩, List.mem_of_getElem? (i := 1147) (by decide +kernel), List.mem_of_getElem? (i := 1498) (by decide +kernel), List.mem_of_getElem? (i := 1499) (by decide +kernel)⟩
theorem lw_p78 : lw_okq (⟨"SidelessTownModel", "seek", "(IZ)V"⟩, 41) := ⟨⟨by decide +kernel, by decide +kernel⟩, List.mem_of_getElem? (i := 1147) (by decide +kernel), List.mem_of_getElem? (i := 1506) (by decide +kernel), List.mem_of_getElem? (i := 1507) (by decide +kernel)⟩
theorem lw_p79 : lw_okq (⟨"SidelessTownModel", "reach", "(II)V"⟩, 41) := ⟨⟨by decide +kernel, by decide +kernel⟩, List.mem_of_getElem? (i := 1147) (by decide +kernel), List.mem_of_getElem? (i := 1510) (by decide +kernel), List.mem_of_getElem? (i := 1511) (by decide +kernel)⟩
def lw_privs_5 : List (MethodName × Nat) := [(⟨"SidelessTownModel", "ends", "(I)I"⟩, 41), (⟨"SidelessTownModel", "isCorner", "(I)Z"⟩, 41), (⟨"SidelessTownModel", "walks", "(IZZI)I"⟩, 41), (⟨"SidelessTownModel", "starts", "(I)V"⟩, 41), (⟨"SidelessTownModel", "goes", "(IZZ)Z"⟩, 41), (⟨"SidelessTownModel", "streetBy", "(IZZ)I"⟩, 41), (⟨"SidelessTownModel", "marked", "(II)I"⟩, 41), (⟨"SidelessTownModel", "slope", "(IZ)I"⟩, 41), (⟨"SidelessTownModel", "besides", "(I)I"⟩, 41), (⟨"SidelessTownModel", "startTwo", "(II)V"⟩, 41), (⟨"SidelessTownModel", "change", "()V"⟩, 41), (⟨"SidelessTownModel", "splits", "()I"⟩, 41), (⟨"SidelessTownModel", "areAlike", "(II)Z"⟩, 41), (⟨"SidelessTownModel", "classBy", "(II)I"⟩, 41), (⟨"SidelessTownModel", "seek", "(IZ)V"⟩, 41), (⟨"SidelessTownModel", "reach", "(II)V"⟩, 41)]
theorem lw_r5 : ∀ q ∈ lw_privs_5, lw_okq q := List.forall_mem_cons.mpr ⟨lw_p64, List.forall_mem_cons.mpr ⟨lw_p65, List.forall_mem_cons.mpr ⟨lw_p66, List.forall_mem_cons.mpr ⟨lw_p67, List.forall_mem_cons.mpr ⟨lw_p68, List.forall_mem_cons.mpr ⟨lw_p69, List.forall_mem_cons.mpr ⟨lw_p70, List.forall_mem_cons.mpr ⟨lw_p71, List.forall_mem_cons.mpr ⟨lw_p72, List.forall_mem_cons.mpr ⟨lw_p73, List.forall_mem_cons.mpr ⟨lw_p74, List.forall_mem_cons.mpr ⟨lw_p75, List.forall_mem_cons.mpr ⟨lw_p76, List.forall_mem_cons.mpr ⟨lw_p77, List.forall_mem_cons.mpr ⟨lw_p78, List.forall_mem_cons.mpr ⟨lw_p79, fun _ h => absurd h List.not_mem_nil⟩⟩⟩⟩⟩⟩⟩⟩⟩⟩⟩⟩⟩⟩⟩⟩
theorem lw_p80 : lw_okq (⟨"SidelessTownModel", "stateNow", "()I"⟩, 41) := ⟨⟨by decide +kernel, by decide +kernel⟩, List.mem_of_getElem? (i := 1147) (by decide +kernel), List.mem_of_getElem? (i := 1514) (by decide +kernel), List.mem_of_getElem? (i := 1515) (by decide +kernel)⟩
theorem lw_p81 : lw_okq (⟨"SidelessTownModel", "beAt", "(I)V"⟩, 41) := ⟨⟨by decide +kernel, by decide +kernel⟩, List.mem_of_getElem? (i := 1147) (by decide +kernel), List.mem_of_getElem? (i := 1518) (by decide +kernel), List.mem_of_getElem? (i := 1519) (by decide +kernel)⟩
theorem lw_p82 : lw_okq (⟨"SidelessTownModel", "firstAt", "(I)I"⟩, 41) := ⟨⟨by decide +kernel, by decide +kernel⟩, List.mem_of_getElem? (i := 1147) (by decide +kernel), List.mem_of_getElem? (i := 1525) (by decide +kernel), List.mem_of_getElem? (i := 1526) (by decide +kernel)⟩
theorem lw_p83 : lw_okq (⟨"SidelessTownModel", "layWay", "(ZI)Z"⟩, 41) := ⟨⟨by decide +kernel, by decide +kernel⟩, List.mem_of_getElem? (i := 1147) (by decide +kernel), List.mem_of_getElem? (i := 1537) (by decide +kernel), List.mem_of_getElem? (i := 1538) (by decide +kernel)⟩
theorem lw_p84 : lw_okq (⟨"SidelessTownModel", "fits", "(II)Z"⟩, 41) := ⟨⟨by decide +kernel, by decide +kernel⟩, List.mem_of_getElem? (i := 1147) (by decide +kernel), List.mem_of_getElem? (i := 1541) (by decide +kernel), List.mem_of_getElem? (i := 1542) (by decide +kernel)⟩
theorem lw_p85 : lw_okq (⟨"SidelessTownModel", "isNear", "(II)Z"⟩, 41) := ⟨⟨by decide +kernel, by decide +kernel⟩, List.mem_of_getElem? (i := 1147) (by decide +kernel), List.mem_of_getElem? (i := 1545) (by decide +kernel), List.mem_of_getElem? (i := 1546) (by decide +kernel)⟩
theorem lw_p86 : lw_okq (⟨"SidelessTownModel", "isWay", "(Z)Z"⟩, 41) := ⟨⟨by decide +kernel, by decide +kernel⟩, List.mem_of_getElem? (i := 1147) (by decide +kernel), List.mem_of_getElem? (i := 1549) (by decide +kernel), List.mem_of_getElem? (i := 1550) (by decide +kernel)⟩
theorem lw_p87 : lw_okq (⟨"SidelessTownModel", "turnsAbout", "(IZ)Z"⟩, 41) := ⟨⟨by decide +kernel, by decide +kernel⟩, List.mem_of_getElem? (i := 1147) (by decide +kernel), List.mem_of_getElem? (i := 1553) (by decide +kernel), List.mem_of_getElem? (i := 1554) (by decide +kernel)⟩
theorem lw_p88 : lw_okq (⟨"SidelessTownModel", "fixedNow", "()I"⟩, 41) := ⟨⟨by decide +kernel, by decide +kernel⟩, List.mem_of_getElem? (i := 1147) (by decide +kernel), List.mem_of_getElem? (i := 1557) (by decide +kernel), List.mem_of_getElem? (i := 1558) (by decide +kernel)⟩
theorem lw_p89 : lw_okq (⟨"SidelessTownModel", "meets", "(II)I"⟩, 41) := ⟨⟨by decide +kernel, by decide +kernel⟩, List.mem_of_getElem? (i := 1147) (by decide +kernel), List.mem_of_getElem? (i := 1574) (by decide +kernel), List.mem_of_getElem? (i := 1575) (by decide +kernel)⟩
theorem lw_p90 : lw_okq (⟨"SidelessTownModel", "soon", "(II)I"⟩, 41) := ⟨⟨by decide +kernel, by decide +kernel⟩, List.mem_of_getElem? (i := 1147) (by decide +kernel), List.mem_of_getElem? (i := 1578) (by decide +kernel), List.mem_of_getElem? (i := 1579) (by decide +kernel)⟩
theorem lw_p91 : lw_okq (⟨"SidelessTownModel", "plainTo", "(II)I"⟩, 41) := ⟨⟨by decide +kernel, by decide +kernel⟩, List.mem_of_getElem? (i := 1147) (by decide +kernel), List.mem_of_getElem? (i := 1582) (by decide +kernel), List.mem_of_getElem? (i := 1583) (by decide +kernel)⟩
theorem lw_p92 : lw_okq (⟨"SidelessTownModel", "isWord", "(I)Z"⟩, 41) := ⟨⟨by decide +kernel, by decide +kernel⟩, List.mem_of_getElem? (i := 1147) (by decide +kernel), List.mem_of_getElem? (i := 1602) (by decide +kernel), List.mem_of_getElem? (i := 1603) (by decide +kernel)⟩
theorem lw_p93 : lw_okq (⟨"SidelessTownModel", "kindOf", "(I)I"⟩, 41) := ⟨⟨by decide +kernel, by decide +kernel⟩, List.mem_of_getElem? (i := 1147) (by decide +kernel), List.mem_of_getElem? (i := 1606) (by decide +kernel), List.mem_of_getElem? (i := 1607) (by decide +kernel)⟩
theorem lw_p94 : lw_okq (⟨"SidelessTownModel", "wordAt", "(I)I"⟩, 41) := ⟨⟨by decide +kernel, by decide +kernel⟩, List.mem_of_getElem? (i := 1147) (by decide +kernel), List.mem_of_getElem? (i := 1610) (by decide +kernel), List.mem_of_getElem? (i := 1611) (by decide +kernel)⟩
theorem lw_p95 : lw_okq (⟨"SidelessTownModel", "sizeOf", "(I)I"⟩, 41) := ⟨⟨by decide +kernel, by decide +kernel⟩, List.mem_of_getElem? (i := 1147) (by decide +kernel), List.mem_of_getElem? (i := 1626) (by decide +kernel), List.mem_of_getElem? (i := 1627) (by decide +kernel)⟩
def lw_privs_6 : List (MethodName × Nat) := [(⟨"SidelessTownModel", "stateNow", "()I"⟩, 41), (⟨"SidelessTownModel", "beAt", "(I)V"⟩, 41), (⟨"SidelessTownModel", "firstAt", "(I)I"⟩, 41), (⟨"SidelessTownModel", "layWay", "(ZI)Z"⟩, 41), (⟨"SidelessTownModel", "fits", "(II)Z"⟩, 41), (⟨"SidelessTownModel", "isNear", "(II)Z"⟩, 41), (⟨"SidelessTownModel", "isWay", "(Z)Z"⟩, 41), (⟨"SidelessTownModel", "turnsAbout", "(IZ)Z"⟩, 41), (⟨"SidelessTownModel", "fixedNow", "()I"⟩, 41), (⟨"SidelessTownModel", "meets", "(II)I"⟩, 41), (⟨"SidelessTownModel", "soon", "(II)I"⟩, 41), (⟨"SidelessTownModel", "plainTo", "(II)I"⟩, 41), (⟨"SidelessTownModel", "isWord", "(I)Z"⟩, 41), (⟨"SidelessTownModel", "kindOf", "(I)I"⟩, 41), (⟨"SidelessTownModel", "wordAt", "(I)I"⟩, 41), (⟨"SidelessTownModel", "sizeOf", "(I)I"⟩, 41)]
theorem lw_r6 : ∀ q ∈ lw_privs_6, lw_okq q := List.forall_mem_cons.mpr ⟨lw_p80, List.forall_mem_cons.mpr ⟨lw_p81, List.forall_mem_cons.mpr ⟨lw_p82, List.forall_mem_cons.mpr ⟨lw_p83, List.forall_mem_cons.mpr ⟨lw_p84, List.forall_mem_cons.mpr ⟨lw_p85, List.forall_mem_cons.mpr ⟨lw_p86, List.forall_mem_cons.mpr ⟨lw_p87, List.forall_mem_cons.mpr ⟨lw_p88, List.forall_mem_cons.mpr ⟨lw_p89, List.forall_mem_cons.mpr ⟨lw_p90, List.forall_mem_cons.mpr ⟨lw_p91, List.forall_mem_cons.mpr ⟨lw_p92, List.forall_mem_cons.mpr ⟨lw_p93, List.forall_mem_cons.mpr ⟨lw_p94, List.forall_mem_cons.mpr ⟨lw_p95, fun _ h => absurd h List.not_mem_nil⟩⟩⟩⟩⟩⟩⟩⟩⟩⟩⟩⟩⟩⟩⟩⟩
theorem lw_p96 : lw_okq (⟨"SidelessTownModel", "began", "(I)V"⟩, 41) := ⟨⟨by decide +kernel, by decide +kernel⟩, List.mem_of_getElem? (i := 1147) (by decide +kernel), List.mem_of_getElem? (i := 1630) (by decide +kernel), List.mem_of_getElem? (i := 1631) (by decide +kernel)⟩
theorem lw_p97 : lw_okq (⟨"SidelessTownModel", "plainSize", "(I)I"⟩, 41) := ⟨⟨by decide +kernel, by decide +kernel⟩, List.mem_of_getElem? (i := 1147) (by decide +kernel), List.mem_of_getElem? (i := 1634) (by decide +kernel), List.mem_of_getElem? (i := 1635) (by decide +kernel)⟩
theorem lw_p98 : lw_okq (⟨"SidelessTownModel", "markOf", "(I)I"⟩, 41) := ⟨⟨by decide +kernel, by decide +kernel⟩, List.mem_of_getElem? (i := 1147) (by decide +kernel), List.mem_of_getElem? (i := 1638) (by decide +kernel), List.mem_of_getElem? (i := 1639) (by decide +kernel)⟩
theorem lw_p99 : lw_okq (⟨"SidelessTownModel", "takenSize", "(I)I"⟩, 41) := ⟨⟨by decide +kernel, by decide +kernel⟩, List.mem_of_getElem? (i := 1147) (by decide +kernel), List.mem_of_getElem? (i := 1642) (by decide +kernel), List.mem_of_getElem? (i := 1643) (by decide +kernel)⟩
theorem lw_p100 : lw_okq (⟨"SidelessTownModel", "turnedSize", "(I)I"⟩, 41) := ⟨⟨by decide +kernel, by decide +kernel⟩, List.mem_of_getElem? (i := 1147) (by decide +kernel), List.mem_of_getElem? (i := 1646) (by decide +kernel), List.mem_of_getElem? (i := 1647) (by decide +kernel)⟩
def lw_privs_7 : List (MethodName × Nat) := [(⟨"SidelessTownModel", "began", "(I)V"⟩, 41), (⟨"SidelessTownModel", "plainSize", "(I)I"⟩, 41), (⟨"SidelessTownModel", "markOf", "(I)I"⟩, 41), (⟨"SidelessTownModel", "takenSize", "(I)I"⟩, 41), (⟨"SidelessTownModel", "turnedSize", "(I)I"⟩, 41)]
theorem lw_r7 : ∀ q ∈ lw_privs_7, lw_okq q := List.forall_mem_cons.mpr ⟨lw_p96, List.forall_mem_cons.mpr ⟨lw_p97, List.forall_mem_cons.mpr ⟨lw_p98, List.forall_mem_cons.mpr ⟨lw_p99, List.forall_mem_cons.mpr ⟨lw_p100, fun _ h => absurd h List.not_mem_nil⟩⟩⟩⟩⟩
def lw_privs : List (MethodName × Nat) := lw_privs_1 ++ (lw_privs_2 ++ (lw_privs_3 ++ (lw_privs_4 ++ (lw_privs_5 ++ (lw_privs_6 ++ (lw_privs_7))))))
def lw_tbl : List Cond := k2_sels lw_privs ++ tables_1
theorem lw_privs_ok : ∀ q ∈ lw_privs, lw_okq q := by
  show ∀ q ∈ lw_privs_1 ++ (lw_privs_2 ++ (lw_privs_3 ++ (lw_privs_4 ++ (lw_privs_5 ++ (lw_privs_6 ++ (lw_privs_7)))))), lw_okq q
  exact List.forall_mem_append.mpr ⟨lw_r1, List.forall_mem_append.mpr ⟨lw_r2, List.forall_mem_append.mpr ⟨lw_r3, List.forall_mem_append.mpr ⟨lw_r4, List.forall_mem_append.mpr ⟨lw_r5, List.forall_mem_append.mpr ⟨lw_r6, lw_r7⟩⟩⟩⟩⟩⟩
def lw_T : List Cond := lw_tbl.filter goodWord
theorem lw_T_in {w : Cond} (h : w ∈ lw_T) : w ∈ lw_tbl := (List.mem_filter.mp h).1
theorem lw_T_good : GoodIn lw_T lw_T := fun w h => ⟨h, good_of_word (List.mem_filter.mp h).2⟩
theorem lw_T_of {w : Cond} {i : Nat} (h : lw_tbl[i]? = some w) (hg : goodWord w = true) : w ∈ lw_T := List.mem_filter.mpr ⟨List.mem_of_getElem? h, hg⟩
end
section
def RX0 : String := "SidelessTown$Asks"
def TX0 : u_T := fun k => match k with
  | 0 => ("SidelessTown$Asks", "saying", "LSidelessTown$Saying;", true)
  | 1 => ("SidelessTown$Asks", "asked", "I", false)
  | 2 => ("SidelessTown$Asks", "word", "I", false)
  | 3 => ("SidelessTown$Asks", "kind", "I", false)
  | 4 => ("SidelessTown$Asks", "numbers", "[I", true)
  | _ => ("SidelessTown$Asks", "many", "I", false)
def tyX0 : Nat → FieldType := fun k => match k with
  | 0 => .object "SidelessTown$Saying"
  | 1 => .int
  | 2 => .int
  | 3 => .int
  | 4 => .array .int
  | _ => .int
abbrev wsX00 : List Cond := u_ws RX0 TX0 6
theorem nmX0 : ∀ a, a < 6 → ∀ b, b < 6 → a ≠ b → (TX0 a).2.1 ≠ (TX0 b).2.1 := by decide +kernel
theorem tyX0_ok : ∀ k, k < 6 → parseFieldDescriptor (TX0 k).2.2.1 = some (tyX0 k) := by decide +kernel
abbrev cX0_init : ByteArray := prog_2_method_1_code
def yX0_init : MethodName := ⟨RX0, "<init>", "(LSidelessTown$Saying;)V"⟩
abbrev cX0_left : ByteArray := prog_2_method_2_code
def yX0_left : MethodName := ⟨RX0, "left", "(I)I"⟩
abbrev cX0_begin : ByteArray := prog_2_method_3_code
def yX0_begin : MethodName := ⟨RX0, "begin", "(I)V"⟩
abbrev cX0_leave : ByteArray := prog_2_method_4_code
def yX0_leave : MethodName := ⟨RX0, "leave", "(I)V"⟩
abbrev cX0_sizeOfAsked : ByteArray := prog_2_method_5_code
def yX0_sizeOfAsked : MethodName := ⟨RX0, "sizeOfAsked", "()I"⟩
abbrev cX0_markOfAsked : ByteArray := prog_2_method_6_code
def yX0_markOfAsked : MethodName := ⟨RX0, "markOfAsked", "()I"⟩
abbrev cX0_body10 : ByteArray := prog_2_method_7_code
def yX0_body10 : MethodName := ⟨RX0, "body10", "()I"⟩
abbrev cX0_body11 : ByteArray := prog_2_method_8_code
def yX0_body11 : MethodName := ⟨RX0, "body11", "()I"⟩
abbrev cX0_body12 : ByteArray := prog_2_method_9_code
def yX0_body12 : MethodName := ⟨RX0, "body12", "()I"⟩
abbrev cX0_body13 : ByteArray := prog_2_method_10_code
def yX0_body13 : MethodName := ⟨RX0, "body13", "()I"⟩
abbrev cX0_body14 : ByteArray := prog_2_method_11_code
def yX0_body14 : MethodName := ⟨RX0, "body14", "()I"⟩
abbrev cX0_body20 : ByteArray := prog_2_method_12_code
def yX0_body20 : MethodName := ⟨RX0, "body20", "()I"⟩
abbrev cX0_body21 : ByteArray := prog_2_method_13_code
def yX0_body21 : MethodName := ⟨RX0, "body21", "()I"⟩
abbrev cX0_body22 : ByteArray := prog_2_method_14_code
def yX0_body22 : MethodName := ⟨RX0, "body22", "()I"⟩
abbrev cX0_body23 : ByteArray := prog_2_method_15_code
def yX0_body23 : MethodName := ⟨RX0, "body23", "()I"⟩
def RX1 : String := "SidelessTown$Goals"
def TX1 : u_T := fun k => match k with
  | 0 => ("SidelessTown$Goals", "town", "LSidelessTown$Town;", true)
  | 1 => ("SidelessTown$Goals", "goal", "[I", true)
  | 2 => ("SidelessTown$Goals", "sorted", "[I", true)
  | 3 => ("SidelessTown$Goals", "finer", "[I", true)
  | 4 => ("SidelessTown$Goals", "classes", "I", false)
  | 5 => ("SidelessTown$Goals", "pairs", "[I", true)
  | 6 => ("SidelessTown$Goals", "wordsTo", "[I", true)
  | _ => ("SidelessTown$Goals", "pairsSeen", "I", false)
def tyX1 : Nat → FieldType := fun k => match k with
  | 0 => .object "SidelessTown$Town"
  | 1 => .array .int
  | 2 => .array .int
  | 3 => .array .int
  | 4 => .int
  | 5 => .array .int
  | 6 => .array .int
  | _ => .int
abbrev wsX10 : List Cond := u_ws RX1 TX1 8
theorem nmX1 : ∀ a, a < 8 → ∀ b, b < 8 → a ≠ b → (TX1 a).2.1 ≠ (TX1 b).2.1 := by decide +kernel
theorem tyX1_ok : ∀ k, k < 8 → parseFieldDescriptor (TX1 k).2.2.1 = some (tyX1 k) := by decide +kernel
abbrev cX1_init : ByteArray := prog_3_method_1_code
def yX1_init : MethodName := ⟨RX1, "<init>", "(LSidelessTown$Town;)V"⟩
abbrev cX1_classOf : ByteArray := prog_3_method_2_code
def yX1_classOf : MethodName := ⟨RX1, "classOf", "(I)I"⟩
abbrev cX1_classes : ByteArray := prog_3_method_3_code
def yX1_classes : MethodName := ⟨RX1, "classes", "()I"⟩
abbrev cX1_look : ByteArray := prog_3_method_4_code
def yX1_look : MethodName := ⟨RX1, "look", "()V"⟩
abbrev cX1_goalOf : ByteArray := prog_3_method_5_code
def yX1_goalOf : MethodName := ⟨RX1, "goalOf", "(II)I"⟩
abbrev cX1_sortIntoClasses : ByteArray := prog_3_method_6_code
def yX1_sortIntoClasses : MethodName := ⟨RX1, "sortIntoClasses", "()V"⟩
abbrev cX1_finerClassOf : ByteArray := prog_3_method_7_code
def yX1_finerClassOf : MethodName := ⟨RX1, "finerClassOf", "(I)I"⟩
abbrev cX1_alikeSoFar : ByteArray := prog_3_method_8_code
def yX1_alikeSoFar : MethodName := ⟨RX1, "alikeSoFar", "(II)Z"⟩
abbrev cX1_soonestMeeting : ByteArray := prog_3_method_9_code
def yX1_soonestMeeting : MethodName := ⟨RX1, "soonestMeeting", "(II)I"⟩
abbrev cX1_stepOf : ByteArray := prog_3_method_10_code
def yX1_stepOf : MethodName := ⟨RX1, "stepOf", "(III)Z"⟩
abbrev cX1_notePair : ByteArray := prog_3_method_11_code
def yX1_notePair : MethodName := ⟨RX1, "notePair", "(III)V"⟩
def RX2 : String := "SidelessTown$Kept"
def TX2 : u_T := fun k => match k with
  | 0 => ("SidelessTown$Kept", "town", "LSidelessTown$Town;", true)
  | 1 => ("SidelessTown$Kept", "saying", "LSidelessTown$Saying;", true)
  | _ => ("SidelessTown$Kept", "kept", "Z", false)
def tyX2 : Nat → FieldType := fun k => match k with
  | 0 => .object "SidelessTown$Town"
  | 1 => .object "SidelessTown$Saying"
  | _ => .boolean
abbrev wsX20 : List Cond := u_ws RX2 TX2 3
theorem nmX2 : ∀ a, a < 3 → ∀ b, b < 3 → a ≠ b → (TX2 a).2.1 ≠ (TX2 b).2.1 := by decide +kernel
theorem tyX2_ok : ∀ k, k < 3 → parseFieldDescriptor (TX2 k).2.2.1 = some (tyX2 k) := by decide +kernel
abbrev cX2_init : ByteArray := prog_4_method_1_code
def yX2_init : MethodName := ⟨RX2, "<init>", "()V"⟩
abbrev cX2_isKept : ByteArray := prog_4_method_2_code
def yX2_isKept : MethodName := ⟨RX2, "isKept", "()Z"⟩
abbrev cX2_keep : ByteArray := prog_4_method_3_code
def yX2_keep : MethodName := ⟨RX2, "keep", "(LSidelessTown$Town;LSidelessTown$Saying;)V"⟩
abbrev cX2_giveBack : ByteArray := prog_4_method_4_code
def yX2_giveBack : MethodName := ⟨RX2, "giveBack", "(LSidelessTown$Town;LSidelessTown$Saying;)V"⟩
def RX3 : String := "SidelessTown$Layings"
def TX3 : u_T := fun k => match k with
  | 0 => ("SidelessTown$Layings", "town", "LSidelessTown$Town;", true)
  | 1 => ("SidelessTown$Layings", "on", "[I", true)
  | 2 => ("SidelessTown$Layings", "block", "[I", true)
  | 3 => ("SidelessTown$Layings", "anyImage", "Z", false)
  | _ => ("SidelessTown$Layings", "counted", "Z", false)
def tyX3 : Nat → FieldType := fun k => match k with
  | 0 => .object "SidelessTown$Town"
  | 1 => .array .int
  | 2 => .array .int
  | 3 => .boolean
  | _ => .boolean
abbrev wsX30 : List Cond := u_ws RX3 TX3 5
theorem nmX3 : ∀ a, a < 5 → ∀ b, b < 5 → a ≠ b → (TX3 a).2.1 ≠ (TX3 b).2.1 := by decide +kernel
theorem tyX3_ok : ∀ k, k < 5 → parseFieldDescriptor (TX3 k).2.2.1 = some (tyX3 k) := by decide +kernel
abbrev cX3_init : ByteArray := prog_5_method_1_code
def yX3_init : MethodName := ⟨RX3, "<init>", "(LSidelessTown$Town;)V"⟩
abbrev cX3_forget : ByteArray := prog_5_method_2_code
def yX3_forget : MethodName := ⟨RX3, "forget", "()V"⟩
abbrev cX3_countAll : ByteArray := prog_5_method_3_code
def yX3_countAll : MethodName := ⟨RX3, "countAll", "()V"⟩
abbrev cX3_howMany : ByteArray := prog_5_method_4_code
def yX3_howMany : MethodName := ⟨RX3, "howMany", "(I)I"⟩
abbrev cX3_whereLaid : ByteArray := prog_5_method_5_code
def yX3_whereLaid : MethodName := ⟨RX3, "whereLaid", "(III)I"⟩
abbrev cX3_leastMovedByAllImages : ByteArray := prog_5_method_6_code
def yX3_leastMovedByAllImages : MethodName := ⟨RX3, "leastMovedByAllImages", "()I"⟩
abbrev cX3_canLay : ByteArray := prog_5_method_7_code
def yX3_canLay : MethodName := ⟨RX3, "canLay", "(IIII)Z"⟩
abbrev cX3_canLayRest : ByteArray := prog_5_method_8_code
def yX3_canLayRest : MethodName := ⟨RX3, "canLayRest", "(II)Z"⟩
abbrev cX3_nextToLay : ByteArray := prog_5_method_9_code
def yX3_nextToLay : MethodName := ⟨RX3, "nextToLay", "()I"⟩
abbrev cX3_fits : ByteArray := prog_5_method_10_code
def yX3_fits : MethodName := ⟨RX3, "fits", "(II)Z"⟩
abbrev cX3_ordersAgree : ByteArray := prog_5_method_11_code
def yX3_ordersAgree : MethodName := ⟨RX3, "ordersAgree", "(I)Z"⟩
def RX4 : String := "SidelessTown$Rows"
def TX4 : u_T := fun k => match k with
  | 0 => ("SidelessTown$Rows", "lane", "[I", true)
  | 1 => ("SidelessTown$Rows", "size", "[I", true)
  | _ => ("SidelessTown$Rows", "items", "[I", true)
def tyX4 : Nat → FieldType := fun k => match k with
  | 0 => .array .int
  | 1 => .array .int
  | _ => .array .int
abbrev wsX40 : List Cond := u_ws RX4 TX4 3
theorem nmX4 : ∀ a, a < 3 → ∀ b, b < 3 → a ≠ b → (TX4 a).2.1 ≠ (TX4 b).2.1 := by decide +kernel
theorem tyX4_ok : ∀ k, k < 3 → parseFieldDescriptor (TX4 k).2.2.1 = some (tyX4 k) := by decide +kernel
abbrev cX4_init : ByteArray := prog_6_method_1_code
def yX4_init : MethodName := ⟨RX4, "<init>", "()V"⟩
abbrev cX4_has : ByteArray := prog_6_method_2_code
def yX4_has : MethodName := ⟨RX4, "has", "(I)Z"⟩
abbrev cX4_missing : ByteArray := prog_6_method_3_code
def yX4_missing : MethodName := ⟨RX4, "missing", "(I)Z"⟩
abbrev cX4_howMany : ByteArray := prog_6_method_4_code
def yX4_howMany : MethodName := ⟨RX4, "howMany", "()I"⟩
abbrev cX4_findingAt : ByteArray := prog_6_method_5_code
def yX4_findingAt : MethodName := ⟨RX4, "findingAt", "(III)I"⟩
abbrev cX4_findingBetween : ByteArray := prog_6_method_6_code
def yX4_findingBetween : MethodName := ⟨RX4, "findingBetween", "(IIIII)I"⟩
abbrev cX4_beyond : ByteArray := prog_6_method_7_code
def yX4_beyond : MethodName := ⟨RX4, "beyond", "(III)Z"⟩
abbrev cX4_make : ByteArray := prog_6_method_8_code
def yX4_make : MethodName := ⟨RX4, "make", "(III)V"⟩
abbrev cX4_item : ByteArray := prog_6_method_9_code
def yX4_item : MethodName := ⟨RX4, "item", "(II)I"⟩
abbrev cX4_store : ByteArray := prog_6_method_10_code
def yX4_store : MethodName := ⟨RX4, "store", "(III)I"⟩
abbrev cX4_lowestBits : ByteArray := prog_6_method_11_code
def yX4_lowestBits : MethodName := ⟨RX4, "lowestBits", "(II)I"⟩
abbrev cX4_move : ByteArray := prog_6_method_12_code
def yX4_move : MethodName := ⟨RX4, "move", "(IIIII)V"⟩
abbrev cX4_takeAway : ByteArray := prog_6_method_13_code
def yX4_takeAway : MethodName := ⟨RX4, "takeAway", "(I)I"⟩
def RX5 : String := "SidelessTown$Saying"
def TX5 : u_T := fun k => match k with
  | 0 => ("SidelessTown$Saying", "length", "I", false)
  | _ => ("SidelessTown$Saying", "words", "[I", true)
def tyX5 : Nat → FieldType := fun k => match k with
  | 0 => .int
  | _ => .array .int
abbrev wsX50 : List Cond := u_ws RX5 TX5 2
theorem nmX5 : ∀ a, a < 2 → ∀ b, b < 2 → a ≠ b → (TX5 a).2.1 ≠ (TX5 b).2.1 := by decide +kernel
theorem tyX5_ok : ∀ k, k < 2 → parseFieldDescriptor (TX5 k).2.2.1 = some (tyX5 k) := by decide +kernel
abbrev cX5_init : ByteArray := prog_7_method_1_code
def yX5_init : MethodName := ⟨RX5, "<init>", "()V"⟩
abbrev cX5_clear : ByteArray := prog_7_method_2_code
def yX5_clear : MethodName := ⟨RX5, "clear", "()V"⟩
abbrev cX5_become : ByteArray := prog_7_method_3_code
def yX5_become : MethodName := ⟨RX5, "become", "(LSidelessTown$Saying;)V"⟩
abbrev cX5_add : ByteArray := prog_7_method_4_code
def yX5_add : MethodName := ⟨RX5, "add", "(I)Z"⟩
abbrev cX5_length : ByteArray := prog_7_method_5_code
def yX5_length : MethodName := ⟨RX5, "length", "()I"⟩
abbrev cX5_has : ByteArray := prog_7_method_6_code
def yX5_has : MethodName := ⟨RX5, "has", "(I)Z"⟩
abbrev cX5_wordAt : ByteArray := prog_7_method_7_code
def yX5_wordAt : MethodName := ⟨RX5, "wordAt", "(I)I"⟩
abbrev cX5_kindAt : ByteArray := prog_7_method_8_code
def yX5_kindAt : MethodName := ⟨RX5, "kindAt", "(I)I"⟩
abbrev cX5_isOne : ByteArray := prog_7_method_9_code
def yX5_isOne : MethodName := ⟨RX5, "isOne", "(II)Z"⟩
def RX6 : String := "SidelessTown$Search"
def TX6 : u_T := fun k => match k with
  | 0 => ("SidelessTown$Search", "town", "LSidelessTown$Town;", true)
  | 1 => ("SidelessTown$Search", "walker", "LSidelessTown$Walker;", true)
  | 2 => ("SidelessTown$Search", "states", "[I", true)
  | 3 => ("SidelessTown$Search", "before", "[I", true)
  | 4 => ("SidelessTown$Search", "by", "[I", true)
  | 5 => ("SidelessTown$Search", "words", "[I", true)
  | 6 => ("SidelessTown$Search", "seen", "[I", true)
  | _ => ("SidelessTown$Search", "reached", "I", false)
def tyX6 : Nat → FieldType := fun k => match k with
  | 0 => .object "SidelessTown$Town"
  | 1 => .object "SidelessTown$Walker"
  | 2 => .array .int
  | 3 => .array .int
  | 4 => .array .int
  | 5 => .array .int
  | 6 => .array .int
  | _ => .int
abbrev wsX60 : List Cond := u_ws RX6 TX6 8
theorem nmX6 : ∀ a, a < 8 → ∀ b, b < 8 → a ≠ b → (TX6 a).2.1 ≠ (TX6 b).2.1 := by decide +kernel
theorem tyX6_ok : ∀ k, k < 8 → parseFieldDescriptor (TX6 k).2.2.1 = some (tyX6 k) := by decide +kernel
abbrev cX6_init : ByteArray := prog_8_method_1_code
def yX6_init : MethodName := ⟨RX6, "<init>", "(LSidelessTown$Town;)V"⟩
abbrev cX6_spread : ByteArray := prog_8_method_2_code
def yX6_spread : MethodName := ⟨RX6, "spread", "(II)V"⟩
abbrev cX6_standAt : ByteArray := prog_8_method_3_code
def yX6_standAt : MethodName := ⟨RX6, "standAt", "(I)V"⟩
abbrev cX6_note : ByteArray := prog_8_method_4_code
def yX6_note : MethodName := ⟨RX6, "note", "(III)V"⟩
abbrev cX6_firstAt : ByteArray := prog_8_method_5_code
def yX6_firstAt : MethodName := ⟨RX6, "firstAt", "(I)I"⟩
abbrev cX6_firstAtWell : ByteArray := prog_8_method_6_code
def yX6_firstAtWell : MethodName := ⟨RX6, "firstAtWell", "()I"⟩
abbrev cX6_better : ByteArray := prog_8_method_7_code
def yX6_better : MethodName := ⟨RX6, "better", "(II)Z"⟩
abbrev cX6_cornerAt : ByteArray := prog_8_method_8_code
def yX6_cornerAt : MethodName := ⟨RX6, "cornerAt", "(I)I"⟩
abbrev cX6_wordsTo : ByteArray := prog_8_method_9_code
def yX6_wordsTo : MethodName := ⟨RX6, "wordsTo", "(I)I"⟩
abbrev cX6_wordOnTheWay : ByteArray := prog_8_method_10_code
def yX6_wordOnTheWay : MethodName := ⟨RX6, "wordOnTheWay", "(II)I"⟩
def RX7 : String := "SidelessTown$Text"
def TX7 : u_T := fun k => match k with
  | 0 => ("SidelessTown$Text", "tape", "[I", true)
  | 1 => ("SidelessTown$Text", "length", "I", false)
  | 2 => ("SidelessTown$Text", "starts", "[I", true)
  | 3 => ("SidelessTown$Text", "sorts", "[I", true)
  | 4 => ("SidelessTown$Text", "values", "[I", true)
  | 5 => ("SidelessTown$Text", "tokens", "I", false)
  | 6 => ("SidelessTown$Text", "token", "I", false)
  | 7 => ("SidelessTown$Text", "number", "I", false)
  | 8 => ("SidelessTown$Text", "faultNumber", "I", false)
  | _ => ("SidelessTown$Text", "faultPlace", "I", false)
def tyX7 : Nat → FieldType := fun k => match k with
  | 0 => .array .int
  | 1 => .int
  | 2 => .array .int
  | 3 => .array .int
  | 4 => .array .int
  | 5 => .int
  | 6 => .int
  | 7 => .int
  | 8 => .int
  | _ => .int
abbrev wsX70 : List Cond := u_ws RX7 TX7 10
theorem nmX7 : ∀ a, a < 10 → ∀ b, b < 10 → a ≠ b → (TX7 a).2.1 ≠ (TX7 b).2.1 := by decide +kernel
theorem tyX7_ok : ∀ k, k < 10 → parseFieldDescriptor (TX7 k).2.2.1 = some (tyX7 k) := by decide +kernel
abbrev cX7_init : ByteArray := prog_9_method_1_code
def yX7_init : MethodName := ⟨RX7, "<init>", "()V"⟩
abbrev cX7_length : ByteArray := prog_9_method_2_code
def yX7_length : MethodName := ⟨RX7, "length", "()I"⟩
abbrev cX7_hasRoomFor : ByteArray := prog_9_method_3_code
def yX7_hasRoomFor : MethodName := ⟨RX7, "hasRoomFor", "(I)Z"⟩
abbrev cX7_append : ByteArray := prog_9_method_4_code
def yX7_append : MethodName := ⟨RX7, "append", "(JI)V"⟩
abbrev cX7_empty : ByteArray := prog_9_method_5_code
def yX7_empty : MethodName := ⟨RX7, "empty", "()V"⟩
abbrev cX7_faultNumber : ByteArray := prog_9_method_6_code
def yX7_faultNumber : MethodName := ⟨RX7, "faultNumber", "()I"⟩
abbrev cX7_faultPlace : ByteArray := prog_9_method_7_code
def yX7_faultPlace : MethodName := ⟨RX7, "faultPlace", "()I"⟩
abbrev cX7_readTown : ByteArray := prog_9_method_8_code
def yX7_readTown : MethodName := ⟨RX7, "readTown", "(LSidelessTown$Town;)Z"⟩
abbrev cX7_readCorners : ByteArray := prog_9_method_9_code
def yX7_readCorners : MethodName := ⟨RX7, "readCorners", "(LSidelessTown$Town;)Z"⟩
abbrev cX7_readCorner : ByteArray := prog_9_method_10_code
def yX7_readCorner : MethodName := ⟨RX7, "readCorner", "(LSidelessTown$Town;)Z"⟩
abbrev cX7_readStreets : ByteArray := prog_9_method_11_code
def yX7_readStreets : MethodName := ⟨RX7, "readStreets", "(LSidelessTown$Town;)Z"⟩
abbrev cX7_readStreet : ByteArray := prog_9_method_12_code
def yX7_readStreet : MethodName := ⟨RX7, "readStreet", "(LSidelessTown$Town;)Z"⟩
abbrev cX7_readStreetEnd : ByteArray := prog_9_method_13_code
def yX7_readStreetEnd : MethodName := ⟨RX7, "readStreetEnd", "(LSidelessTown$Town;I)Z"⟩
abbrev cX7_readSaying : ByteArray := prog_9_method_14_code
def yX7_readSaying : MethodName := ⟨RX7, "readSaying", "(LSidelessTown$Saying;)Z"⟩
abbrev cX7_readWord : ByteArray := prog_9_method_15_code
def yX7_readWord : MethodName := ⟨RX7, "readWord", "(LSidelessTown$Saying;)Z"⟩
abbrev cX7_readNumber : ByteArray := prog_9_method_16_code
def yX7_readNumber : MethodName := ⟨RX7, "readNumber", "(I)Z"⟩
abbrev cX7_readSign : ByteArray := prog_9_method_17_code
def yX7_readSign : MethodName := ⟨RX7, "readSign", "()Z"⟩
abbrev cX7_isName : ByteArray := prog_9_method_18_code
def yX7_isName : MethodName := ⟨RX7, "isName", "(I)Z"⟩
abbrev cX7_isWord : ByteArray := prog_9_method_19_code
def yX7_isWord : MethodName := ⟨RX7, "isWord", "()Z"⟩
abbrev cX7_sort : ByteArray := prog_9_method_20_code
def yX7_sort : MethodName := ⟨RX7, "sort", "()I"⟩
abbrev cX7_value : ByteArray := prog_9_method_21_code
def yX7_value : MethodName := ⟨RX7, "value", "()I"⟩
abbrev cX7_fail : ByteArray := prog_9_method_22_code
def yX7_fail : MethodName := ⟨RX7, "fail", "(I)Z"⟩
abbrev cX7_cut : ByteArray := prog_9_method_23_code
def yX7_cut : MethodName := ⟨RX7, "cut", "()V"⟩
abbrev cX7_sortOf : ByteArray := prog_9_method_24_code
def yX7_sortOf : MethodName := ⟨RX7, "sortOf", "(I)I"⟩
abbrev cX7_behindRun : ByteArray := prog_9_method_25_code
def yX7_behindRun : MethodName := ⟨RX7, "behindRun", "(II)I"⟩
abbrev cX7_note : ByteArray := prog_9_method_26_code
def yX7_note : MethodName := ⟨RX7, "note", "(III)V"⟩
abbrev cX7_numberOf : ByteArray := prog_9_method_27_code
def yX7_numberOf : MethodName := ⟨RX7, "numberOf", "(II)I"⟩
abbrev cX7_nameOf : ByteArray := prog_9_method_28_code
def yX7_nameOf : MethodName := ⟨RX7, "nameOf", "(II)I"⟩
abbrev cX7_isSpelt : ByteArray := prog_9_method_29_code
def yX7_isSpelt : MethodName := ⟨RX7, "isSpelt", "(Ljava/lang/String;II)Z"⟩
abbrev cX7_spelling : ByteArray := prog_9_method_30_code
def yX7_spelling : MethodName := ⟨RX7, "spelling", "(I)Ljava/lang/String;"⟩
def RX8 : String := "SidelessTown$Town"
def TX8 : u_T := fun k => match k with
  | 0 => ("SidelessTown$Town", "corners", "I", false)
  | 1 => ("SidelessTown$Town", "streets", "I", false)
  | 2 => ("SidelessTown$Town", "height", "[I", true)
  | 3 => ("SidelessTown$Town", "mark", "[I", true)
  | 4 => ("SidelessTown$Town", "well", "[I", true)
  | 5 => ("SidelessTown$Town", "about", "[I", true)
  | 6 => ("SidelessTown$Town", "order", "[I", true)
  | _ => ("SidelessTown$Town", "place", "[I", true)
def tyX8 : Nat → FieldType := fun k => match k with
  | 0 => .int
  | 1 => .int
  | 2 => .array .int
  | 3 => .array .int
  | 4 => .array .int
  | 5 => .array .int
  | 6 => .array .int
  | _ => .array .int
abbrev wsX80 : List Cond := u_ws RX8 TX8 8
theorem nmX8 : ∀ a, a < 8 → ∀ b, b < 8 → a ≠ b → (TX8 a).2.1 ≠ (TX8 b).2.1 := by decide +kernel
theorem tyX8_ok : ∀ k, k < 8 → parseFieldDescriptor (TX8 k).2.2.1 = some (tyX8 k) := by decide +kernel
abbrev cX8_init : ByteArray := prog_10_method_1_code
def yX8_init : MethodName := ⟨RX8, "<init>", "()V"⟩
abbrev cX8_clear : ByteArray := prog_10_method_2_code
def yX8_clear : MethodName := ⟨RX8, "clear", "()V"⟩
abbrev cX8_become : ByteArray := prog_10_method_3_code
def yX8_become : MethodName := ⟨RX8, "become", "(LSidelessTown$Town;)V"⟩
abbrev cX8_addCorner : ByteArray := prog_10_method_4_code
def yX8_addCorner : MethodName := ⟨RX8, "addCorner", "(IIZ)V"⟩
abbrev cX8_addStreet : ByteArray := prog_10_method_5_code
def yX8_addStreet : MethodName := ⟨RX8, "addStreet", "(II)V"⟩
abbrev cX8_addStreetAt : ByteArray := prog_10_method_6_code
def yX8_addStreetAt : MethodName := ⟨RX8, "addStreetAt", "(II)V"⟩
abbrev cX8_has : ByteArray := prog_10_method_7_code
def yX8_has : MethodName := ⟨RX8, "has", "(I)Z"⟩
abbrev cX8_corners : ByteArray := prog_10_method_8_code
def yX8_corners : MethodName := ⟨RX8, "corners", "()I"⟩
abbrev cX8_streets : ByteArray := prog_10_method_9_code
def yX8_streets : MethodName := ⟨RX8, "streets", "()I"⟩
abbrev cX8_wells : ByteArray := prog_10_method_10_code
def yX8_wells : MethodName := ⟨RX8, "wells", "()I"⟩
abbrev cX8_heightOf : ByteArray := prog_10_method_11_code
def yX8_heightOf : MethodName := ⟨RX8, "heightOf", "(I)I"⟩
abbrev cX8_markOf : ByteArray := prog_10_method_12_code
def yX8_markOf : MethodName := ⟨RX8, "markOf", "(I)I"⟩
abbrev cX8_setMark : ByteArray := prog_10_method_13_code
def yX8_setMark : MethodName := ⟨RX8, "setMark", "(II)V"⟩
abbrev cX8_hasWell : ByteArray := prog_10_method_14_code
def yX8_hasWell : MethodName := ⟨RX8, "hasWell", "(I)Z"⟩
abbrev cX8_streetsAt : ByteArray := prog_10_method_15_code
def yX8_streetsAt : MethodName := ⟨RX8, "streetsAt", "(I)I"⟩
abbrev cX8_neighbour : ByteArray := prog_10_method_16_code
def yX8_neighbour : MethodName := ⟨RX8, "neighbour", "(II)I"⟩
abbrev cX8_joined : ByteArray := prog_10_method_17_code
def yX8_joined : MethodName := ⟨RX8, "joined", "(II)Z"⟩
abbrev cX8_steepest : ByteArray := prog_10_method_18_code
def yX8_steepest : MethodName := ⟨RX8, "steepest", "(II)I"⟩
abbrev cX8_marked : ByteArray := prog_10_method_19_code
def yX8_marked : MethodName := ⟨RX8, "marked", "(II)I"⟩
abbrev cX8_roundFrom : ByteArray := prog_10_method_20_code
def yX8_roundFrom : MethodName := ⟨RX8, "roundFrom", "(III)I"⟩
def RX9 : String := "SidelessTown$Walker"
def TX9 : u_T := fun k => match k with
  | 0 => ("SidelessTown$Walker", "town", "LSidelessTown$Town;", true)
  | 1 => ("SidelessTown$Walker", "place", "I", false)
  | 2 => ("SidelessTown$Walker", "from", "I", false)
  | 3 => ("SidelessTown$Walker", "handed", "Z", false)
  | 4 => ("SidelessTown$Walker", "raw", "Z", false)
  | _ => ("SidelessTown$Walker", "side", "I", false)
def tyX9 : Nat → FieldType := fun k => match k with
  | 0 => .object "SidelessTown$Town"
  | 1 => .int
  | 2 => .int
  | 3 => .boolean
  | 4 => .boolean
  | _ => .int
abbrev wsX90 : List Cond := u_ws RX9 TX9 6
theorem nmX9 : ∀ a, a < 6 → ∀ b, b < 6 → a ≠ b → (TX9 a).2.1 ≠ (TX9 b).2.1 := by decide +kernel
theorem tyX9_ok : ∀ k, k < 6 → parseFieldDescriptor (TX9 k).2.2.1 = some (tyX9 k) := by decide +kernel
abbrev cX9_init : ByteArray := prog_11_method_1_code
def yX9_init : MethodName := ⟨RX9, "<init>", "(LSidelessTown$Town;)V"⟩
abbrev cX9_start : ByteArray := prog_11_method_2_code
def yX9_start : MethodName := ⟨RX9, "start", "(IZZ)V"⟩
abbrev cX9_stand : ByteArray := prog_11_method_3_code
def yX9_stand : MethodName := ⟨RX9, "stand", "(IIZ)V"⟩
abbrev cX9_place : ByteArray := prog_11_method_4_code
def yX9_place : MethodName := ⟨RX9, "place", "()I"⟩
abbrev cX9_cameFrom : ByteArray := prog_11_method_5_code
def yX9_cameFrom : MethodName := ⟨RX9, "cameFrom", "()I"⟩
abbrev cX9_hasHand : ByteArray := prog_11_method_6_code
def yX9_hasHand : MethodName := ⟨RX9, "hasHand", "()Z"⟩
abbrev cX9_goBy : ByteArray := prog_11_method_7_code
def yX9_goBy : MethodName := ⟨RX9, "goBy", "(I)Z"⟩
abbrev cX9_goalOf : ByteArray := prog_11_method_8_code
def yX9_goalOf : MethodName := ⟨RX9, "goalOf", "(I)I"⟩
def RX10 : String := "SidelessTown$Walks"
def TX10 : u_T := fun k => match k with
  | 0 => ("SidelessTown$Walks", "saying", "LSidelessTown$Saying;", true)
  | 1 => ("SidelessTown$Walks", "one", "LSidelessTown$Walker;", true)
  | _ => ("SidelessTown$Walks", "two", "LSidelessTown$Walker;", true)
def tyX10 : Nat → FieldType := fun k => match k with
  | 0 => .object "SidelessTown$Saying"
  | 1 => .object "SidelessTown$Walker"
  | _ => .object "SidelessTown$Walker"
abbrev wsX100 : List Cond := u_ws RX10 TX10 3
theorem nmX10 : ∀ a, a < 3 → ∀ b, b < 3 → a ≠ b → (TX10 a).2.1 ≠ (TX10 b).2.1 := by decide +kernel
theorem tyX10_ok : ∀ k, k < 3 → parseFieldDescriptor (TX10 k).2.2.1 = some (tyX10 k) := by decide +kernel
abbrev cX10_init : ByteArray := prog_12_method_1_code
def yX10_init : MethodName := ⟨RX10, "<init>", "(LSidelessTown$Town;LSidelessTown$Saying;)V"⟩
abbrev cX10_lead : ByteArray := prog_12_method_2_code
def yX10_lead : MethodName := ⟨RX10, "lead", "(IZZI)I"⟩
abbrev cX10_end : ByteArray := prog_12_method_3_code
def yX10_end : MethodName := ⟨RX10, "end", "()I"⟩
abbrev cX10_partingOf : ByteArray := prog_12_method_4_code
def yX10_partingOf : MethodName := ⟨RX10, "partingOf", "(IZ)I"⟩
abbrev cX10_endsWithOneLost : ByteArray := prog_12_method_5_code
def yX10_endsWithOneLost : MethodName := ⟨RX10, "endsWithOneLost", "(I)I"⟩
abbrev cX10_meeting : ByteArray := prog_12_method_6_code
def yX10_meeting : MethodName := ⟨RX10, "meeting", "(II)I"⟩
def RX11 : String := "SidelessTown"
def TX11 : u_T := fun k => match k with
  | 0 => ("SidelessTown", "rows", "LSidelessTown$Rows;", true)
  | 1 => ("SidelessTown", "text", "LSidelessTown$Text;", true)
  | 2 => ("SidelessTown", "here", "LSidelessTown$Town;", true)
  | 3 => ("SidelessTown", "draftTown", "LSidelessTown$Town;", true)
  | 4 => ("SidelessTown", "told", "LSidelessTown$Saying;", true)
  | 5 => ("SidelessTown", "draftSaying", "LSidelessTown$Saying;", true)
  | 6 => ("SidelessTown", "firstImage", "LSidelessTown$Kept;", true)
  | 7 => ("SidelessTown", "secondImage", "LSidelessTown$Kept;", true)
  | 8 => ("SidelessTown", "walks", "LSidelessTown$Walks;", true)
  | 9 => ("SidelessTown", "goals", "LSidelessTown$Goals;", true)
  | 10 => ("SidelessTown", "search", "LSidelessTown$Search;", true)
  | 11 => ("SidelessTown", "layings", "LSidelessTown$Layings;", true)
  | 12 => ("SidelessTown", "asks", "LSidelessTown$Asks;", true)
  | _ => ("SidelessTown", "latestFinding", "I", false)
def tyX11 : Nat → FieldType := fun k => match k with
  | 0 => .object "SidelessTown$Rows"
  | 1 => .object "SidelessTown$Text"
  | 2 => .object "SidelessTown$Town"
  | 3 => .object "SidelessTown$Town"
  | 4 => .object "SidelessTown$Saying"
  | 5 => .object "SidelessTown$Saying"
  | 6 => .object "SidelessTown$Kept"
  | 7 => .object "SidelessTown$Kept"
  | 8 => .object "SidelessTown$Walks"
  | 9 => .object "SidelessTown$Goals"
  | 10 => .object "SidelessTown$Search"
  | 11 => .object "SidelessTown$Layings"
  | 12 => .object "SidelessTown$Asks"
  | _ => .int
abbrev wsX110 : List Cond := u_ws RX11 TX11 14
theorem nmX11 : ∀ a, a < 14 → ∀ b, b < 14 → a ≠ b → (TX11 a).2.1 ≠ (TX11 b).2.1 := by decide +kernel
theorem tyX11_ok : ∀ k, k < 14 → parseFieldDescriptor (TX11 k).2.2.1 = some (tyX11 k) := by decide +kernel
abbrev cX11_init : ByteArray := prog_1_method_1_code
def yX11_init : MethodName := ⟨RX11, "<init>", "()V"⟩
abbrev cX11_row : ByteArray := prog_1_method_2_code
def yX11_row : MethodName := ⟨RX11, "row", "(III)I"⟩
abbrev cX11_set : ByteArray := prog_1_method_3_code
def yX11_set : MethodName := ⟨RX11, "set", "(III)I"⟩
abbrev cX11_copy : ByteArray := prog_1_method_4_code
def yX11_copy : MethodName := ⟨RX11, "copy", "(IIIII)I"⟩
abbrev cX11_drop : ByteArray := prog_1_method_5_code
def yX11_drop : MethodName := ⟨RX11, "drop", "(I)I"⟩
abbrev cX11_feed : ByteArray := prog_1_method_6_code
def yX11_feed : MethodName := ⟨RX11, "feed", "(JI)I"⟩
abbrev cX11_town : ByteArray := prog_1_method_7_code
def yX11_town : MethodName := ⟨RX11, "town", "()I"⟩
abbrev cX11_say : ByteArray := prog_1_method_8_code
def yX11_say : MethodName := ⟨RX11, "say", "()I"⟩
abbrev cX11_words : ByteArray := prog_1_method_9_code
def yX11_words : MethodName := ⟨RX11, "words", "(III)I"⟩
abbrev cX11_fault : ByteArray := prog_1_method_10_code
def yX11_fault : MethodName := ⟨RX11, "fault", "()I"⟩
abbrev cX11_corner : ByteArray := prog_1_method_11_code
def yX11_corner : MethodName := ⟨RX11, "corner", "(II)I"⟩
abbrev cX11_mark : ByteArray := prog_1_method_12_code
def yX11_mark : MethodName := ⟨RX11, "mark", "(II)I"⟩
abbrev cX11_word : ByteArray := prog_1_method_13_code
def yX11_word : MethodName := ⟨RX11, "word", "(I)I"⟩
abbrev cX11_walk : ByteArray := prog_1_method_14_code
def yX11_walk : MethodName := ⟨RX11, "walk", "(IIII)I"⟩
abbrev cX11_parts : ByteArray := prog_1_method_15_code
def yX11_parts : MethodName := ⟨RX11, "parts", "(II)I"⟩
abbrev cX11_apart : ByteArray := prog_1_method_16_code
def yX11_apart : MethodName := ⟨RX11, "apart", "(II)I"⟩
abbrev cX11_shortest : ByteArray := prog_1_method_17_code
def yX11_shortest : MethodName := ⟨RX11, "shortest", "(IIII)I"⟩
abbrev cX11_soonest : ByteArray := prog_1_method_18_code
def yX11_soonest : MethodName := ⟨RX11, "soonest", "(II)I"⟩
abbrev cX11_laid : ByteArray := prog_1_method_19_code
def yX11_laid : MethodName := ⟨RX11, "laid", "(III)I"⟩
abbrev cX11_ends : ByteArray := prog_1_method_20_code
def yX11_ends : MethodName := ⟨RX11, "ends", "()I"⟩
abbrev cX11_lost : ByteArray := prog_1_method_21_code
def yX11_lost : MethodName := ⟨RX11, "lost", "(I)I"⟩
abbrev cX11_meet : ByteArray := prog_1_method_22_code
def yX11_meet : MethodName := ⟨RX11, "meet", "(III)I"⟩
abbrev cX11_gloves : ByteArray := prog_1_method_23_code
def yX11_gloves : MethodName := ⟨RX11, "gloves", "(III)I"⟩
abbrev cX11_image : ByteArray := prog_1_method_24_code
def yX11_image : MethodName := ⟨RX11, "image", "(I)I"⟩
abbrev cX11_restore : ByteArray := prog_1_method_25_code
def yX11_restore : MethodName := ⟨RX11, "restore", "(I)I"⟩
abbrev cX11_kind : ByteArray := prog_1_method_26_code
def yX11_kind : MethodName := ⟨RX11, "kind", "(I)I"⟩
abbrev cX11_as : ByteArray := prog_1_method_27_code
def yX11_as : MethodName := ⟨RX11, "as", "(II)I"⟩
abbrev cX11_ask : ByteArray := prog_1_method_28_code
def yX11_ask : MethodName := ⟨RX11, "ask", "(II)I"⟩
abbrev cX11_trace : ByteArray := prog_1_method_29_code
def yX11_trace : MethodName := ⟨RX11, "trace", "(I)I"⟩
abbrev cX11_count : ByteArray := prog_1_method_30_code
def yX11_count : MethodName := ⟨RX11, "count", "(I)I"⟩
abbrev cX11_status : ByteArray := prog_1_method_31_code
def yX11_status : MethodName := ⟨RX11, "status", "()I"⟩
abbrev cX11_found : ByteArray := prog_1_method_32_code
def yX11_found : MethodName := ⟨RX11, "found", "(I)I"⟩
abbrev cX11_fine : ByteArray := prog_1_method_33_code
def yX11_fine : MethodName := ⟨RX11, "fine", "(I)I"⟩
abbrev cX11_keptBy : ByteArray := prog_1_method_34_code
def yX11_keptBy : MethodName := ⟨RX11, "keptBy", "(I)LSidelessTown$Kept;"⟩
abbrev cX11_bit : ByteArray := prog_1_method_35_code
def yX11_bit : MethodName := ⟨RX11, "bit", "(I)Z"⟩
abbrev cX11_within : ByteArray := prog_1_method_36_code
def yX11_within : MethodName := ⟨RX11, "within", "(II)Z"⟩
abbrev cX11_commonMeasure : ByteArray := prog_1_method_37_code
def yX11_commonMeasure : MethodName := ⟨RX11, "commonMeasure", "(II)I"⟩
abbrev cX11_at : ByteArray := prog_1_method_38_code
def yX11_at : MethodName := ⟨RX11, "at", "([II)I"⟩
abbrev cX11_put : ByteArray := prog_1_method_39_code
def yX11_put : MethodName := ⟨RX11, "put", "([III)V"⟩
abbrev cX11_fill : ByteArray := prog_1_method_40_code
def yX11_fill : MethodName := ⟨RX11, "fill", "([II)V"⟩
abbrev cX11_putAll : ByteArray := prog_1_method_41_code
def yX11_putAll : MethodName := ⟨RX11, "putAll", "([I[I)V"⟩
def RX12 : String := "SidelessTownModel"
def TX12 : u_T := fun k => match k with
  | 0 => ("SidelessTownModel", "thrown", "I", false)
  | 1 => ("SidelessTownModel", "status", "I", false)
  | 2 => ("SidelessTownModel", "lane", "[I", true)
  | 3 => ("SidelessTownModel", "many", "[I", true)
  | 4 => ("SidelessTownModel", "item", "[I", true)
  | 5 => ("SidelessTownModel", "town", "[I", true)
  | 6 => ("SidelessTownModel", "fresh", "[I", true)
  | 7 => ("SidelessTownModel", "isThere", "Z", false)
  | 8 => ("SidelessTownModel", "saying", "[I", true)
  | 9 => ("SidelessTownModel", "freshSaying", "[I", true)
  | 10 => ("SidelessTownModel", "tape", "[I", true)
  | 11 => ("SidelessTownModel", "taped", "I", false)
  | 12 => ("SidelessTownModel", "latest", "I", false)
  | 13 => ("SidelessTownModel", "length", "I", false)
  | 14 => ("SidelessTownModel", "cursor", "I", false)
  | 15 => ("SidelessTownModel", "token", "I", false)
  | 16 => ("SidelessTownModel", "start", "I", false)
  | 17 => ("SidelessTownModel", "till", "I", false)
  | 18 => ("SidelessTownModel", "fault", "I", false)
  | 19 => ("SidelessTownModel", "faultAt", "I", false)
  | 20 => ("SidelessTownModel", "at", "I", false)
  | 21 => ("SidelessTownModel", "came", "I", false)
  | 22 => ("SidelessTownModel", "hasHand", "Z", false)
  | 23 => ("SidelessTownModel", "otherAt", "I", false)
  | 24 => ("SidelessTownModel", "otherCame", "I", false)
  | 25 => ("SidelessTownModel", "otherHand", "Z", false)
  | 26 => ("SidelessTownModel", "classOf", "[I", true)
  | 27 => ("SidelessTownModel", "nextOf", "[I", true)
  | 28 => ("SidelessTownModel", "behind", "[I", true)
  | 29 => ("SidelessTownModel", "byWord", "[I", true)
  | 30 => ("SidelessTownModel", "far", "[I", true)
  | 31 => ("SidelessTownModel", "queue", "[I", true)
  | 32 => ("SidelessTownModel", "queued", "I", false)
  | 33 => ("SidelessTownModel", "laid", "[I", true)
  | 34 => ("SidelessTownModel", "foundWays", "I", false)
  | 35 => ("SidelessTownModel", "fixedSet", "I", false)
  | 36 => ("SidelessTownModel", "isKept", "[Z", true)
  | 37 => ("SidelessTownModel", "keptTown", "[I", true)
  | 38 => ("SidelessTownModel", "keptSaying", "[I", true)
  | 39 => ("SidelessTownModel", "trace", "[I", true)
  | _ => ("SidelessTownModel", "traced", "I", false)
def tyX12 : Nat → FieldType := fun k => match k with
  | 0 => .int
  | 1 => .int
  | 2 => .array .int
  | 3 => .array .int
  | 4 => .array .int
  | 5 => .array .int
  | 6 => .array .int
  | 7 => .boolean
  | 8 => .array .int
  | 9 => .array .int
  | 10 => .array .int
  | 11 => .int
  | 12 => .int
  | 13 => .int
  | 14 => .int
  | 15 => .int
  | 16 => .int
  | 17 => .int
  | 18 => .int
  | 19 => .int
  | 20 => .int
  | 21 => .int
  | 22 => .boolean
  | 23 => .int
  | 24 => .int
  | 25 => .boolean
  | 26 => .array .int
  | 27 => .array .int
  | 28 => .array .int
  | 29 => .array .int
  | 30 => .array .int
  | 31 => .array .int
  | 32 => .int
  | 33 => .array .int
  | 34 => .int
  | 35 => .int
  | 36 => .array .boolean
  | 37 => .array .int
  | 38 => .array .int
  | 39 => .array .int
  | _ => .int
abbrev wsX120 : List Cond := u_ws RX12 TX12 41
theorem nmX12 : ∀ a, a < 41 → ∀ b, b < 41 → a ≠ b → (TX12 a).2.1 ≠ (TX12 b).2.1 := by decide +kernel
theorem tyX12_ok : ∀ k, k < 41 → parseFieldDescriptor (TX12 k).2.2.1 = some (tyX12 k) := by decide +kernel
abbrev cX12_init : ByteArray := prog_14_method_1_code
def yX12_init : MethodName := ⟨RX12, "<init>", "()V"⟩
abbrev cX12_in : ByteArray := prog_14_method_3_code
def yX12_in : MethodName := ⟨RX12, "in", "(JJJ)Z"⟩
abbrev cX12_finding : ByteArray := prog_14_method_4_code
def yX12_finding : MethodName := ⟨RX12, "finding", "(I)I"⟩
abbrev cX12_isRow : ByteArray := prog_14_method_5_code
def yX12_isRow : MethodName := ⟨RX12, "isRow", "(I)Z"⟩
abbrev cX12_row : ByteArray := prog_14_method_6_code
def yX12_row : MethodName := ⟨RX12, "row", "(III)I"⟩
abbrev cX12_set : ByteArray := prog_14_method_7_code
def yX12_set : MethodName := ⟨RX12, "set", "(III)I"⟩
abbrev cX12_copy : ByteArray := prog_14_method_8_code
def yX12_copy : MethodName := ⟨RX12, "copy", "(IIIII)I"⟩
abbrev cX12_drop : ByteArray := prog_14_method_9_code
def yX12_drop : MethodName := ⟨RX12, "drop", "(I)I"⟩
abbrev cX12_feed : ByteArray := prog_14_method_10_code
def yX12_feed : MethodName := ⟨RX12, "feed", "(JI)I"⟩
abbrev cX12_byteAt : ByteArray := prog_14_method_11_code
def yX12_byteAt : MethodName := ⟨RX12, "byteAt", "(I)I"⟩
abbrev cX12_isLetter : ByteArray := prog_14_method_12_code
def yX12_isLetter : MethodName := ⟨RX12, "isLetter", "(I)Z"⟩
abbrev cX12_isFigure : ByteArray := prog_14_method_13_code
def yX12_isFigure : MethodName := ⟨RX12, "isFigure", "(I)Z"⟩
abbrev cX12_next : ByteArray := prog_14_method_14_code
def yX12_next : MethodName := ⟨RX12, "next", "()V"⟩
abbrev cX12_begin : ByteArray := prog_14_method_15_code
def yX12_begin : MethodName := ⟨RX12, "begin", "()V"⟩
abbrev cX12_bad : ByteArray := prog_14_method_16_code
def yX12_bad : MethodName := ⟨RX12, "bad", "(I)V"⟩
abbrev cX12_must : ByteArray := prog_14_method_17_code
def yX12_must : MethodName := ⟨RX12, "must", "(Z)V"⟩
abbrev cX12_name : ByteArray := prog_14_method_18_code
def yX12_name : MethodName := ⟨RX12, "name", "()J"⟩
abbrev cX12_figures : ByteArray := prog_14_method_19_code
def yX12_figures : MethodName := ⟨RX12, "figures", "()I"⟩
abbrev cX12_number : ByteArray := prog_14_method_20_code
def yX12_number : MethodName := ⟨RX12, "number", "(II)I"⟩
abbrev cX12_wordOf : ByteArray := prog_14_method_21_code
def yX12_wordOf : MethodName := ⟨RX12, "wordOf", "(J)I"⟩
abbrev cX12_begins : ByteArray := prog_14_method_22_code
def yX12_begins : MethodName := ⟨RX12, "begins", "(II)V"⟩
abbrev cX12_mustEnd : ByteArray := prog_14_method_23_code
def yX12_mustEnd : MethodName := ⟨RX12, "mustEnd", "()V"⟩
abbrev cX12_readCorner : ByteArray := prog_14_method_24_code
def yX12_readCorner : MethodName := ⟨RX12, "readCorner", "()V"⟩
abbrev cX12_isJoined : ByteArray := prog_14_method_25_code
def yX12_isJoined : MethodName := ⟨RX12, "isJoined", "(II)Z"⟩
abbrev cX12_end : ByteArray := prog_14_method_26_code
def yX12_end : MethodName := ⟨RX12, "end", "(I)I"⟩
abbrev cX12_readStreet : ByteArray := prog_14_method_27_code
def yX12_readStreet : MethodName := ⟨RX12, "readStreet", "()V"⟩
abbrev cX12_ends : ByteArray := prog_14_method_28_code
def yX12_ends : MethodName := ⟨RX12, "ends", "(I)I"⟩
abbrev cX12_town : ByteArray := prog_14_method_29_code
def yX12_town : MethodName := ⟨RX12, "town", "()I"⟩
abbrev cX12_say : ByteArray := prog_14_method_30_code
def yX12_say : MethodName := ⟨RX12, "say", "()I"⟩
abbrev cX12_isWordNumber : ByteArray := prog_14_method_31_code
def yX12_isWordNumber : MethodName := ⟨RX12, "isWordNumber", "(I)Z"⟩
abbrev cX12_words : ByteArray := prog_14_method_32_code
def yX12_words : MethodName := ⟨RX12, "words", "(III)I"⟩
abbrev cX12_fault : ByteArray := prog_14_method_33_code
def yX12_fault : MethodName := ⟨RX12, "fault", "()I"⟩
abbrev cX12_isCorner : ByteArray := prog_14_method_34_code
def yX12_isCorner : MethodName := ⟨RX12, "isCorner", "(I)Z"⟩
abbrev cX12_corner : ByteArray := prog_14_method_35_code
def yX12_corner : MethodName := ⟨RX12, "corner", "(II)I"⟩
abbrev cX12_mark : ByteArray := prog_14_method_36_code
def yX12_mark : MethodName := ⟨RX12, "mark", "(II)I"⟩
abbrev cX12_word : ByteArray := prog_14_method_37_code
def yX12_word : MethodName := ⟨RX12, "word", "(I)I"⟩
abbrev cX12_starts : ByteArray := prog_14_method_38_code
def yX12_starts : MethodName := ⟨RX12, "starts", "(I)V"⟩
abbrev cX12_slope : ByteArray := prog_14_method_39_code
def yX12_slope : MethodName := ⟨RX12, "slope", "(IZ)I"⟩
abbrev cX12_marked : ByteArray := prog_14_method_40_code
def yX12_marked : MethodName := ⟨RX12, "marked", "(II)I"⟩
abbrev cX12_besides : ByteArray := prog_14_method_41_code
def yX12_besides : MethodName := ⟨RX12, "besides", "(I)I"⟩
abbrev cX12_streetBy : ByteArray := prog_14_method_42_code
def yX12_streetBy : MethodName := ⟨RX12, "streetBy", "(IZZ)I"⟩
abbrev cX12_goes : ByteArray := prog_14_method_43_code
def yX12_goes : MethodName := ⟨RX12, "goes", "(IZZ)Z"⟩
abbrev cX12_walks : ByteArray := prog_14_method_44_code
def yX12_walks : MethodName := ⟨RX12, "walks", "(IZZI)I"⟩
abbrev cX12_walk : ByteArray := prog_14_method_45_code
def yX12_walk : MethodName := ⟨RX12, "walk", "(IIII)I"⟩
abbrev cX12_change : ByteArray := prog_14_method_46_code
def yX12_change : MethodName := ⟨RX12, "change", "()V"⟩
abbrev cX12_startTwo : ByteArray := prog_14_method_47_code
def yX12_startTwo : MethodName := ⟨RX12, "startTwo", "(II)V"⟩
abbrev cX12_parts : ByteArray := prog_14_method_48_code
def yX12_parts : MethodName := ⟨RX12, "parts", "(II)I"⟩
abbrev cX12_plainWord : ByteArray := prog_14_method_49_code
def yX12_plainWord : MethodName := ⟨RX12, "plainWord", "(I)I"⟩
abbrev cX12_classBy : ByteArray := prog_14_method_50_code
def yX12_classBy : MethodName := ⟨RX12, "classBy", "(II)I"⟩
abbrev cX12_areAlike : ByteArray := prog_14_method_51_code
def yX12_areAlike : MethodName := ⟨RX12, "areAlike", "(II)Z"⟩
abbrev cX12_splits : ByteArray := prog_14_method_52_code
def yX12_splits : MethodName := ⟨RX12, "splits", "()I"⟩
abbrev cX12_apart : ByteArray := prog_14_method_53_code
def yX12_apart : MethodName := ⟨RX12, "apart", "(II)I"⟩
abbrev cX12_sought : ByteArray := prog_14_method_54_code
def yX12_sought : MethodName := ⟨RX12, "sought", "(I)I"⟩
abbrev cX12_stateNow : ByteArray := prog_14_method_55_code
def yX12_stateNow : MethodName := ⟨RX12, "stateNow", "()I"⟩
abbrev cX12_beAt : ByteArray := prog_14_method_56_code
def yX12_beAt : MethodName := ⟨RX12, "beAt", "(I)V"⟩
abbrev cX12_reach : ByteArray := prog_14_method_57_code
def yX12_reach : MethodName := ⟨RX12, "reach", "(II)V"⟩
abbrev cX12_seek : ByteArray := prog_14_method_58_code
def yX12_seek : MethodName := ⟨RX12, "seek", "(IZ)V"⟩
abbrev cX12_firstAt : ByteArray := prog_14_method_59_code
def yX12_firstAt : MethodName := ⟨RX12, "firstAt", "(I)I"⟩
abbrev cX12_shortest : ByteArray := prog_14_method_60_code
def yX12_shortest : MethodName := ⟨RX12, "shortest", "(IIII)I"⟩
abbrev cX12_soonest : ByteArray := prog_14_method_61_code
def yX12_soonest : MethodName := ⟨RX12, "soonest", "(II)I"⟩
abbrev cX12_isNear : ByteArray := prog_14_method_62_code
def yX12_isNear : MethodName := ⟨RX12, "isNear", "(II)Z"⟩
abbrev cX12_fits : ByteArray := prog_14_method_63_code
def yX12_fits : MethodName := ⟨RX12, "fits", "(II)Z"⟩
abbrev cX12_turnsAbout : ByteArray := prog_14_method_64_code
def yX12_turnsAbout : MethodName := ⟨RX12, "turnsAbout", "(IZ)Z"⟩
abbrev cX12_isWay : ByteArray := prog_14_method_65_code
def yX12_isWay : MethodName := ⟨RX12, "isWay", "(Z)Z"⟩
abbrev cX12_fixedNow : ByteArray := prog_14_method_66_code
def yX12_fixedNow : MethodName := ⟨RX12, "fixedNow", "()I"⟩
abbrev cX12_layWay : ByteArray := prog_14_method_67_code
def yX12_layWay : MethodName := ⟨RX12, "layWay", "(ZI)Z"⟩
abbrev cX12_laid : ByteArray := prog_14_method_68_code
def yX12_laid : MethodName := ⟨RX12, "laid", "(III)I"⟩
abbrev cX12_ends_ : ByteArray := prog_14_method_69_code
def yX12_ends_ : MethodName := ⟨RX12, "ends", "()I"⟩
abbrev cX12_lost : ByteArray := prog_14_method_70_code
def yX12_lost : MethodName := ⟨RX12, "lost", "(I)I"⟩
abbrev cX12_meets : ByteArray := prog_14_method_71_code
def yX12_meets : MethodName := ⟨RX12, "meets", "(II)I"⟩
abbrev cX12_plainTo : ByteArray := prog_14_method_72_code
def yX12_plainTo : MethodName := ⟨RX12, "plainTo", "(II)I"⟩
abbrev cX12_soon : ByteArray := prog_14_method_73_code
def yX12_soon : MethodName := ⟨RX12, "soon", "(II)I"⟩
abbrev cX12_meet : ByteArray := prog_14_method_74_code
def yX12_meet : MethodName := ⟨RX12, "meet", "(III)I"⟩
abbrev cX12_gloves : ByteArray := prog_14_method_75_code
def yX12_gloves : MethodName := ⟨RX12, "gloves", "(III)I"⟩
abbrev cX12_image : ByteArray := prog_14_method_76_code
def yX12_image : MethodName := ⟨RX12, "image", "(I)I"⟩
abbrev cX12_restore : ByteArray := prog_14_method_77_code
def yX12_restore : MethodName := ⟨RX12, "restore", "(I)I"⟩
abbrev cX12_isWord : ByteArray := prog_14_method_78_code
def yX12_isWord : MethodName := ⟨RX12, "isWord", "(I)Z"⟩
abbrev cX12_wordAt : ByteArray := prog_14_method_79_code
def yX12_wordAt : MethodName := ⟨RX12, "wordAt", "(I)I"⟩
abbrev cX12_kindOf : ByteArray := prog_14_method_80_code
def yX12_kindOf : MethodName := ⟨RX12, "kindOf", "(I)I"⟩
abbrev cX12_isOf : ByteArray := prog_14_method_81_code
def yX12_isOf : MethodName := ⟨RX12, "isOf", "(II)Z"⟩
abbrev cX12_kind : ByteArray := prog_14_method_82_code
def yX12_kind : MethodName := ⟨RX12, "kind", "(I)I"⟩
abbrev cX12_as : ByteArray := prog_14_method_83_code
def yX12_as : MethodName := ⟨RX12, "as", "(II)I"⟩
abbrev cX12_began : ByteArray := prog_14_method_84_code
def yX12_began : MethodName := ⟨RX12, "began", "(I)V"⟩
abbrev cX12_plainSize : ByteArray := prog_14_method_85_code
def yX12_plainSize : MethodName := ⟨RX12, "plainSize", "(I)I"⟩
abbrev cX12_takenSize : ByteArray := prog_14_method_86_code
def yX12_takenSize : MethodName := ⟨RX12, "takenSize", "(I)I"⟩
abbrev cX12_markOf : ByteArray := prog_14_method_87_code
def yX12_markOf : MethodName := ⟨RX12, "markOf", "(I)I"⟩
abbrev cX12_turnedSize : ByteArray := prog_14_method_88_code
def yX12_turnedSize : MethodName := ⟨RX12, "turnedSize", "(I)I"⟩
abbrev cX12_sizeOf : ByteArray := prog_14_method_89_code
def yX12_sizeOf : MethodName := ⟨RX12, "sizeOf", "(I)I"⟩
abbrev cX12_ask : ByteArray := prog_14_method_90_code
def yX12_ask : MethodName := ⟨RX12, "ask", "(II)I"⟩
abbrev cX12_trace : ByteArray := prog_14_method_91_code
def yX12_trace : MethodName := ⟨RX12, "trace", "(I)I"⟩
abbrev cX12_count : ByteArray := prog_14_method_92_code
def yX12_count : MethodName := ⟨RX12, "count", "(I)I"⟩
abbrev cX12_status : ByteArray := prog_14_method_93_code
def yX12_status : MethodName := ⟨RX12, "status", "()I"⟩
def RJ9 : String := "java/lang/Math"
def TJ9 : u_T := fun k => match k with
  | _ => ("", "", "", false)
def tyJ9 : Nat → FieldType := fun k => match k with
  | _ => .int
abbrev wsJ90 : List Cond := u_ws RJ9 TJ9 0
theorem nmJ9 : ∀ a, a < 0 → ∀ b, b < 0 → a ≠ b → (TJ9 a).2.1 ≠ (TJ9 b).2.1 := by decide +kernel
theorem tyJ9_ok : ∀ k, k < 0 → parseFieldDescriptor (TJ9 k).2.2.1 = some (tyJ9 k) := by decide +kernel
abbrev cJ9_floorMod_7cf53 : ByteArray := prog_15_method_50_code
def yJ9_floorMod_7cf53 : MethodName := ⟨RJ9, "floorMod", "(II)I"⟩
abbrev cJ9_max_7cf53 : ByteArray := prog_15_method_65_code
def yJ9_max_7cf53 : MethodName := ⟨RJ9, "max", "(II)I"⟩
abbrev cJ9_min_7cf53 : ByteArray := prog_15_method_69_code
def yJ9_min_7cf53 : MethodName := ⟨RJ9, "min", "(II)I"⟩
def RJ0 : String := "java/lang/String"
def TJ0 : u_T := fun k => match k with
  | _ => ("", "", "", false)
def tyJ0 : Nat → FieldType := fun k => match k with
  | _ => .int
abbrev wsJ00 : List Cond := u_ws RJ0 TJ0 0
theorem nmJ0 : ∀ a, a < 0 → ∀ b, b < 0 → a ≠ b → (TJ0 a).2.1 ≠ (TJ0 b).2.1 := by decide +kernel
theorem tyJ0_ok : ∀ k, k < 0 → parseFieldDescriptor (TJ0 k).2.2.1 = some (tyJ0 k) := by decide +kernel
abbrev cJ0_length_8abf5 : ByteArray := prog_16_method_54_code
def yJ0_length_8abf5 : MethodName := ⟨RJ0, "length", "()I"⟩
abbrev cJ0_charAt_5068e : ByteArray := prog_16_method_56_code
def yJ0_charAt_5068e : MethodName := ⟨RJ0, "charAt", "(I)C"⟩
abbrev cJ0_coder_7d493 : ByteArray := prog_16_method_152_code
def yJ0_coder_7d493 : MethodName := ⟨RJ0, "coder", "()B"⟩
abbrev cJ0_isLatin1_aae02 : ByteArray := prog_16_method_154_code
def yJ0_isLatin1_aae02 : MethodName := ⟨RJ0, "isLatin1", "()Z"⟩
abbrev cJ0_checkIndex_df160 : ByteArray := prog_16_method_155_code
def yJ0_checkIndex_df160 : MethodName := ⟨RJ0, "checkIndex", "(II)V"⟩
def RJ1 : String := "java/lang/StringLatin1"
def TJ1 : u_T := fun k => match k with
  | _ => ("", "", "", false)
def tyJ1 : Nat → FieldType := fun k => match k with
  | _ => .int
abbrev wsJ10 : List Cond := u_ws RJ1 TJ1 0
theorem nmJ1 : ∀ a, a < 0 → ∀ b, b < 0 → a ≠ b → (TJ1 a).2.1 ≠ (TJ1 b).2.1 := by decide +kernel
theorem tyJ1_ok : ∀ k, k < 0 → parseFieldDescriptor (TJ1 k).2.2.1 = some (tyJ1 k) := by decide +kernel
abbrev cJ1_charAt_3b067 : ByteArray := prog_17_method_2_code
def yJ1_charAt_3b067 : MethodName := ⟨RJ1, "charAt", "([BI)C"⟩
def RJ2 : String := "java/lang/StringUTF16"
def TJ2 : u_T := fun k => match k with
  | _ => ("", "", "", false)
def tyJ2 : Nat → FieldType := fun k => match k with
  | _ => .int
abbrev wsJ20 : List Cond := u_ws RJ2 TJ2 0
theorem nmJ2 : ∀ a, a < 0 → ∀ b, b < 0 → a ≠ b → (TJ2 a).2.1 ≠ (TJ2 b).2.1 := by decide +kernel
theorem tyJ2_ok : ∀ k, k < 0 → parseFieldDescriptor (TJ2 k).2.2.1 = some (tyJ2 k) := by decide +kernel
abbrev cJ2_getChar_3b067 : ByteArray := prog_18_method_5_code
def yJ2_getChar_3b067 : MethodName := ⟨RJ2, "getChar", "([BI)C"⟩
abbrev cJ2_length_9d52b : ByteArray := prog_18_method_6_code
def yJ2_length_9d52b : MethodName := ⟨RJ2, "length", "([B)I"⟩
abbrev cJ2_charAt_3b067 : ByteArray := prog_18_method_83_code
def yJ2_charAt_3b067 : MethodName := ⟨RJ2, "charAt", "([BI)C"⟩
abbrev cJ2_checkIndex_2214a : ByteArray := prog_18_method_91_code
def yJ2_checkIndex_2214a : MethodName := ⟨RJ2, "checkIndex", "(I[B)V"⟩
def RJ3 : String := "jdk/internal/util/Preconditions"
def TJ3 : u_T := fun k => match k with
  | _ => ("", "", "", false)
def tyJ3 : Nat → FieldType := fun k => match k with
  | _ => .int
abbrev wsJ30 : List Cond := u_ws RJ3 TJ3 0
theorem nmJ3 : ∀ a, a < 0 → ∀ b, b < 0 → a ≠ b → (TJ3 a).2.1 ≠ (TJ3 b).2.1 := by decide +kernel
theorem tyJ3_ok : ∀ k, k < 0 → parseFieldDescriptor (TJ3 k).2.2.1 = some (tyJ3 k) := by decide +kernel
abbrev cJ3_checkIndex_8e157 : ByteArray := prog_19_method_11_code
def yJ3_checkIndex_8e157 : MethodName := ⟨RJ3, "checkIndex", "(IILjava/util/function/BiFunction;)I"⟩
def RL : String := "SidelessTownLaw"
abbrev cL_law : ByteArray := code
def yL_law : MethodName := ⟨RL, "law", "([I)Z"⟩
abbrev vwCl : List vw_C := [(RX0, TX0, 6), (RX1, TX1, 8), (RX2, TX2, 3), (RX3, TX3, 5), (RX4, TX4, 3), (RX5, TX5, 2), (RX6, TX6, 8), (RX7, TX7, 10), (RX8, TX8, 8), (RX9, TX9, 6), (RX10, TX10, 3), (RX11, TX11, 14), (RX12, TX12, 41)]
theorem inX0 : ∀ w ∈ wsX00, w ∈ lw_T := by decide +kernel
theorem inX1 : ∀ w ∈ wsX10, w ∈ lw_T := by decide +kernel
theorem inX2 : ∀ w ∈ wsX20, w ∈ lw_T := by decide +kernel
theorem inX3 : ∀ w ∈ wsX30, w ∈ lw_T := by decide +kernel
theorem inX4 : ∀ w ∈ wsX40, w ∈ lw_T := by decide +kernel
theorem inX5 : ∀ w ∈ wsX50, w ∈ lw_T := by decide +kernel
theorem inX6 : ∀ w ∈ wsX60, w ∈ lw_T := by decide +kernel
theorem inX7 : ∀ w ∈ wsX70, w ∈ lw_T := by decide +kernel
theorem inX8 : ∀ w ∈ wsX80, w ∈ lw_T := by decide +kernel
theorem inX9 : ∀ w ∈ wsX90, w ∈ lw_T := by decide +kernel
theorem inX10 : ∀ w ∈ wsX100, w ∈ lw_T := by decide +kernel
theorem inX11 : ∀ w ∈ wsX110, w ∈ lw_T := by decide +kernel
theorem inX12 : ∀ w ∈ wsX120, w ∈ lw_T := by decide +kernel
end
section
/-! AN ABSTRACT MACHINE: cells by their numbers, not their addresses. A method is a table of instructions, held against its bytes by a program. -/
abbrev am_C : Type := (Nat × Nat × (Nat → Int32)) ⊕ (Nat × List Value)
abbrev am_H : Type := Nat → am_C
abbrev am_J : Type := Instr × Nat × List Nat × MethodName × Value
/-- a method: its name, bytes, locals, answer, how many bytes, its table -/
abbrev am_M : Type := MethodName × ByteArray × Nat × Option FieldType × Nat × (Nat → Option am_J)
def am_at (M : am_M) (pc : Nat) : Option am_J := if pc < M.2.2.2.2.1 then M.2.2.2.2.2 pc else none
def am_len (i : Instr) (d : Nat) : Nat := match i with
  | .bipush _ => 2
  | .iload _ => 2
  | .istore _ => 2
  | .aload _ => 2
  | .astore _ => 2
  | .lload _ => 2
  | .lstore _ => 2
  | .ldc _ => 2
  | .newarray _ => 2
  | .sipush _ => 3
  | .iinc _ _ => 3
  | .ifCond _ _ => 3
  | .if_icmp _ _ => 3
  | .goto _ => 3
  | .getfield _ => 3
  | .putfield _ => 3
  | .getstatic _ => 3
  | .invokevirtual _ => 3
  | .invokestatic _ => 3
  | .invokespecial _ => 3
  | .new _ => 3
  | .ldc_w _ => 3
  | .ldc2_w _ => 3
  | .tableswitch _ _ _ _ => d
  | .lookupswitch _ _ => d
  | _ => 1
def am_word (i : Nat) (w : Cond) : Bool := decide (lw_tbl[i]? = some w) && goodWord w
def am_1 (x : List Nat) (f : Nat → Bool) : Bool := match x with
  | [a] => f a
  | _ => false
def am_2 (x : List Nat) (f : Nat → Nat → Bool) : Bool := match x with
  | [a, b] => f a b
  | _ => false
def am_3 (x : List Nat) (f : Nat → Nat → Nat → Bool) : Bool := match x with
  | [a, b, c] => f a b c
  | _ => false
def am_4 (x : List Nat) (f : Nat → Nat → Nat → Nat → Bool) : Bool := match x with
  | [a, b, c, d] => f a b c d
  | _ => false
def am_ii (v : Value) (f : Int32 → Bool) : Bool := match v with
  | .int a => f a
  | _ => false
def am_ll (v : Value) (f : Int64 → Bool) : Bool := match v with
  | .long a => f a
  | _ => false
def am_fld (own : String) (idx ci k i : Nat) (put : Bool) : Bool := match vwCl[ci]? with
  | some q => decide (k < q.2.2) && am_word i (.fieldLink own idx (q.2.1 k).1 (q.2.1 k).2.1 (q.2.1 k).2.2.1) && (!put || !(q.2.1 k).2.2.2 || decide ((q.2.1 k).1 = own))
  | none => false
/-- the texts -/
def am_txt : List (Nat × String × List Int32) := [(166, "up", [117, 112]), (168, "down", [100, 111, 119, 110]), (170, "mark", [109, 97, 114, 107]), (172, "on", [111, 110]), (174, "back", [98, 97, 99, 107]), (176, "hand", [104, 97, 110, 100]), (178, "other", [111, 116, 104, 101, 114]), (180, "take", [116, 97, 107, 101]), (182, "corner", [99, 111, 114, 110, 101, 114]), (184, "street", [115, 116, 114, 101, 101, 116]), (186, "well", [119, 101, 108, 108]), (188, "", [])]
def am_tx (k : Nat) : Nat × String × List Int32 := am_txt.getD k (0, "", [])
def am_byt : List (List Int32) := am_txt.map fun q => q.2.2
def am_lens : List Nat := am_txt.map fun q => q.2.2.length
def am_ldcR (own : String) (idx q : Nat) : Bool := decide (1000 ≤ q) && (decide (q < 1012) && (decide (own = RX7) && decide ((am_tx (q - 1000)).1 = idx)))
def am_ldcOk (own : String) (idx : Nat) (x : List Nat) (v : Value) : Bool := match v with
  | .int a => am_1 x fun i => am_word i (.constant own idx a)
  | .ref q => am_ldcR own idx q
  | _ => false
def am_nest (w : Cond) : Bool := match w with
  | .methodLinkNest _ _ _ _ => true
  | .fieldLinkNest _ _ _ _ _ _ => true
  | _ => false
def am_linkN (own : String) (idx i : Nat) (y : MethodName) : Bool := match lw_tbl[i]? with
  | some (.methodLinkNest o ix y' _) => decide (o = own) && (decide (ix = idx) && decide (y' = y))
  | _ => false
/-- a call's link: plain (0), of a nest mate (1) -/
def am_link (own : String) (idx : Nat) (x : List Nat) (y : MethodName) : Bool := am_2 x fun k i => match k with
  | 0 => am_word i (.methodLink own idx y)
  | _ => am_linkN own idx i y
def am_okX (own : String) (pc : Nat) (i : Instr) (x : List Nat) (y : MethodName) (v : Value) : Bool := match i with
  | .iconst n => decide (v = .int (Int32.ofInt n))
  | .bipush n => decide (v = .int (Int8.ofInt n).toInt32)
  | .sipush n => decide (v = .int (Int16.ofInt n).toInt32)
  | .lconst n => decide (v = .long (Int64.ofNat (n : Nat)))
  | .iinc _ n => decide (v = .int (Int32.ofInt n))
  | .ldc idx => am_ldcOk own idx x v
  | .ldc_w idx => am_1 x fun i => am_ii v fun a => am_word i (.constant own idx a)
  | .ldc2_w idx => am_1 x fun i => am_ll v fun a => am_word i (.constantLong own idx a)
  | .goto o => am_1 x fun t => decide ((pc : Int) + o = (t : Int))
  | .ifCond _ o => am_1 x fun t => decide ((pc : Int) + o = (t : Int))
  | .if_icmp _ o => am_1 x fun t => decide ((pc : Int) + o = (t : Int))
  | .tableswitch d _ _ os => decide (((pc : Int) + d) :: os.toList.map (fun o => (pc : Int) + o) = x.map Int.ofNat)
  | .lookupswitch d ps => decide (((pc : Int) + d) :: ps.toList.map (fun o => (pc : Int) + o.2) = x.map Int.ofNat) && (ps.toList.zip (ps.toList.drop 1)).all (fun (a, next) => a.1 < next.1)
  | .getfield idx => am_3 x fun ci k i => am_fld own idx ci k i false
  | .putfield idx => am_3 x fun ci k i => am_fld own idx ci k i true
  | .invokevirtual idx => am_link own idx x y
  | .invokestatic idx => am_link own idx x y
  | .invokespecial idx => am_link own idx x y
  | .new idx => am_4 x fun ci i1 i2 i3 => match vwCl[ci]? with
    | some q => am_word i1 (.classLink own idx q.1) && (am_word i2 (.instantiable q.1 q.2.2) && am_word i3 (.initialized q.1))
    | none => false
  | .newarray t => am_1 x fun i => am_word i (.arrayClass (newarray.typeOf t))
  | _ => true
def am_okJ (M : am_M) (pc : Nat) (j : am_J) : Bool := decide (decode M.2.1 pc = .ok (j.1, am_len j.1 (j.2.1 - pc))) && (decide (j.2.1 = pc + am_len j.1 (j.2.1 - pc)) && am_okX M.1.cls pc j.1 j.2.2.1 j.2.2.2.1 j.2.2.2.2)
def am_okM (M : am_M) : Bool := (List.range M.2.2.2.2.1).all fun pc => match M.2.2.2.2.2 pc with
  | none => true
  | some j => am_okJ M pc j
theorem am_okM_at {M : am_M} (h : am_okM M = true) {pc : Nat} {j : am_J} (hj : am_at M pc = some j) : am_okJ M pc j = true := by
  unfold am_at at hj
  by_cases hp : pc < M.2.2.2.2.1
  · rw [if_pos hp] at hj
    have h1 := List.all_eq_true.mp h pc (List.mem_range.mpr hp)
    rw [hj] at h1
    exact h1
  · rw [if_neg hp] at hj
    cases hj
theorem am_okM_dec {M : am_M} (h : am_okM M = true) {pc nx : Nat} {i : Instr} {x : List Nat} {y : MethodName} {v : Value} (hj : am_at M pc = some (i, nx, x, y, v)) : decode M.2.1 pc = .ok (i, am_len i (nx - pc)) ∧ nx = pc + am_len i (nx - pc) ∧ am_okX M.1.cls pc i x y v = true := by
  have h1 := am_okM_at h hj
  unfold am_okJ at h1
  rw [Bool.and_eq_true, Bool.and_eq_true, decide_eq_true_eq, decide_eq_true_eq] at h1
  exact h1
theorem am_word_in {i : Nat} {w : Cond} (h : am_word i w = true) : w ∈ lw_T := by
  unfold am_word at h
  rw [Bool.and_eq_true, decide_eq_true_eq] at h
  exact lw_T_of h.1 h.2
/-! values -/
def am_ok (n k : Nat) : Prop := k < n ∨ 1000 ≤ k
def am_R (as : Nat → Nat) (n : Nat) (v rv : Value) : Prop := match v with
  | .ref k => am_ok n k ∧ rv = .ref (as k)
  | w => rv = w
def am_Vs (as : Nat → Nat) (n : Nat) : List Value → List Value → Prop
  | [], [] => True
  | a :: l, b :: m => am_R as n a b ∧ am_Vs as n l m
  | _, _ => False
def am_E (as as' : Nat → Nat) (n n' : Nat) : Prop := n ≤ n' ∧ ∀ k, am_ok n k → as' k = as k
theorem am_E.rf {as : Nat → Nat} {n : Nat} : am_E as as n n := ⟨Nat.le_refl _, fun _ _ => rfl⟩
theorem am_E.trans {a b c : Nat → Nat} {n n' n'' : Nat} (h1 : am_E a b n n') (h2 : am_E b c n' n'') : am_E a c n n'' := ⟨Nat.le_trans h1.1 h2.1, fun k hk => (h2.2 k (hk.elim (fun h => Or.inl (Nat.lt_of_lt_of_le h h1.1)) Or.inr)).trans (h1.2 k hk)⟩
theorem am_R.mono {as as' : Nat → Nat} {n n' : Nat} (hE : am_E as as' n n') {v rv : Value} (h : am_R as n v rv) : am_R as' n' v rv := by
  cases v with
  | ref k =>
    obtain ⟨h1, h2⟩ := h
    exact ⟨h1.elim (fun h => Or.inl (Nat.lt_of_lt_of_le h hE.1)) Or.inr, by rw [h2, hE.2 k h1]⟩
  | _ => exact h
theorem am_Vs.mono {as as' : Nat → Nat} {n n' : Nat} (hE : am_E as as' n n') : ∀ {l m : List Value}, am_Vs as n l m → am_Vs as' n' l m
  | [], [], _ => trivial
  | _ :: _, _ :: _, h => ⟨h.1.mono hE, am_Vs.mono hE h.2⟩
theorem am_Vs.len {as : Nat → Nat} {n : Nat} : ∀ {l m : List Value}, am_Vs as n l m → m.length = l.length
  | [], [], _ => rfl
  | _ :: _, _ :: _, h => by simp [am_Vs.len h.2]
theorem am_Vs.get {as : Nat → Nat} {n : Nat} : ∀ {l m : List Value}, am_Vs as n l m → ∀ {k : Nat} {v : Value}, l[k]? = some v → ∃ rv, m[k]? = some rv ∧ am_R as n v rv
  | [], [], _, k, v, hk => by simp at hk
  | a :: l, b :: m, h, 0, v, hk => ⟨b, rfl, by simp at hk; rw [← hk]; exact h.1⟩
  | a :: l, b :: m, h, k + 1, v, hk => by simpa using am_Vs.get h.2 (k := k) (v := v) (by simpa using hk)
theorem am_Vs.set {as : Nat → Nat} {n : Nat} {v rv : Value} (hv : am_R as n v rv) : ∀ {l m : List Value}, am_Vs as n l m → ∀ k : Nat, am_Vs as n (l.set k v) (m.set k rv)
  | [], [], _, _ => trivial
  | _ :: _, _ :: _, h, 0 => ⟨hv, h.2⟩
  | _ :: _, _ :: _, h, k + 1 => ⟨h.1, am_Vs.set hv h.2 k⟩
theorem am_Vs.app {as : Nat → Nat} {n : Nat} {l2 m2 : List Value} (h2 : am_Vs as n l2 m2) : ∀ {l m : List Value}, am_Vs as n l m → am_Vs as n (l ++ l2) (m ++ m2)
  | [], [], _ => h2
  | _ :: _, _ :: _, h => ⟨h.1, am_Vs.app h2 h.2⟩
theorem am_Vs.rev {as : Nat → Nat} {n : Nat} : ∀ {l m : List Value}, am_Vs as n l m → am_Vs as n l.reverse m.reverse
  | [], [], _ => trivial
  | a :: l, b :: m, h => by
    rw [List.reverse_cons, List.reverse_cons]
    exact am_Vs.app (l2 := [a]) (m2 := [b]) ⟨h.1, trivial⟩ (am_Vs.rev h.2)
theorem am_Vs.split {as : Nat → Nat} {n : Nat} : ∀ {l l2 m : List Value}, am_Vs as n (l ++ l2) m → ∃ m1 m2, m = m1 ++ m2 ∧ am_Vs as n l m1 ∧ am_Vs as n l2 m2
  | [], l2, m, h => ⟨[], m, rfl, trivial, h⟩
  | a :: l, l2, b :: m, h => by
    obtain ⟨m1, m2, h1, h2, h3⟩ := am_Vs.split (l := l) (l2 := l2) h.2
    exact ⟨b :: m1, m2, by rw [h1]; rfl, ⟨h.1, h2⟩, h3⟩
theorem am_Vi {as : Nat → Nat} {n : Nat} {x : Int32} {l m : List Value} (h : am_Vs as n (.int x :: l) m) : ∃ m', m = .int x :: m' ∧ am_Vs as n l m' := by
  cases m with
  | nil => exact h.elim
  | cons b m => exact ⟨m, by rw [show b = .int x from h.1], h.2⟩
theorem am_Vl {as : Nat → Nat} {n : Nat} {x : Int64} {l m : List Value} (h : am_Vs as n (.long x :: l) m) : ∃ m', m = .long x :: m' ∧ am_Vs as n l m' := by
  cases m with
  | nil => exact h.elim
  | cons b m => exact ⟨m, by rw [show b = .long x from h.1], h.2⟩
theorem am_Vr {as : Nat → Nat} {n : Nat} {x : Nat} {l m : List Value} (h : am_Vs as n (.ref x :: l) m) : ∃ m', m = .ref (as x) :: m' ∧ am_ok n x ∧ am_Vs as n l m' := by
  cases m with
  | nil => exact h.elim
  | cons b m => exact ⟨m, by rw [h.1.2], h.1.1, h.2⟩
theorem am_Vc {as : Nat → Nat} {n : Nat} {x : Value} {l m : List Value} (h : am_Vs as n (x :: l) m) : ∃ rx m', m = rx :: m' ∧ am_R as n x rx ∧ am_Vs as n l m' := by
  cases m with
  | nil => exact h.elim
  | cons b m => exact ⟨b, m, rfl, h.1, h.2⟩
theorem am_V0 {as : Nat → Nat} {n : Nat} {m : List Value} (h : am_Vs as n [] m) : m = [] := by
  cases m with
  | nil => rfl
  | cons b m => exact h.elim
theorem am_R.cat {as : Nat → Nat} {n : Nat} {v rv : Value} (h : am_R as n v rv) : rv.category = v.category := by
  cases v with
  | ref k => rw [h.2]; rfl
  | _ => rw [show rv = _ from h]
theorem am_Vs.cat {as : Nat → Nat} {n : Nat} : ∀ {l m : List Value}, am_Vs as n l m → (m.map fun v => v.category) = (l.map fun v => v.category)
  | [], [], _ => rfl
  | _ :: _, _ :: _, h => by rw [List.map_cons, List.map_cons, h.1.cat, am_Vs.cat h.2]
/-! the world -/
def am_K0 (kd : Nat) : FieldType := match kd with
  | 0 => .int
  | _ => .boolean
def am_Cl (as : Nat → Nat) (n : Nat) (tys : List (ClassId × FieldType)) (c : am_C) (e : va_E) : Prop := match c with
  | .inl (kd, len, f) => ∃ (cA : ClassId) (t0 : Nat), e = .inl (cA, len, .inl f) ∧ tys[t0]? = some (cA, am_K0 kd)
  | .inr (ci, fs) => ∃ fs' : List Value, e = .inr (ci, fs') ∧ am_Vs as n fs fs'
def am_W (D : va_G) (as : Nat → Nat) (n : Nat) (h : am_H) (A : Nat → Prop) (U : State) (H : Heap) : Prop :=
  ∃ (ws : va_W) (tys : List (ClassId × FieldType)), ws.length = n ∧ (∀ k : Nat, k < n → ∃ e, ws[k]? = some (as k, e) ∧ am_Cl as n tys (h k) e) ∧ va_P D vwCl ws H ∧ va_K D vwCl tys U ∧ va_D A ws
def am_ways : List Int32 := [0, 1, 20, 21, 22, 23, 24, 25, 26, 27, 28, 29, 3, 4, 5, 6, 7]
/-- what was there before: the constants, the texts, the links of nest mates -/
def am_Z (as : Nat → Nat) (A : Nat → Prop) (U : State) (H : Heap) : Prop :=
  va_Z RX11 "WAYS" "[I" (.ref (as 3000)) A U H ∧ va_T .int (as 3000) 17 (fun j => .int (am_ways.getD j 0)) A U H ∧ va_Z "java/lang/String" "COMPACT_STRINGS" "Z" (.int 1) A U H ∧
  va_Z "jdk/internal/util/Preconditions" "SIOOBE_FORMATTER" "Ljava/util/function/BiFunction;" (.ref (as 3001)) A U H ∧
  vk_S 12 am_lens am_byt (fun i => as (1000 + i)) (fun i => as (2000 + i)) A U H ∧ (∀ i : Nat, i < 12 → vk_R RX7 (am_tx i).1 (am_tx i).2.1 (as (1000 + i)) U) ∧ ∀ w ∈ lw_tbl, am_nest w = true → va_Nw w U
theorem am_Cl.mono {as as' : Nat → Nat} {n n' : Nat} (hE : am_E as as' n n') {tys t2 : List (ClassId × FieldType)} {c : am_C} {e : va_E} (h : am_Cl as n tys c e) : am_Cl as' n' (tys ++ t2) c e := by
  cases c with
  | inl a =>
    obtain ⟨cA, t0, h1, h2⟩ := h
    exact ⟨cA, t0, h1, by rw [List.getElem?_append_left (List.getElem?_eq_some_iff.mp h2).1]; exact h2⟩
  | inr o =>
    obtain ⟨fs', h1, h2⟩ := h
    exact ⟨fs', h1, h2.mono hE⟩
theorem am_Nw.warm {w : Cond} (hn : am_nest w = true) {s U : State} (hW : s.WarmedH U.vm) (h : va_Nw w s) : va_Nw w U := by
  cases w <;> first | exact va_Nw.warmM hW h | exact va_Nw.warmF hW h | (exact absurd hn (by decide)) | (simp [am_nest] at hn)
theorem am_Nw.same {w : Cond} (hn : am_nest w = true) {s U : State} (hv : s.vm = U.vm) (h : va_Nw w s) : va_Nw w U := by
  cases w <;> first | exact va_Nw.same rfl hv h | (simp [am_nest] at hn)
theorem am_Z.to {as as' : Nat → Nat} {n n' : Nat} (hE : am_E as as' n n') {A B : Nat → Prop} {s U : State} {H H1 : Heap} (hW : s.WarmedH U.vm) (hq : ∀ a : Nat, a < H.size → ¬ A a → H1[a]? = H[a]?) (hAB : ∀ q, B q → A q) (h : am_Z as A s H) : am_Z as' B U H1 := by
  obtain ⟨h1, h2, h3, h4, h5, h6, h7⟩ := h
  have e0 : as' 3000 = as 3000 := hE.2 _ (Or.inr (by omega))
  have e1 : as' 3001 = as 3001 := hE.2 _ (Or.inr (by omega))
  have e2 : (fun i => as' (1000 + i)) = (fun i => as (1000 + i)) := funext fun i => hE.2 _ (Or.inr (by omega))
  have e3 : (fun i => as' (2000 + i)) = (fun i => as (2000 + i)) := funext fun i => hE.2 _ (Or.inr (by omega))
  refine ⟨by rw [e0]; exact ((h1.moved hW.alike).kept hq).narrow hAB, by rw [e0]; exact ((h2.moved hW.alike).kept hq).narrow hAB, ((h3.moved hW.alike).kept hq).narrow hAB, by rw [e1]; exact ((h4.moved hW.alike).kept hq).narrow hAB, by rw [e2, e3]; exact ((h5.moved hW.alike).kept hq).narrow hAB, fun i hi => ?_, fun w hw hn => am_Nw.warm hn hW (h7 w hw hn)⟩
  rw [show as' (1000 + i) = as (1000 + i) from hE.2 _ (Or.inr (by omega))]
  exact (h6 i hi).warm hW
end
section
/-! THE JUDGEMENT of a frame -/
def am_L (as : Nat → Nat) (n : Nat) (L : List Value) (ls : Array Slot) (nL : Nat) : Prop := L.length = nL ∧ ∃ l : List (Nat × Value), lv_has ls nL l ∧ ∀ (i : Nat) (v : Value), L[i]? = some v → v ≠ .retAddr 0 → ∃ rv, (i, rv) ∈ l ∧ am_R as n v rv
theorem am_L.mono {as as' : Nat → Nat} {n n' nL : Nat} {L : List Value} {ls : Array Slot} (hE : am_E as as' n n') (h : am_L as n L ls nL) : am_L as' n' L ls nL := by
  obtain ⟨h1, l, h2, h3⟩ := h
  exact ⟨h1, l, h2, fun i v hi hv => by obtain ⟨rv, a, b⟩ := h3 i v hi hv; exact ⟨rv, a, b.mono hE⟩⟩
theorem am_L.get {as : Nat → Nat} {n nL : Nat} {L : List Value} {ls : Array Slot} (h : am_L as n L ls nL) {i : Nat} {v : Value} (hi : L[i]? = some v) (hv : v ≠ .retAddr 0) : ∃ rv, ls[i]? = some (.val rv) ∧ am_R as n v rv := by
  obtain ⟨-, l, h2, h3⟩ := h
  obtain ⟨rv, a, b⟩ := h3 i v hi hv
  exact ⟨rv, h2.2.2 (i, rv) a, b⟩
def am_cut (L : List Value) (i : Nat) : Bool := match i with
  | 0 => true
  | k + 1 => match L[k]? with
    | some (.long _) => false
    | some (.double _) => false
    | _ => true
/-- a local of one place is stored -/
def am_sto (L : List Value) (i : Nat) (v : Value) : Option (List Value) := match (decide (i < L.length) && am_cut L i) with
  | true => some (L.set i v)
  | false => none
theorem am_L.sto {as : Nat → Nat} {n nL : Nat} {L L' : List Value} {ls ls' : Array Slot} {i : Nat} {v rv : Value} {l : List (Nat × Value)} (h1 : L.length = nL) (h3 : ∀ (i : Nat) (v : Value), L[i]? = some v → v ≠ .retAddr 0 → ∃ rv, (i, rv) ∈ l ∧ am_R as n v rv)
    (hs : am_sto L i v = some L') (hv : am_R as n v rv) (hl : lv_has ls' nL ((i, rv) :: l.filter (fun q => !(q.1 == i) && !(q.1 + 1 == i && q.2.category == 2)))) : am_L as n L' ls' nL := by
  unfold am_sto at hs
  split at hs
  · rename_i hc
    rw [Bool.and_eq_true, decide_eq_true_eq] at hc
    cases hs
    refine ⟨by rw [List.length_set]; exact h1, _, hl, fun j w hj hw => ?_⟩
    by_cases e : j = i
    · subst e
      rw [List.getElem?_set_self hc.1] at hj
      cases hj
      exact ⟨rv, List.mem_cons_self, hv⟩
    · rw [List.getElem?_set_ne (fun q => e q.symm)] at hj
      obtain ⟨rw', a, b⟩ := h3 j w hj hw
      refine ⟨rw', List.mem_cons_of_mem _ (List.mem_filter.mpr ⟨a, ?_⟩), b⟩
      have c1 : (j == i) = false := by simpa using e
      have c2 : (j + 1 == i && rw'.category == 2) = false := by
        by_cases e2 : j + 1 = i
        · subst e2
          have hc2 := hc.2
          unfold am_cut at hc2
          simp only [hj] at hc2
          rw [b.cat]
          cases w <;> simp [Value.category] at hc2 ⊢
        · have : (j + 1 == i) = false := by simpa using e2
          rw [this]; rfl
      show (!(j == i) && !(j + 1 == i && rw'.category == 2)) = true
      rw [c1, c2]; rfl
  · cases hs
def am_sto2 (L : List Value) (i : Nat) (v : Value) : Option (List Value) := match (decide (i + 1 < L.length) && am_cut L i) with
  | true => some ((L.set i v).set (i + 1) (.retAddr 0))
  | false => none
theorem am_L.sto2 {as : Nat → Nat} {n nL : Nat} {L L' : List Value} {ls ls' : Array Slot} {i : Nat} {v rv : Value} {l : List (Nat × Value)} (h1 : L.length = nL) (h3 : ∀ (i : Nat) (v : Value), L[i]? = some v → v ≠ .retAddr 0 → ∃ rv, (i, rv) ∈ l ∧ am_R as n v rv)
    (hs : am_sto2 L i v = some L') (hv : am_R as n v rv) (hl : lv_has ls' nL ((i, rv) :: l.filter (fun q => !(q.1 == i) && (!(q.1 == i + 1) && !(q.1 + 1 == i && q.2.category == 2))))) : am_L as n L' ls' nL := by
  unfold am_sto2 at hs
  split at hs
  · rename_i hc
    rw [Bool.and_eq_true, decide_eq_true_eq] at hc
    cases hs
    refine ⟨by rw [List.length_set, List.length_set]; exact h1, _, hl, fun j w hj hw => ?_⟩
    by_cases e0 : j = i + 1
    · subst e0
      rw [List.getElem?_set_self (by rw [List.length_set]; exact hc.1)] at hj
      cases hj
      exact absurd rfl hw
    · rw [List.getElem?_set_ne (fun q => e0 q.symm)] at hj
      by_cases e : j = i
      · subst e
        rw [List.getElem?_set_self (by omega)] at hj
        cases hj
        exact ⟨rv, List.mem_cons_self, hv⟩
      · rw [List.getElem?_set_ne (fun q => e q.symm)] at hj
        obtain ⟨rw', a, b⟩ := h3 j w hj hw
        refine ⟨rw', List.mem_cons_of_mem _ (List.mem_filter.mpr ⟨a, ?_⟩), b⟩
        have c1 : (j == i) = false := by simpa using e
        have c0 : (j == i + 1) = false := by simpa using e0
        have c2 : (j + 1 == i && rw'.category == 2) = false := by
          by_cases e2 : j + 1 = i
          · subst e2
            have hc2 := hc.2
            unfold am_cut at hc2
            simp only [hj] at hc2
            rw [b.cat]
            cases w <;> simp [Value.category] at hc2 ⊢
          · have : (j + 1 == i) = false := by simpa using e2
            rw [this]; rfl
        show (!(j == i) && (!(j == i + 1) && !(j + 1 == i && rw'.category == 2))) = true
        rw [c1, c0, c2]; rfl
  · cases hs
theorem am_sto_lt {L L' : List Value} {i : Nat} {v : Value} (hs : am_sto L i v = some L') : i < L.length := by
  unfold am_sto at hs
  split at hs
  · rename_i hc
    rw [Bool.and_eq_true, decide_eq_true_eq] at hc
    exact hc.1
  · cases hs
theorem am_sto2_lt {L L' : List Value} {i : Nat} {v : Value} (hs : am_sto2 L i v = some L') : i + 1 < L.length := by
  unfold am_sto2 at hs
  split at hs
  · rename_i hc
    rw [Bool.and_eq_true, decide_eq_true_eq] at hc
    exact hc.1
  · cases hs
def am_leL : List Value → List Value → Prop
  | [], [] => True
  | a :: l, b :: m => (a = .retAddr 0 ∨ a = b) ∧ am_leL l m
  | _, _ => False
theorem am_leL.len : ∀ {l m : List Value}, am_leL l m → m.length = l.length
  | [], [], _ => rfl
  | _ :: _, _ :: _, h => by simp [am_leL.len h.2]
theorem am_leL.get : ∀ {l m : List Value}, am_leL l m → ∀ {k : Nat} {v : Value}, l[k]? = some v → v ≠ .retAddr 0 → m[k]? = some v
  | [], [], _, k, v, hk, _ => by simp at hk
  | a :: l, b :: m, h, 0, v, hk, hv => by
    simp at hk
    subst hk
    rcases h.1 with e | e
    · exact absurd e hv
    · simp [e]
  | a :: l, b :: m, h, k + 1, v, hk, hv => by simpa using am_leL.get h.2 (k := k) (v := v) (by simpa using hk) hv
abbrev am_X0 : Type := Option (Nat × (Nat → Int32))
def am_Sc (X : am_X0) (as : Nat → Nat) (A : Nat → Prop) (s : State) : Prop := match X with
  | none => True
  | some (N, xs) => va_X (as 4000) N xs s s.heap ∧ as 4000 < s.heap.size ∧ ¬ A (as 4000)
theorem am_Sc.to {X : am_X0} {as as' : Nat → Nat} {n n' : Nat} (hE : am_E as as' n n') {A : Nat → Prop} {s : State} (h : am_Sc X as A s) : am_Sc X as' A s := by
  cases X with
  | none => trivial
  | some q =>
    have e : as' 4000 = as 4000 := hE.2 _ (Or.inr (by omega))
    unfold am_Sc at h ⊢
    rw [e]
    exact h
/-- which answers a return gives -/
def am_ret (ret : Option FieldType) (i : Instr) (rv : Option Value) : Prop := match i with
  | .return_ => ret = none ∧ rv = none
  | .ireturn => ∃ (v : Int32) (ty : FieldType), rv = some (.int v) ∧ ret = some ty ∧ narrow ty (.int v) = .int v
  | .lreturn => ∃ v : Int64, rv = some (.long v) ∧ ret = some .long
  | .areturn => ∃ (a : Nat) (ty : FieldType), rv = some (.ref a) ∧ ret = some ty ∧ ((∃ n, ty = .object n) ∨ ∃ t, ty = .array t)
  | _ => False
def am_Ro (as : Nat → Nat) (n : Nat) (v rv : Option Value) : Prop := match v, rv with
  | none, none => True
  | some a, some b => am_R as n a b
  | _, _ => False
def am_Ex (M : am_M) (Q : Option Value → am_H → Nat → Prop) (mc ms : Nat) (p : Program) (l : Launch) (e : Env) (R : Room) (s : State) (m : MethodId) (args : Array Value) (below : List Frame) (meth : Method) (c : Code) (Qw : State → Prop) (D : va_G) (as : Nat → Nat) (n : Nat) (A : Nat → Prop) : Prop :=
  ∀ (H : Heap) (locs : List Loc) (as' : Nat → Nat) (n' : Nat) (h' : am_H) (v rv : Option Value) (pc : Nat) (ls : Array Slot) (i : Instr), decode M.2.1 pc = .ok (i, 1) → am_ret M.2.2.2.1 i rv → am_Ro as' n' v rv → Q v h' n' → am_W D as' n' h' A s H → am_E as as' n n' ∧ n' ≤ 1000 → va_S A s.heap H locs →
    W p l e R s m args below meth c H locs mc ms Qw (F0 m pc ls rv.toList)
theorem am_Ex.to {M : am_M} {Q : Option Value → am_H → Nat → Prop} {mc ms : Nat} {p : Program} {l : Launch} {e : Env} {R : Room} {s : State} {m : MethodId} {args : Array Value} {below : List Frame} {meth : Method} {c : Code} {Qw : State → Prop} {D : va_G} {as as1 : Nat → Nat} {n n1 : Nat} {A : Nat → Prop} (hE : am_E as as1 n n1)
    (h : am_Ex M Q mc ms p l e R s m args below meth c Qw D as n A) : am_Ex M Q mc ms p l e R s m args below meth c Qw D as1 n1 A := fun H locs as' n' h' v rv pc ls i a1 a2 a3 a4 a5 a6 a7 => h H locs as' n' h' v rv pc ls i a1 a2 a3 a4 a5 ⟨hE.trans a6.1, a6.2⟩ a7
def am_X (M : am_M) (d mc ms : Nat) (p : Program) (R : Room) (s : State) (m : MethodId) (args : Array Value) (meth : Method) (c : Code) : Prop :=
  p.tables.exec = Jvm.exec ∧ c.code = M.2.1 ∧ c.maxLocals = M.2.2.1 ∧ meth.sig.returnType = M.2.2.2.1 ∧ meth.locks = false ∧ meth.name = M.1.name ∧ s.vm.findClass M.1.cls = some m.cls ∧ (∀ w ∈ lw_T, w.before args s = true) ∧ d ≤ R.frames ∧ 40 * d ≤ R.locals ∧ mc ≤ R.cells ∧ ms ≤ R.slots ∧ am_okM M = true
/-- a frame of the abstract machine at pc with locals L, stack st, cells h (n of them; k, z: how many it has made, how many places these have): it ends, and Q -/
def G (X : am_X0) (M : am_M) (d : Nat) (Q : Option Value → am_H → Nat → Prop) (mc ms pc : Nat) (L st : List Value) (h : am_H) (n k z : Nat) : Prop :=
  ∀ (p : Program) (l : Launch) (e : Env) (R : Room) (s : State) (m : MethodId) (args : Array Value) (below : List Frame) (meth : Method) (c : Code) (Qw : State → Prop) (D : va_G) (as : Nat → Nat) (A : Nat → Prop) (H : Heap) (locs : List Loc) (ls : Array Slot) (rst : List Value),
    am_X M d mc ms p R s m args meth c → am_Ex M Q mc ms p l e R s m args below meth c Qw D as n A → ((∀ q : Nat, s.heap.size ≤ q → A q) ∧ am_Z as A s s.heap ∧ am_Sc X as A s) → am_W D as n h A s H → va_S A s.heap H locs → (k ≤ mc ∧ z ≤ ms ∧ n ≤ 1000) → am_L as n L ls M.2.2.1 → am_Vs as n st rst →
    W p l e R s m args below meth c H locs k z Qw (F0 m pc ls rst)
section GR
variable {X : am_X0} {M : am_M} {d : Nat} {Q : Option Value → am_H → Nat → Prop} {mc ms pc nx : Nat} {L L' st : List Value} {h : am_H} {n k z : Nat} {x : List Nat} {y : MethodName} {v : Value}
theorem G.weak {L1 : List Value} (hL : am_leL L1 L) (kk : G X M d Q mc ms pc L1 st h n k z) : G X M d Q mc ms pc L st h n k z := by
  intro p l e R s m args below meth c Qw D as A H locs ls rst C E Z0 Wd S hk hl hst
  refine kk p l e R s m args below meth c Qw D as A H locs ls rst C E Z0 Wd S hk ?_ hst
  obtain ⟨h1, l, h2, h3⟩ := hl
  exact ⟨by rw [← hL.len]; exact h1, l, h2, fun i v hi hv => h3 i v (hL.get hi hv) hv⟩
theorem G.eqh {h2 : am_H} (e : ∀ k, k < n → h k = h2 k) (kk : G X M d Q mc ms pc L st h2 n k z) : G X M d Q mc ms pc L st h n k z := by
  intro p l e' R s m args below meth c Qw D as A H locs ls rst C E Z0 Wd S hk hl hst
  refine kk p l e' R s m args below meth c Qw D as A H locs ls rst C E Z0 ?_ S hk hl hst
  obtain ⟨ws, tys, w1, w2, w3⟩ := Wd
  exact ⟨ws, tys, w1, fun k hk => by rw [← e k hk]; exact w2 k hk, w3⟩
theorem G.iconst {a : Int} {w : Int32} (hj : am_at M pc = some (.iconst a, nx, x, y, .int w)) (kk : G X M d Q mc ms nx L (.int w :: st) h n k z) : G X M d Q mc ms pc L st h n k z := by
  intro p l e R s m args below meth c Qw D as A H locs ls rst C E Z0 Wd S hk hl hst
  obtain ⟨hd, hnx, hok⟩ := am_okM_dec C.2.2.2.2.2.2.2.2.2.2.2.2 hj
  obtain rfl : nx = pc + 1 := hnx
  have e1 := of_decide_eq_true hok
  cases e1
  exact lv_iconst C.1 C.2.1 hd rfl (kk p l e R s m args below meth c Qw D as A H locs ls _ C E Z0 Wd S hk hl ⟨rfl, hst⟩)
theorem G.bipush {a : Int} {w : Int32} (hj : am_at M pc = some (.bipush a, nx, x, y, .int w)) (kk : G X M d Q mc ms nx L (.int w :: st) h n k z) : G X M d Q mc ms pc L st h n k z := by
  intro p l e R s m args below meth c Qw D as A H locs ls rst C E Z0 Wd S hk hl hst
  obtain ⟨hd, hnx, hok⟩ := am_okM_dec C.2.2.2.2.2.2.2.2.2.2.2.2 hj
  obtain rfl : nx = pc + 2 := hnx
  have e1 := of_decide_eq_true hok
  cases e1
  exact lv_bipush C.1 C.2.1 hd rfl (kk p l e R s m args below meth c Qw D as A H locs ls _ C E Z0 Wd S hk hl ⟨rfl, hst⟩)
theorem G.sipush {a : Int} {w : Int32} (hj : am_at M pc = some (.sipush a, nx, x, y, .int w)) (kk : G X M d Q mc ms nx L (.int w :: st) h n k z) : G X M d Q mc ms pc L st h n k z := by
  intro p l e R s m args below meth c Qw D as A H locs ls rst C E Z0 Wd S hk hl hst
  obtain ⟨hd, hnx, hok⟩ := am_okM_dec C.2.2.2.2.2.2.2.2.2.2.2.2 hj
  obtain rfl : nx = pc + 3 := hnx
  have e1 := of_decide_eq_true hok
  cases e1
  exact lv_sipush C.1 C.2.1 hd rfl (kk p l e R s m args below meth c Qw D as A H locs ls _ C E Z0 Wd S hk hl ⟨rfl, hst⟩)
theorem G.lconst {a : Fin 2} {w : Int64} (hj : am_at M pc = some (.lconst a, nx, x, y, .long w)) (kk : G X M d Q mc ms nx L (.long w :: st) h n k z) : G X M d Q mc ms pc L st h n k z := by
  intro p l e R s m args below meth c Qw D as A H locs ls rst C E Z0 Wd S hk hl hst
  obtain ⟨hd, hnx, hok⟩ := am_okM_dec C.2.2.2.2.2.2.2.2.2.2.2.2 hj
  obtain rfl : nx = pc + 1 := hnx
  have e1 := of_decide_eq_true hok
  cases e1
  exact lv_lconst C.1 C.2.1 hd rfl (kk p l e R s m args below meth c Qw D as A H locs ls _ C E Z0 Wd S hk hl ⟨rfl, hst⟩)
theorem G.ldc {a i : Nat} {w : Int32} (hj : am_at M pc = some (.ldc a, nx, [i], y, .int w)) (kk : G X M d Q mc ms nx L (.int w :: st) h n k z) : G X M d Q mc ms pc L st h n k z := by
  intro p l e R s m args below meth c Qw D as A H locs ls rst C E Z0 Wd S hk hl hst
  obtain ⟨hd, hnx, hok⟩ := am_okM_dec C.2.2.2.2.2.2.2.2.2.2.2.2 hj
  obtain rfl : nx = pc + 2 := hnx
  exact lv_ldc C.1 C.2.1 C.2.2.2.2.2.2.1 (C.2.2.2.2.2.2.2.1 _ (am_word_in (show am_word i (.constant M.1.cls a w) = true from hok))) hd (kk p l e R s m args below meth c Qw D as A H locs ls _ C E Z0 Wd S hk hl ⟨rfl, hst⟩)
theorem G.ldcw {a i : Nat} {w : Int32} (hj : am_at M pc = some (.ldc_w a, nx, [i], y, .int w)) (kk : G X M d Q mc ms nx L (.int w :: st) h n k z) : G X M d Q mc ms pc L st h n k z := by
  intro p l e R s m args below meth c Qw D as A H locs ls rst C E Z0 Wd S hk hl hst
  obtain ⟨hd, hnx, hok⟩ := am_okM_dec C.2.2.2.2.2.2.2.2.2.2.2.2 hj
  obtain rfl : nx = pc + 3 := hnx
  exact lv_ldcw C.1 C.2.1 C.2.2.2.2.2.2.1 (C.2.2.2.2.2.2.2.1 _ (am_word_in (show am_word i (.constant M.1.cls a w) = true from hok))) hd (kk p l e R s m args below meth c Qw D as A H locs ls _ C E Z0 Wd S hk hl ⟨rfl, hst⟩)
theorem G.ldc2 {a i : Nat} {w : Int64} (hj : am_at M pc = some (.ldc2_w a, nx, [i], y, .long w)) (kk : G X M d Q mc ms nx L (.long w :: st) h n k z) : G X M d Q mc ms pc L st h n k z := by
  intro p l e R s m args below meth c Qw D as A H locs ls rst C E Z0 Wd S hk hl hst
  obtain ⟨hd, hnx, hok⟩ := am_okM_dec C.2.2.2.2.2.2.2.2.2.2.2.2 hj
  obtain rfl : nx = pc + 3 := hnx
  exact lv_ldc2 C.1 C.2.1 C.2.2.2.2.2.2.1 (C.2.2.2.2.2.2.2.1 _ (am_word_in (show am_word i (.constantLong M.1.cls a w) = true from hok))) hd (kk p l e R s m args below meth c Qw D as A H locs ls _ C E Z0 Wd S hk hl ⟨rfl, hst⟩)
theorem G.ldcS {a q : Nat} (hj : am_at M pc = some (.ldc a, nx, x, y, .ref q)) (kk : G X M d Q mc ms nx L (.ref q :: st) h n k z) : G X M d Q mc ms pc L st h n k z := by
  intro p l e R s m args below meth c Qw D as A H locs ls rst C E Z0 Wd S hk hl hst
  obtain ⟨hd, hnx, hok⟩ := am_okM_dec C.2.2.2.2.2.2.2.2.2.2.2.2 hj
  obtain rfl : nx = pc + 2 := hnx
  have e1 : am_ldcR M.1.cls a q = true := hok
  simp only [am_ldcR, Bool.and_eq_true, decide_eq_true_eq] at e1
  obtain ⟨a1, a2, a3, a4⟩ := e1
  have hR := Z0.2.1.2.2.2.2.2.1 (q - 1000) (by omega)
  rw [a4, show 1000 + (q - 1000) = q by omega, ← a3] at hR
  exact va_ldcS C.1 C.2.1 C.2.2.2.2.2.2.1 hR hd (kk p l e R s m args below meth c Qw D as A H locs ls _ C E Z0 Wd S hk hl ⟨⟨Or.inr a1, rfl⟩, hst⟩)
theorem G.iload {a : Nat} {w : Int32} (hj : am_at M pc = some (.iload a, nx, x, y, v)) (hi : L[a]? = some (.int w)) (kk : G X M d Q mc ms nx L (.int w :: st) h n k z) : G X M d Q mc ms pc L st h n k z := by
  intro p l e R s m args below meth c Qw D as A H locs ls rst C E Z0 Wd S hk hl hst
  obtain ⟨hd, hnx, hok⟩ := am_okM_dec C.2.2.2.2.2.2.2.2.2.2.2.2 hj
  obtain rfl : nx = pc + 2 := hnx
  obtain ⟨rv, g1, g2⟩ := hl.get hi (by simp)
  rw [show rv = .int w from g2] at g1
  exact lv_iload C.1 C.2.1 hd g1 (kk p l e R s m args below meth c Qw D as A H locs ls _ C E Z0 Wd S hk hl ⟨rfl, hst⟩)
theorem G.iload_n {a : Fin 4} {w : Int32} (hj : am_at M pc = some (.iload_n a, nx, x, y, v)) (hi : L[(a : Nat)]? = some (.int w)) (kk : G X M d Q mc ms nx L (.int w :: st) h n k z) : G X M d Q mc ms pc L st h n k z := by
  intro p l e R s m args below meth c Qw D as A H locs ls rst C E Z0 Wd S hk hl hst
  obtain ⟨hd, hnx, hok⟩ := am_okM_dec C.2.2.2.2.2.2.2.2.2.2.2.2 hj
  obtain rfl : nx = pc + 1 := hnx
  obtain ⟨rv, g1, g2⟩ := hl.get hi (by simp)
  rw [show rv = .int w from g2] at g1
  exact lv_iload_n C.1 C.2.1 hd rfl g1 (kk p l e R s m args below meth c Qw D as A H locs ls _ C E Z0 Wd S hk hl ⟨rfl, hst⟩)
theorem G.lload {a : Nat} {w : Int64} (hj : am_at M pc = some (.lload a, nx, x, y, v)) (hi : L[a]? = some (.long w)) (kk : G X M d Q mc ms nx L (.long w :: st) h n k z) : G X M d Q mc ms pc L st h n k z := by
  intro p l e R s m args below meth c Qw D as A H locs ls rst C E Z0 Wd S hk hl hst
  obtain ⟨hd, hnx, hok⟩ := am_okM_dec C.2.2.2.2.2.2.2.2.2.2.2.2 hj
  obtain rfl : nx = pc + 2 := hnx
  obtain ⟨rv, g1, g2⟩ := hl.get hi (by simp)
  rw [show rv = .long w from g2] at g1
  exact lv_lload C.1 C.2.1 hd g1 (kk p l e R s m args below meth c Qw D as A H locs ls _ C E Z0 Wd S hk hl ⟨rfl, hst⟩)
theorem G.lload_n {a : Fin 4} {w : Int64} (hj : am_at M pc = some (.lload_n a, nx, x, y, v)) (hi : L[(a : Nat)]? = some (.long w)) (kk : G X M d Q mc ms nx L (.long w :: st) h n k z) : G X M d Q mc ms pc L st h n k z := by
  intro p l e R s m args below meth c Qw D as A H locs ls rst C E Z0 Wd S hk hl hst
  obtain ⟨hd, hnx, hok⟩ := am_okM_dec C.2.2.2.2.2.2.2.2.2.2.2.2 hj
  obtain rfl : nx = pc + 1 := hnx
  obtain ⟨rv, g1, g2⟩ := hl.get hi (by simp)
  rw [show rv = .long w from g2] at g1
  exact lv_lload_n C.1 C.2.1 hd rfl g1 (kk p l e R s m args below meth c Qw D as A H locs ls _ C E Z0 Wd S hk hl ⟨rfl, hst⟩)
theorem G.aload {a : Nat} {w : Nat} (hj : am_at M pc = some (.aload a, nx, x, y, v)) (hi : L[a]? = some (.ref w)) (kk : G X M d Q mc ms nx L (.ref w :: st) h n k z) : G X M d Q mc ms pc L st h n k z := by
  intro p l e R s m args below meth c Qw D as A H locs ls rst C E Z0 Wd S hk hl hst
  obtain ⟨hd, hnx, hok⟩ := am_okM_dec C.2.2.2.2.2.2.2.2.2.2.2.2 hj
  obtain rfl : nx = pc + 2 := hnx
  obtain ⟨rv, g1, g2⟩ := hl.get hi (by simp)
  rw [g2.2] at g1
  exact lv_aload C.1 C.2.1 hd g1 (kk p l e R s m args below meth c Qw D as A H locs ls _ C E Z0 Wd S hk hl ⟨⟨g2.1, rfl⟩, hst⟩)
theorem G.aload_n {a : Fin 4} {w : Nat} (hj : am_at M pc = some (.aload_n a, nx, x, y, v)) (hi : L[(a : Nat)]? = some (.ref w)) (kk : G X M d Q mc ms nx L (.ref w :: st) h n k z) : G X M d Q mc ms pc L st h n k z := by
  intro p l e R s m args below meth c Qw D as A H locs ls rst C E Z0 Wd S hk hl hst
  obtain ⟨hd, hnx, hok⟩ := am_okM_dec C.2.2.2.2.2.2.2.2.2.2.2.2 hj
  obtain rfl : nx = pc + 1 := hnx
  obtain ⟨rv, g1, g2⟩ := hl.get hi (by simp)
  rw [g2.2] at g1
  exact lv_aload_n C.1 C.2.1 hd rfl g1 (kk p l e R s m args below meth c Qw D as A H locs ls _ C E Z0 Wd S hk hl ⟨⟨g2.1, rfl⟩, hst⟩)
theorem G.istore {a : Nat} {w : Int32} (hj : am_at M pc = some (.istore a, nx, x, y, v)) (hs : am_sto L a (.int w) = some L') (kk : G X M d Q mc ms nx L' st h n k z) : G X M d Q mc ms pc L (.int w :: st) h n k z := by
  intro p l e R s m args below meth c Qw D as A H locs ls rst C E Z0 Wd S hk hl hst
  obtain ⟨hd, hnx, hok⟩ := am_okM_dec C.2.2.2.2.2.2.2.2.2.2.2.2 hj
  obtain rfl : nx = pc + 2 := hnx
  obtain ⟨r0, e0, h0⟩ := am_Vi hst
  subst e0
  obtain ⟨q1, lq, q2, q3⟩ := hl
  have hlt : a < M.2.2.1 := q1 ▸ am_sto_lt hs
  exact lv_istore C.1 C.2.1 hd q2 hlt rfl (fun ls' hl' => kk p l e R s m args below meth c Qw D as A H locs ls' _ C E Z0 Wd S hk (am_L.sto (ls := ls) q1 q3 hs rfl hl') h0)
theorem G.istore_n {a : Fin 4} {w : Int32} (hj : am_at M pc = some (.istore_n a, nx, x, y, v)) (hs : am_sto L (a : Nat) (.int w) = some L') (kk : G X M d Q mc ms nx L' st h n k z) : G X M d Q mc ms pc L (.int w :: st) h n k z := by
  intro p l e R s m args below meth c Qw D as A H locs ls rst C E Z0 Wd S hk hl hst
  obtain ⟨hd, hnx, hok⟩ := am_okM_dec C.2.2.2.2.2.2.2.2.2.2.2.2 hj
  obtain rfl : nx = pc + 1 := hnx
  obtain ⟨r0, e0, h0⟩ := am_Vi hst
  subst e0
  obtain ⟨q1, lq, q2, q3⟩ := hl
  have hlt : (a : Nat) < M.2.2.1 := q1 ▸ am_sto_lt hs
  exact lv_istore_n C.1 C.2.1 hd rfl q2 hlt rfl (fun ls' hl' => kk p l e R s m args below meth c Qw D as A H locs ls' _ C E Z0 Wd S hk (am_L.sto (ls := ls) q1 q3 hs rfl hl') h0)
theorem G.astore {a : Nat} {w : Nat} (hj : am_at M pc = some (.astore a, nx, x, y, v)) (hs : am_sto L a (.ref w) = some L') (kk : G X M d Q mc ms nx L' st h n k z) : G X M d Q mc ms pc L (.ref w :: st) h n k z := by
  intro p l e R s m args below meth c Qw D as A H locs ls rst C E Z0 Wd S hk hl hst
  obtain ⟨hd, hnx, hok⟩ := am_okM_dec C.2.2.2.2.2.2.2.2.2.2.2.2 hj
  obtain rfl : nx = pc + 2 := hnx
  obtain ⟨r0, e0, g0, h0⟩ := am_Vr hst
  subst e0
  obtain ⟨q1, lq, q2, q3⟩ := hl
  have hlt : a < M.2.2.1 := q1 ▸ am_sto_lt hs
  exact lv_astore C.1 C.2.1 hd q2 hlt rfl (fun ls' hl' => kk p l e R s m args below meth c Qw D as A H locs ls' _ C E Z0 Wd S hk (am_L.sto (ls := ls) q1 q3 hs ⟨g0, rfl⟩ hl') h0)
theorem G.astore_n {a : Fin 4} {w : Nat} (hj : am_at M pc = some (.astore_n a, nx, x, y, v)) (hs : am_sto L (a : Nat) (.ref w) = some L') (kk : G X M d Q mc ms nx L' st h n k z) : G X M d Q mc ms pc L (.ref w :: st) h n k z := by
  intro p l e R s m args below meth c Qw D as A H locs ls rst C E Z0 Wd S hk hl hst
  obtain ⟨hd, hnx, hok⟩ := am_okM_dec C.2.2.2.2.2.2.2.2.2.2.2.2 hj
  obtain rfl : nx = pc + 1 := hnx
  obtain ⟨r0, e0, g0, h0⟩ := am_Vr hst
  subst e0
  obtain ⟨q1, lq, q2, q3⟩ := hl
  have hlt : (a : Nat) < M.2.2.1 := q1 ▸ am_sto_lt hs
  exact lv_astore_n C.1 C.2.1 hd rfl q2 hlt rfl (fun ls' hl' => kk p l e R s m args below meth c Qw D as A H locs ls' _ C E Z0 Wd S hk (am_L.sto (ls := ls) q1 q3 hs ⟨g0, rfl⟩ hl') h0)
theorem G.lstore {a : Nat} {w : Int64} (hj : am_at M pc = some (.lstore a, nx, x, y, v)) (hs : am_sto2 L a (.long w) = some L') (kk : G X M d Q mc ms nx L' st h n k z) : G X M d Q mc ms pc L (.long w :: st) h n k z := by
  intro p l e R s m args below meth c Qw D as A H locs ls rst C E Z0 Wd S hk hl hst
  obtain ⟨hd, hnx, hok⟩ := am_okM_dec C.2.2.2.2.2.2.2.2.2.2.2.2 hj
  obtain rfl : nx = pc + 2 := hnx
  obtain ⟨r0, e0, h0⟩ := am_Vl hst
  subst e0
  obtain ⟨q1, lq, q2, q3⟩ := hl
  have hlt : a + 1 < M.2.2.1 := q1 ▸ am_sto2_lt hs
  exact lv_lstore C.1 C.2.1 hd q2 hlt rfl (fun ls' hl' => kk p l e R s m args below meth c Qw D as A H locs ls' _ C E Z0 Wd S hk (am_L.sto2 (ls := ls) q1 q3 hs rfl hl') h0)
theorem G.lstore_n {a : Fin 4} {w : Int64} (hj : am_at M pc = some (.lstore_n a, nx, x, y, v)) (hs : am_sto2 L (a : Nat) (.long w) = some L') (kk : G X M d Q mc ms nx L' st h n k z) : G X M d Q mc ms pc L (.long w :: st) h n k z := by
  intro p l e R s m args below meth c Qw D as A H locs ls rst C E Z0 Wd S hk hl hst
  obtain ⟨hd, hnx, hok⟩ := am_okM_dec C.2.2.2.2.2.2.2.2.2.2.2.2 hj
  obtain rfl : nx = pc + 1 := hnx
  obtain ⟨r0, e0, h0⟩ := am_Vl hst
  subst e0
  obtain ⟨q1, lq, q2, q3⟩ := hl
  have hlt : (a : Nat) + 1 < M.2.2.1 := q1 ▸ am_sto2_lt hs
  exact lv_lstore_n C.1 C.2.1 hd rfl q2 hlt rfl (fun ls' hl' => kk p l e R s m args below meth c Qw D as A H locs ls' _ C E Z0 Wd S hk (am_L.sto2 (ls := ls) q1 q3 hs rfl hl') h0)
theorem G.iinc {a : Nat} {b : Int} {w c0 : Int32} (hj : am_at M pc = some (.iinc a b, nx, x, y, .int c0)) (hi : L[a]? = some (.int w)) (hs : am_sto L a (.int (w + c0)) = some L') (kk : G X M d Q mc ms nx L' st h n k z) : G X M d Q mc ms pc L st h n k z := by
  intro p l e R s m args below meth c Qw D as A H locs ls rst C E Z0 Wd S hk hl hst
  obtain ⟨hd, hnx, hok⟩ := am_okM_dec C.2.2.2.2.2.2.2.2.2.2.2.2 hj
  obtain rfl : nx = pc + 3 := hnx
  have e1 := of_decide_eq_true hok
  cases e1
  obtain ⟨q1, lq, q2, q3⟩ := hl
  have hlt : a < M.2.2.1 := q1 ▸ am_sto_lt hs
  obtain ⟨rv, a1, a2⟩ := q3 a _ hi (by simp)
  rw [show rv = .int w from a2] at a1
  obtain ⟨kp, hkp⟩ := List.getElem?_of_mem a1
  exact lv_iinc C.1 C.2.1 hd q2 (k := kp) hkp rfl hlt rfl (fun ls' hl' => kk p l e R s m args below meth c Qw D as A H locs ls' _ C E Z0 Wd S hk (am_L.sto (ls := ls) q1 q3 hs rfl hl') hst)
theorem G.iadd {a b : Int32} (hj : am_at M pc = some (.iadd, nx, x, y, v)) (kk : G X M d Q mc ms nx L (.int (a + b) :: st) h n k z) : G X M d Q mc ms pc L (.int b :: .int a :: st) h n k z := by
  intro p l e R s m args below meth c Qw D as A H locs ls rst C E Z0 Wd S hk hl hst
  obtain ⟨hd, hnx, hok⟩ := am_okM_dec C.2.2.2.2.2.2.2.2.2.2.2.2 hj
  obtain rfl : nx = pc + 1 := hnx
  obtain ⟨r0, e0, h0⟩ := am_Vi hst
  subst e0
  obtain ⟨r1, e1, h1⟩ := am_Vi h0
  subst e1
  exact lv_iadd C.1 C.2.1 hd  (kk p l e R s m args below meth c Qw D as A H locs ls _ C E Z0 Wd S hk hl ⟨rfl, h1⟩)
theorem G.isub {a b : Int32} (hj : am_at M pc = some (.isub, nx, x, y, v)) (kk : G X M d Q mc ms nx L (.int (a - b) :: st) h n k z) : G X M d Q mc ms pc L (.int b :: .int a :: st) h n k z := by
  intro p l e R s m args below meth c Qw D as A H locs ls rst C E Z0 Wd S hk hl hst
  obtain ⟨hd, hnx, hok⟩ := am_okM_dec C.2.2.2.2.2.2.2.2.2.2.2.2 hj
  obtain rfl : nx = pc + 1 := hnx
  obtain ⟨r0, e0, h0⟩ := am_Vi hst
  subst e0
  obtain ⟨r1, e1, h1⟩ := am_Vi h0
  subst e1
  exact lv_isub C.1 C.2.1 hd  (kk p l e R s m args below meth c Qw D as A H locs ls _ C E Z0 Wd S hk hl ⟨rfl, h1⟩)
theorem G.imul {a b : Int32} (hj : am_at M pc = some (.imul, nx, x, y, v)) (kk : G X M d Q mc ms nx L (.int (a * b) :: st) h n k z) : G X M d Q mc ms pc L (.int b :: .int a :: st) h n k z := by
  intro p l e R s m args below meth c Qw D as A H locs ls rst C E Z0 Wd S hk hl hst
  obtain ⟨hd, hnx, hok⟩ := am_okM_dec C.2.2.2.2.2.2.2.2.2.2.2.2 hj
  obtain rfl : nx = pc + 1 := hnx
  obtain ⟨r0, e0, h0⟩ := am_Vi hst
  subst e0
  obtain ⟨r1, e1, h1⟩ := am_Vi h0
  subst e1
  exact lv_imul C.1 C.2.1 hd  (kk p l e R s m args below meth c Qw D as A H locs ls _ C E Z0 Wd S hk hl ⟨rfl, h1⟩)
theorem G.iand {a b : Int32} (hj : am_at M pc = some (.iand, nx, x, y, v)) (kk : G X M d Q mc ms nx L (.int (a &&& b) :: st) h n k z) : G X M d Q mc ms pc L (.int b :: .int a :: st) h n k z := by
  intro p l e R s m args below meth c Qw D as A H locs ls rst C E Z0 Wd S hk hl hst
  obtain ⟨hd, hnx, hok⟩ := am_okM_dec C.2.2.2.2.2.2.2.2.2.2.2.2 hj
  obtain rfl : nx = pc + 1 := hnx
  obtain ⟨r0, e0, h0⟩ := am_Vi hst
  subst e0
  obtain ⟨r1, e1, h1⟩ := am_Vi h0
  subst e1
  exact lv_iand C.1 C.2.1 hd  (kk p l e R s m args below meth c Qw D as A H locs ls _ C E Z0 Wd S hk hl ⟨rfl, h1⟩)
theorem G.ior {a b : Int32} (hj : am_at M pc = some (.ior, nx, x, y, v)) (kk : G X M d Q mc ms nx L (.int (a ||| b) :: st) h n k z) : G X M d Q mc ms pc L (.int b :: .int a :: st) h n k z := by
  intro p l e R s m args below meth c Qw D as A H locs ls rst C E Z0 Wd S hk hl hst
  obtain ⟨hd, hnx, hok⟩ := am_okM_dec C.2.2.2.2.2.2.2.2.2.2.2.2 hj
  obtain rfl : nx = pc + 1 := hnx
  obtain ⟨r0, e0, h0⟩ := am_Vi hst
  subst e0
  obtain ⟨r1, e1, h1⟩ := am_Vi h0
  subst e1
  exact lv_ior C.1 C.2.1 hd  (kk p l e R s m args below meth c Qw D as A H locs ls _ C E Z0 Wd S hk hl ⟨rfl, h1⟩)
theorem G.ixor {a b : Int32} (hj : am_at M pc = some (.ixor, nx, x, y, v)) (kk : G X M d Q mc ms nx L (.int (a ^^^ b) :: st) h n k z) : G X M d Q mc ms pc L (.int b :: .int a :: st) h n k z := by
  intro p l e R s m args below meth c Qw D as A H locs ls rst C E Z0 Wd S hk hl hst
  obtain ⟨hd, hnx, hok⟩ := am_okM_dec C.2.2.2.2.2.2.2.2.2.2.2.2 hj
  obtain rfl : nx = pc + 1 := hnx
  obtain ⟨r0, e0, h0⟩ := am_Vi hst
  subst e0
  obtain ⟨r1, e1, h1⟩ := am_Vi h0
  subst e1
  exact lv_ixor C.1 C.2.1 hd  (kk p l e R s m args below meth c Qw D as A H locs ls _ C E Z0 Wd S hk hl ⟨rfl, h1⟩)
theorem G.ishl {a b : Int32} (hj : am_at M pc = some (.ishl, nx, x, y, v)) (kk : G X M d Q mc ms nx L (.int (a <<< (b &&& 31)) :: st) h n k z) : G X M d Q mc ms pc L (.int b :: .int a :: st) h n k z := by
  intro p l e R s m args below meth c Qw D as A H locs ls rst C E Z0 Wd S hk hl hst
  obtain ⟨hd, hnx, hok⟩ := am_okM_dec C.2.2.2.2.2.2.2.2.2.2.2.2 hj
  obtain rfl : nx = pc + 1 := hnx
  obtain ⟨r0, e0, h0⟩ := am_Vi hst
  subst e0
  obtain ⟨r1, e1, h1⟩ := am_Vi h0
  subst e1
  exact lv_ishl C.1 C.2.1 hd  (kk p l e R s m args below meth c Qw D as A H locs ls _ C E Z0 Wd S hk hl ⟨rfl, h1⟩)
theorem G.ishr {a b : Int32} (hj : am_at M pc = some (.ishr, nx, x, y, v)) (kk : G X M d Q mc ms nx L (.int (a >>> (b &&& 31)) :: st) h n k z) : G X M d Q mc ms pc L (.int b :: .int a :: st) h n k z := by
  intro p l e R s m args below meth c Qw D as A H locs ls rst C E Z0 Wd S hk hl hst
  obtain ⟨hd, hnx, hok⟩ := am_okM_dec C.2.2.2.2.2.2.2.2.2.2.2.2 hj
  obtain rfl : nx = pc + 1 := hnx
  obtain ⟨r0, e0, h0⟩ := am_Vi hst
  subst e0
  obtain ⟨r1, e1, h1⟩ := am_Vi h0
  subst e1
  exact lv_ishr C.1 C.2.1 hd  (kk p l e R s m args below meth c Qw D as A H locs ls _ C E Z0 Wd S hk hl ⟨rfl, h1⟩)
theorem G.idiv {a b : Int32} (hj : am_at M pc = some (.idiv, nx, x, y, v)) (hne : ¬ b = 0) (kk : G X M d Q mc ms nx L (.int (a / b) :: st) h n k z) : G X M d Q mc ms pc L (.int b :: .int a :: st) h n k z := by
  intro p l e R s m args below meth c Qw D as A H locs ls rst C E Z0 Wd S hk hl hst
  obtain ⟨hd, hnx, hok⟩ := am_okM_dec C.2.2.2.2.2.2.2.2.2.2.2.2 hj
  obtain rfl : nx = pc + 1 := hnx
  obtain ⟨r0, e0, h0⟩ := am_Vi hst
  subst e0
  obtain ⟨r1, e1, h1⟩ := am_Vi h0
  subst e1
  exact lv_idiv C.1 C.2.1 hd hne (kk p l e R s m args below meth c Qw D as A H locs ls _ C E Z0 Wd S hk hl ⟨rfl, h1⟩)
theorem G.irem {a b : Int32} (hj : am_at M pc = some (.irem, nx, x, y, v)) (hne : ¬ b = 0) (kk : G X M d Q mc ms nx L (.int (a - a / b * b) :: st) h n k z) : G X M d Q mc ms pc L (.int b :: .int a :: st) h n k z := by
  intro p l e R s m args below meth c Qw D as A H locs ls rst C E Z0 Wd S hk hl hst
  obtain ⟨hd, hnx, hok⟩ := am_okM_dec C.2.2.2.2.2.2.2.2.2.2.2.2 hj
  obtain rfl : nx = pc + 1 := hnx
  obtain ⟨r0, e0, h0⟩ := am_Vi hst
  subst e0
  obtain ⟨r1, e1, h1⟩ := am_Vi h0
  subst e1
  exact lv_irem C.1 C.2.1 hd hne (kk p l e R s m args below meth c Qw D as A H locs ls _ C E Z0 Wd S hk hl ⟨rfl, h1⟩)
theorem G.ladd {a b : Int64} (hj : am_at M pc = some (.ladd, nx, x, y, v)) (kk : G X M d Q mc ms nx L (.long (a + b) :: st) h n k z) : G X M d Q mc ms pc L (.long b :: .long a :: st) h n k z := by
  intro p l e R s m args below meth c Qw D as A H locs ls rst C E Z0 Wd S hk hl hst
  obtain ⟨hd, hnx, hok⟩ := am_okM_dec C.2.2.2.2.2.2.2.2.2.2.2.2 hj
  obtain rfl : nx = pc + 1 := hnx
  obtain ⟨r0, e0, h0⟩ := am_Vl hst
  subst e0
  obtain ⟨r1, e1, h1⟩ := am_Vl h0
  subst e1
  exact lv_ladd C.1 C.2.1 hd  (kk p l e R s m args below meth c Qw D as A H locs ls _ C E Z0 Wd S hk hl ⟨rfl, h1⟩)
theorem G.lsub {a b : Int64} (hj : am_at M pc = some (.lsub, nx, x, y, v)) (kk : G X M d Q mc ms nx L (.long (a - b) :: st) h n k z) : G X M d Q mc ms pc L (.long b :: .long a :: st) h n k z := by
  intro p l e R s m args below meth c Qw D as A H locs ls rst C E Z0 Wd S hk hl hst
  obtain ⟨hd, hnx, hok⟩ := am_okM_dec C.2.2.2.2.2.2.2.2.2.2.2.2 hj
  obtain rfl : nx = pc + 1 := hnx
  obtain ⟨r0, e0, h0⟩ := am_Vl hst
  subst e0
  obtain ⟨r1, e1, h1⟩ := am_Vl h0
  subst e1
  exact lv_lsub C.1 C.2.1 hd  (kk p l e R s m args below meth c Qw D as A H locs ls _ C E Z0 Wd S hk hl ⟨rfl, h1⟩)
theorem G.land {a b : Int64} (hj : am_at M pc = some (.land, nx, x, y, v)) (kk : G X M d Q mc ms nx L (.long (a &&& b) :: st) h n k z) : G X M d Q mc ms pc L (.long b :: .long a :: st) h n k z := by
  intro p l e R s m args below meth c Qw D as A H locs ls rst C E Z0 Wd S hk hl hst
  obtain ⟨hd, hnx, hok⟩ := am_okM_dec C.2.2.2.2.2.2.2.2.2.2.2.2 hj
  obtain rfl : nx = pc + 1 := hnx
  obtain ⟨r0, e0, h0⟩ := am_Vl hst
  subst e0
  obtain ⟨r1, e1, h1⟩ := am_Vl h0
  subst e1
  exact lv_land C.1 C.2.1 hd  (kk p l e R s m args below meth c Qw D as A H locs ls _ C E Z0 Wd S hk hl ⟨rfl, h1⟩)
theorem G.lor {a b : Int64} (hj : am_at M pc = some (.lor, nx, x, y, v)) (kk : G X M d Q mc ms nx L (.long (a ||| b) :: st) h n k z) : G X M d Q mc ms pc L (.long b :: .long a :: st) h n k z := by
  intro p l e R s m args below meth c Qw D as A H locs ls rst C E Z0 Wd S hk hl hst
  obtain ⟨hd, hnx, hok⟩ := am_okM_dec C.2.2.2.2.2.2.2.2.2.2.2.2 hj
  obtain rfl : nx = pc + 1 := hnx
  obtain ⟨r0, e0, h0⟩ := am_Vl hst
  subst e0
  obtain ⟨r1, e1, h1⟩ := am_Vl h0
  subst e1
  exact lv_lor C.1 C.2.1 hd  (kk p l e R s m args below meth c Qw D as A H locs ls _ C E Z0 Wd S hk hl ⟨rfl, h1⟩)
theorem G.lshl {a : Int64} {b : Int32} (hj : am_at M pc = some (.lshl, nx, x, y, v)) (kk : G X M d Q mc ms nx L (.long (a <<< (b.toInt64 &&& 63)) :: st) h n k z) : G X M d Q mc ms pc L (.int b :: .long a :: st) h n k z := by
  intro p l e R s m args below meth c Qw D as A H locs ls rst C E Z0 Wd S hk hl hst
  obtain ⟨hd, hnx, hok⟩ := am_okM_dec C.2.2.2.2.2.2.2.2.2.2.2.2 hj
  obtain rfl : nx = pc + 1 := hnx
  obtain ⟨r0, e0, h0⟩ := am_Vi hst
  subst e0
  obtain ⟨r1, e1, h1⟩ := am_Vl h0
  subst e1
  exact lv_lshl C.1 C.2.1 hd rfl (kk p l e R s m args below meth c Qw D as A H locs ls _ C E Z0 Wd S hk hl ⟨rfl, h1⟩)
theorem G.lshr {a : Int64} {b : Int32} (hj : am_at M pc = some (.lshr, nx, x, y, v)) (kk : G X M d Q mc ms nx L (.long (a >>> (b.toInt64 &&& 63)) :: st) h n k z) : G X M d Q mc ms pc L (.int b :: .long a :: st) h n k z := by
  intro p l e R s m args below meth c Qw D as A H locs ls rst C E Z0 Wd S hk hl hst
  obtain ⟨hd, hnx, hok⟩ := am_okM_dec C.2.2.2.2.2.2.2.2.2.2.2.2 hj
  obtain rfl : nx = pc + 1 := hnx
  obtain ⟨r0, e0, h0⟩ := am_Vi hst
  subst e0
  obtain ⟨r1, e1, h1⟩ := am_Vl h0
  subst e1
  exact lv_lshr C.1 C.2.1 hd rfl (kk p l e R s m args below meth c Qw D as A H locs ls _ C E Z0 Wd S hk hl ⟨rfl, h1⟩)
theorem G.lushr {a : Int64} {b : Int32} (hj : am_at M pc = some (.lushr, nx, x, y, v)) (kk : G X M d Q mc ms nx L (.long (a.toUInt64 >>> (b.toInt64.toUInt64 &&& Int64.toUInt64 63)).toInt64 :: st) h n k z) : G X M d Q mc ms pc L (.int b :: .long a :: st) h n k z := by
  intro p l e R s m args below meth c Qw D as A H locs ls rst C E Z0 Wd S hk hl hst
  obtain ⟨hd, hnx, hok⟩ := am_okM_dec C.2.2.2.2.2.2.2.2.2.2.2.2 hj
  obtain rfl : nx = pc + 1 := hnx
  obtain ⟨r0, e0, h0⟩ := am_Vi hst
  subst e0
  obtain ⟨r1, e1, h1⟩ := am_Vl h0
  subst e1
  exact lv_lushr C.1 C.2.1 hd rfl (kk p l e R s m args below meth c Qw D as A H locs ls _ C E Z0 Wd S hk hl ⟨rfl, h1⟩)
theorem G.lcmp {a b : Int64} (hj : am_at M pc = some (.lcmp, nx, x, y, v)) (kk : G X M d Q mc ms nx L (.int (lg_cmp a b) :: st) h n k z) : G X M d Q mc ms pc L (.long b :: .long a :: st) h n k z := by
  intro p l e R s m args below meth c Qw D as A H locs ls rst C E Z0 Wd S hk hl hst
  obtain ⟨hd, hnx, hok⟩ := am_okM_dec C.2.2.2.2.2.2.2.2.2.2.2.2 hj
  obtain rfl : nx = pc + 1 := hnx
  obtain ⟨r0, e0, h0⟩ := am_Vl hst
  subst e0
  obtain ⟨r1, e1, h1⟩ := am_Vl h0
  subst e1
  exact W.lcmp C.1 C.2.1 hd  (kk p l e R s m args below meth c Qw D as A H locs ls _ C E Z0 Wd S hk hl ⟨rfl, h1⟩)
theorem G.ineg {a : Int32} (hj : am_at M pc = some (.ineg, nx, x, y, v)) (kk : G X M d Q mc ms nx L (.int (-a) :: st) h n k z) : G X M d Q mc ms pc L (.int a :: st) h n k z := by
  intro p l e R s m args below meth c Qw D as A H locs ls rst C E Z0 Wd S hk hl hst
  obtain ⟨hd, hnx, hok⟩ := am_okM_dec C.2.2.2.2.2.2.2.2.2.2.2.2 hj
  obtain rfl : nx = pc + 1 := hnx
  obtain ⟨r0, e0, h0⟩ := am_Vi hst
  subst e0
  exact lv_ineg C.1 C.2.1 hd  (kk p l e R s m args below meth c Qw D as A H locs ls _ C E Z0 Wd S hk hl ⟨rfl, h0⟩)
theorem G.i2l {a : Int32} (hj : am_at M pc = some (.i2l, nx, x, y, v)) (kk : G X M d Q mc ms nx L (.long a.toInt64 :: st) h n k z) : G X M d Q mc ms pc L (.int a :: st) h n k z := by
  intro p l e R s m args below meth c Qw D as A H locs ls rst C E Z0 Wd S hk hl hst
  obtain ⟨hd, hnx, hok⟩ := am_okM_dec C.2.2.2.2.2.2.2.2.2.2.2.2 hj
  obtain rfl : nx = pc + 1 := hnx
  obtain ⟨r0, e0, h0⟩ := am_Vi hst
  subst e0
  exact lv_i2l C.1 C.2.1 hd rfl (kk p l e R s m args below meth c Qw D as A H locs ls _ C E Z0 Wd S hk hl ⟨rfl, h0⟩)
theorem G.l2i {a : Int64} (hj : am_at M pc = some (.l2i, nx, x, y, v)) (kk : G X M d Q mc ms nx L (.int a.toInt32 :: st) h n k z) : G X M d Q mc ms pc L (.long a :: st) h n k z := by
  intro p l e R s m args below meth c Qw D as A H locs ls rst C E Z0 Wd S hk hl hst
  obtain ⟨hd, hnx, hok⟩ := am_okM_dec C.2.2.2.2.2.2.2.2.2.2.2.2 hj
  obtain rfl : nx = pc + 1 := hnx
  obtain ⟨r0, e0, h0⟩ := am_Vl hst
  subst e0
  exact lv_l2i C.1 C.2.1 hd rfl (kk p l e R s m args below meth c Qw D as A H locs ls _ C E Z0 Wd S hk hl ⟨rfl, h0⟩)
theorem G.i2b {a : Int32} (hj : am_at M pc = some (.i2b, nx, x, y, v)) (kk : G X M d Q mc ms nx L (.int a.toInt8.toInt32 :: st) h n k z) : G X M d Q mc ms pc L (.int a :: st) h n k z := by
  intro p l e R s m args below meth c Qw D as A H locs ls rst C E Z0 Wd S hk hl hst
  obtain ⟨hd, hnx, hok⟩ := am_okM_dec C.2.2.2.2.2.2.2.2.2.2.2.2 hj
  obtain rfl : nx = pc + 1 := hnx
  obtain ⟨r0, e0, h0⟩ := am_Vi hst
  subst e0
  exact lv_i2b C.1 C.2.1 hd rfl (kk p l e R s m args below meth c Qw D as A H locs ls _ C E Z0 Wd S hk hl ⟨rfl, h0⟩)
theorem G.i2s {a : Int32} (hj : am_at M pc = some (.i2s, nx, x, y, v)) (kk : G X M d Q mc ms nx L (.int a.toInt16.toInt32 :: st) h n k z) : G X M d Q mc ms pc L (.int a :: st) h n k z := by
  intro p l e R s m args below meth c Qw D as A H locs ls rst C E Z0 Wd S hk hl hst
  obtain ⟨hd, hnx, hok⟩ := am_okM_dec C.2.2.2.2.2.2.2.2.2.2.2.2 hj
  obtain rfl : nx = pc + 1 := hnx
  obtain ⟨r0, e0, h0⟩ := am_Vi hst
  subst e0
  exact lv_i2s C.1 C.2.1 hd rfl (kk p l e R s m args below meth c Qw D as A H locs ls _ C E Z0 Wd S hk hl ⟨rfl, h0⟩)
theorem G.i2c {a : Int32} (hj : am_at M pc = some (.i2c, nx, x, y, v)) (kk : G X M d Q mc ms nx L (.int (a.toUInt32 % 65536).toInt32 :: st) h n k z) : G X M d Q mc ms pc L (.int a :: st) h n k z := by
  intro p l e R s m args below meth c Qw D as A H locs ls rst C E Z0 Wd S hk hl hst
  obtain ⟨hd, hnx, hok⟩ := am_okM_dec C.2.2.2.2.2.2.2.2.2.2.2.2 hj
  obtain rfl : nx = pc + 1 := hnx
  obtain ⟨r0, e0, h0⟩ := am_Vi hst
  subst e0
  exact lv_i2c C.1 C.2.1 hd rfl (kk p l e R s m args below meth c Qw D as A H locs ls _ C E Z0 Wd S hk hl ⟨rfl, h0⟩)
theorem G.dup {a : Value} (hj : am_at M pc = some (.dup, nx, x, y, v)) (hc : a.category = 1) (kk : G X M d Q mc ms nx L (a :: a :: st) h n k z) : G X M d Q mc ms pc L (a :: st) h n k z := by
  intro p l e R s m args below meth c Qw D as A H locs ls rst C E Z0 Wd S hk hl hst
  obtain ⟨hd, hnx, hok⟩ := am_okM_dec C.2.2.2.2.2.2.2.2.2.2.2.2 hj
  obtain rfl : nx = pc + 1 := hnx
  obtain ⟨x0, r0, e0, g0, h0⟩ := am_Vc hst
  subst e0
  exact lv_dup C.1 C.2.1 hd (g0.cat.trans hc) (kk p l e R s m args below meth c Qw D as A H locs ls _ C E Z0 Wd S hk hl ⟨g0, g0, h0⟩)
theorem G.pop {a : Value} (hj : am_at M pc = some (.pop, nx, x, y, v)) (hc : a.category = 1) (kk : G X M d Q mc ms nx L (st) h n k z) : G X M d Q mc ms pc L (a :: st) h n k z := by
  intro p l e R s m args below meth c Qw D as A H locs ls rst C E Z0 Wd S hk hl hst
  obtain ⟨hd, hnx, hok⟩ := am_okM_dec C.2.2.2.2.2.2.2.2.2.2.2.2 hj
  obtain rfl : nx = pc + 1 := hnx
  obtain ⟨x0, r0, e0, g0, h0⟩ := am_Vc hst
  subst e0
  exact lv_pop C.1 C.2.1 hd (g0.cat.trans hc) (kk p l e R s m args below meth c Qw D as A H locs ls _ C E Z0 Wd S hk hl h0)
theorem G.dup2 {a b : Value} (hj : am_at M pc = some (.dup2, nx, x, y, v)) (hc : a.category = 1 ∧ b.category = 1) (kk : G X M d Q mc ms nx L (a :: b :: a :: b :: st) h n k z) : G X M d Q mc ms pc L (a :: b :: st) h n k z := by
  intro p l e R s m args below meth c Qw D as A H locs ls rst C E Z0 Wd S hk hl hst
  obtain ⟨hd, hnx, hok⟩ := am_okM_dec C.2.2.2.2.2.2.2.2.2.2.2.2 hj
  obtain rfl : nx = pc + 1 := hnx
  obtain ⟨x0, r0, e0, g0, h0⟩ := am_Vc hst
  subst e0
  obtain ⟨x1, r1, e1, g1, h1⟩ := am_Vc h0
  subst e1
  exact lv_dup2_11 C.1 C.2.1 hd (g0.cat.trans hc.1) (g1.cat.trans hc.2) (kk p l e R s m args below meth c Qw D as A H locs ls _ C E Z0 Wd S hk hl ⟨g0, g1, g0, g1, h1⟩)
theorem G.goto {o : Int} {t : Nat} (hj : am_at M pc = some (.goto o, nx, [t], y, v)) (kk : G X M d Q mc ms t L st h n k z) : G X M d Q mc ms pc L st h n k z := by
  intro p l e R s m args below meth c Qw D as A H locs ls rst C E Z0 Wd S hk hl hst
  obtain ⟨hd, hnx, hok⟩ := am_okM_dec C.2.2.2.2.2.2.2.2.2.2.2.2 hj
  obtain rfl : nx = pc + 3 := hnx
  exact lv_goto C.1 C.2.1 hd (of_decide_eq_true (show decide ((pc : Int) + o = (t : Int)) = true from hok)) (kk p l e R s m args below meth c Qw D as A H locs ls _ C E Z0 Wd S hk hl hst)
theorem G.if_eq {a : Int32} {o : Int} {t : Nat} (hj : am_at M pc = some (.ifCond .eq o, nx, [t], y, v)) (kt : a = 0 → G X M d Q mc ms t L st h n k z) (kf : ¬ a = 0 → G X M d Q mc ms nx L st h n k z) : G X M d Q mc ms pc L (.int a :: st) h n k z := by
  intro p l e R s m args below meth c Qw D as A H locs ls rst C E Z0 Wd S hk hl hst
  obtain ⟨hd, hnx, hok⟩ := am_okM_dec C.2.2.2.2.2.2.2.2.2.2.2.2 hj
  obtain rfl : nx = pc + 3 := hnx
  obtain ⟨r0, e0, h0⟩ := am_Vi hst
  subst e0
  exact lv_if_eq C.1 C.2.1 hd (of_decide_eq_true (show decide ((pc : Int) + o = (t : Int)) = true from hok)) (fun q => kt q p l e R s m args below meth c Qw D as A H locs ls _ C E Z0 Wd S hk hl h0) (fun q => kf q p l e R s m args below meth c Qw D as A H locs ls _ C E Z0 Wd S hk hl h0)
theorem G.icmp_eq {a b : Int32} {o : Int} {t : Nat} (hj : am_at M pc = some (.if_icmp .eq o, nx, [t], y, v)) (kt : a = b → G X M d Q mc ms t L st h n k z) (kf : ¬ a = b → G X M d Q mc ms nx L st h n k z) : G X M d Q mc ms pc L (.int b :: .int a :: st) h n k z := by
  intro p l e R s m args below meth c Qw D as A H locs ls rst C E Z0 Wd S hk hl hst
  obtain ⟨hd, hnx, hok⟩ := am_okM_dec C.2.2.2.2.2.2.2.2.2.2.2.2 hj
  obtain rfl : nx = pc + 3 := hnx
  obtain ⟨r0, e0, h0⟩ := am_Vi hst
  subst e0
  obtain ⟨r1, e1, h1⟩ := am_Vi h0
  subst e1
  exact lv_icmp_eq C.1 C.2.1 hd (of_decide_eq_true (show decide ((pc : Int) + o = (t : Int)) = true from hok)) (fun q => kt q p l e R s m args below meth c Qw D as A H locs ls _ C E Z0 Wd S hk hl h1) (fun q => kf q p l e R s m args below meth c Qw D as A H locs ls _ C E Z0 Wd S hk hl h1)
theorem G.if_ne {a : Int32} {o : Int} {t : Nat} (hj : am_at M pc = some (.ifCond .ne o, nx, [t], y, v)) (kt : ¬ a = 0 → G X M d Q mc ms t L st h n k z) (kf : a = 0 → G X M d Q mc ms nx L st h n k z) : G X M d Q mc ms pc L (.int a :: st) h n k z := by
  intro p l e R s m args below meth c Qw D as A H locs ls rst C E Z0 Wd S hk hl hst
  obtain ⟨hd, hnx, hok⟩ := am_okM_dec C.2.2.2.2.2.2.2.2.2.2.2.2 hj
  obtain rfl : nx = pc + 3 := hnx
  obtain ⟨r0, e0, h0⟩ := am_Vi hst
  subst e0
  exact lv_if_ne C.1 C.2.1 hd (of_decide_eq_true (show decide ((pc : Int) + o = (t : Int)) = true from hok)) (fun q => kt q p l e R s m args below meth c Qw D as A H locs ls _ C E Z0 Wd S hk hl h0) (fun q => kf q p l e R s m args below meth c Qw D as A H locs ls _ C E Z0 Wd S hk hl h0)
theorem G.icmp_ne {a b : Int32} {o : Int} {t : Nat} (hj : am_at M pc = some (.if_icmp .ne o, nx, [t], y, v)) (kt : ¬ a = b → G X M d Q mc ms t L st h n k z) (kf : a = b → G X M d Q mc ms nx L st h n k z) : G X M d Q mc ms pc L (.int b :: .int a :: st) h n k z := by
  intro p l e R s m args below meth c Qw D as A H locs ls rst C E Z0 Wd S hk hl hst
  obtain ⟨hd, hnx, hok⟩ := am_okM_dec C.2.2.2.2.2.2.2.2.2.2.2.2 hj
  obtain rfl : nx = pc + 3 := hnx
  obtain ⟨r0, e0, h0⟩ := am_Vi hst
  subst e0
  obtain ⟨r1, e1, h1⟩ := am_Vi h0
  subst e1
  exact lv_icmp_ne C.1 C.2.1 hd (of_decide_eq_true (show decide ((pc : Int) + o = (t : Int)) = true from hok)) (fun q => kt q p l e R s m args below meth c Qw D as A H locs ls _ C E Z0 Wd S hk hl h1) (fun q => kf q p l e R s m args below meth c Qw D as A H locs ls _ C E Z0 Wd S hk hl h1)
theorem G.if_lt {a : Int32} {o : Int} {t : Nat} (hj : am_at M pc = some (.ifCond .lt o, nx, [t], y, v)) (kt : a < 0 → G X M d Q mc ms t L st h n k z) (kf : ¬ a < 0 → G X M d Q mc ms nx L st h n k z) : G X M d Q mc ms pc L (.int a :: st) h n k z := by
  intro p l e R s m args below meth c Qw D as A H locs ls rst C E Z0 Wd S hk hl hst
  obtain ⟨hd, hnx, hok⟩ := am_okM_dec C.2.2.2.2.2.2.2.2.2.2.2.2 hj
  obtain rfl : nx = pc + 3 := hnx
  obtain ⟨r0, e0, h0⟩ := am_Vi hst
  subst e0
  exact lv_if_lt C.1 C.2.1 hd (of_decide_eq_true (show decide ((pc : Int) + o = (t : Int)) = true from hok)) (fun q => kt q p l e R s m args below meth c Qw D as A H locs ls _ C E Z0 Wd S hk hl h0) (fun q => kf q p l e R s m args below meth c Qw D as A H locs ls _ C E Z0 Wd S hk hl h0)
theorem G.icmp_lt {a b : Int32} {o : Int} {t : Nat} (hj : am_at M pc = some (.if_icmp .lt o, nx, [t], y, v)) (kt : a < b → G X M d Q mc ms t L st h n k z) (kf : ¬ a < b → G X M d Q mc ms nx L st h n k z) : G X M d Q mc ms pc L (.int b :: .int a :: st) h n k z := by
  intro p l e R s m args below meth c Qw D as A H locs ls rst C E Z0 Wd S hk hl hst
  obtain ⟨hd, hnx, hok⟩ := am_okM_dec C.2.2.2.2.2.2.2.2.2.2.2.2 hj
  obtain rfl : nx = pc + 3 := hnx
  obtain ⟨r0, e0, h0⟩ := am_Vi hst
  subst e0
  obtain ⟨r1, e1, h1⟩ := am_Vi h0
  subst e1
  exact lv_icmp_lt C.1 C.2.1 hd (of_decide_eq_true (show decide ((pc : Int) + o = (t : Int)) = true from hok)) (fun q => kt q p l e R s m args below meth c Qw D as A H locs ls _ C E Z0 Wd S hk hl h1) (fun q => kf q p l e R s m args below meth c Qw D as A H locs ls _ C E Z0 Wd S hk hl h1)
theorem G.if_ge {a : Int32} {o : Int} {t : Nat} (hj : am_at M pc = some (.ifCond .ge o, nx, [t], y, v)) (kt : 0 ≤ a → G X M d Q mc ms t L st h n k z) (kf : ¬ 0 ≤ a → G X M d Q mc ms nx L st h n k z) : G X M d Q mc ms pc L (.int a :: st) h n k z := by
  intro p l e R s m args below meth c Qw D as A H locs ls rst C E Z0 Wd S hk hl hst
  obtain ⟨hd, hnx, hok⟩ := am_okM_dec C.2.2.2.2.2.2.2.2.2.2.2.2 hj
  obtain rfl : nx = pc + 3 := hnx
  obtain ⟨r0, e0, h0⟩ := am_Vi hst
  subst e0
  exact lv_if_ge C.1 C.2.1 hd (of_decide_eq_true (show decide ((pc : Int) + o = (t : Int)) = true from hok)) (fun q => kt q p l e R s m args below meth c Qw D as A H locs ls _ C E Z0 Wd S hk hl h0) (fun q => kf q p l e R s m args below meth c Qw D as A H locs ls _ C E Z0 Wd S hk hl h0)
theorem G.icmp_ge {a b : Int32} {o : Int} {t : Nat} (hj : am_at M pc = some (.if_icmp .ge o, nx, [t], y, v)) (kt : b ≤ a → G X M d Q mc ms t L st h n k z) (kf : ¬ b ≤ a → G X M d Q mc ms nx L st h n k z) : G X M d Q mc ms pc L (.int b :: .int a :: st) h n k z := by
  intro p l e R s m args below meth c Qw D as A H locs ls rst C E Z0 Wd S hk hl hst
  obtain ⟨hd, hnx, hok⟩ := am_okM_dec C.2.2.2.2.2.2.2.2.2.2.2.2 hj
  obtain rfl : nx = pc + 3 := hnx
  obtain ⟨r0, e0, h0⟩ := am_Vi hst
  subst e0
  obtain ⟨r1, e1, h1⟩ := am_Vi h0
  subst e1
  exact lv_icmp_ge C.1 C.2.1 hd (of_decide_eq_true (show decide ((pc : Int) + o = (t : Int)) = true from hok)) (fun q => kt q p l e R s m args below meth c Qw D as A H locs ls _ C E Z0 Wd S hk hl h1) (fun q => kf q p l e R s m args below meth c Qw D as A H locs ls _ C E Z0 Wd S hk hl h1)
theorem G.if_gt {a : Int32} {o : Int} {t : Nat} (hj : am_at M pc = some (.ifCond .gt o, nx, [t], y, v)) (kt : 0 < a → G X M d Q mc ms t L st h n k z) (kf : ¬ 0 < a → G X M d Q mc ms nx L st h n k z) : G X M d Q mc ms pc L (.int a :: st) h n k z := by
  intro p l e R s m args below meth c Qw D as A H locs ls rst C E Z0 Wd S hk hl hst
  obtain ⟨hd, hnx, hok⟩ := am_okM_dec C.2.2.2.2.2.2.2.2.2.2.2.2 hj
  obtain rfl : nx = pc + 3 := hnx
  obtain ⟨r0, e0, h0⟩ := am_Vi hst
  subst e0
  exact lv_if_gt C.1 C.2.1 hd (of_decide_eq_true (show decide ((pc : Int) + o = (t : Int)) = true from hok)) (fun q => kt q p l e R s m args below meth c Qw D as A H locs ls _ C E Z0 Wd S hk hl h0) (fun q => kf q p l e R s m args below meth c Qw D as A H locs ls _ C E Z0 Wd S hk hl h0)
theorem G.icmp_gt {a b : Int32} {o : Int} {t : Nat} (hj : am_at M pc = some (.if_icmp .gt o, nx, [t], y, v)) (kt : b < a → G X M d Q mc ms t L st h n k z) (kf : ¬ b < a → G X M d Q mc ms nx L st h n k z) : G X M d Q mc ms pc L (.int b :: .int a :: st) h n k z := by
  intro p l e R s m args below meth c Qw D as A H locs ls rst C E Z0 Wd S hk hl hst
  obtain ⟨hd, hnx, hok⟩ := am_okM_dec C.2.2.2.2.2.2.2.2.2.2.2.2 hj
  obtain rfl : nx = pc + 3 := hnx
  obtain ⟨r0, e0, h0⟩ := am_Vi hst
  subst e0
  obtain ⟨r1, e1, h1⟩ := am_Vi h0
  subst e1
  exact lv_icmp_gt C.1 C.2.1 hd (of_decide_eq_true (show decide ((pc : Int) + o = (t : Int)) = true from hok)) (fun q => kt q p l e R s m args below meth c Qw D as A H locs ls _ C E Z0 Wd S hk hl h1) (fun q => kf q p l e R s m args below meth c Qw D as A H locs ls _ C E Z0 Wd S hk hl h1)
theorem G.if_le {a : Int32} {o : Int} {t : Nat} (hj : am_at M pc = some (.ifCond .le o, nx, [t], y, v)) (kt : a ≤ 0 → G X M d Q mc ms t L st h n k z) (kf : ¬ a ≤ 0 → G X M d Q mc ms nx L st h n k z) : G X M d Q mc ms pc L (.int a :: st) h n k z := by
  intro p l e R s m args below meth c Qw D as A H locs ls rst C E Z0 Wd S hk hl hst
  obtain ⟨hd, hnx, hok⟩ := am_okM_dec C.2.2.2.2.2.2.2.2.2.2.2.2 hj
  obtain rfl : nx = pc + 3 := hnx
  obtain ⟨r0, e0, h0⟩ := am_Vi hst
  subst e0
  exact lv_if_le C.1 C.2.1 hd (of_decide_eq_true (show decide ((pc : Int) + o = (t : Int)) = true from hok)) (fun q => kt q p l e R s m args below meth c Qw D as A H locs ls _ C E Z0 Wd S hk hl h0) (fun q => kf q p l e R s m args below meth c Qw D as A H locs ls _ C E Z0 Wd S hk hl h0)
theorem G.icmp_le {a b : Int32} {o : Int} {t : Nat} (hj : am_at M pc = some (.if_icmp .le o, nx, [t], y, v)) (kt : a ≤ b → G X M d Q mc ms t L st h n k z) (kf : ¬ a ≤ b → G X M d Q mc ms nx L st h n k z) : G X M d Q mc ms pc L (.int b :: .int a :: st) h n k z := by
  intro p l e R s m args below meth c Qw D as A H locs ls rst C E Z0 Wd S hk hl hst
  obtain ⟨hd, hnx, hok⟩ := am_okM_dec C.2.2.2.2.2.2.2.2.2.2.2.2 hj
  obtain rfl : nx = pc + 3 := hnx
  obtain ⟨r0, e0, h0⟩ := am_Vi hst
  subst e0
  obtain ⟨r1, e1, h1⟩ := am_Vi h0
  subst e1
  exact lv_icmp_le C.1 C.2.1 hd (of_decide_eq_true (show decide ((pc : Int) + o = (t : Int)) = true from hok)) (fun q => kt q p l e R s m args below meth c Qw D as A H locs ls _ C E Z0 Wd S hk hl h1) (fun q => kf q p l e R s m args below meth c Qw D as A H locs ls _ C E Z0 Wd S hk hl h1)
end GR
end
section
/-! cells, calls, returns -/
def am_ty (ci : Nat) : Nat → FieldType := match ci with
  | 0 => tyX0
  | 1 => tyX1
  | 2 => tyX2
  | 3 => tyX3
  | 4 => tyX4
  | 5 => tyX5
  | 6 => tyX6
  | 7 => tyX7
  | 8 => tyX8
  | 9 => tyX9
  | 10 => tyX10
  | 11 => tyX11
  | _ => tyX12
theorem am_cl {ci : Nat} {q : vw_C} (h : vwCl[ci]? = some q) : (∀ w ∈ u_ws q.1 q.2.1 q.2.2, w ∈ lw_T) ∧ (∀ k, k < q.2.2 → parseFieldDescriptor (q.2.1 k).2.2.1 = some (am_ty ci k)) ∧ ∀ a, a < q.2.2 → ∀ b, b < q.2.2 → a ≠ b → (q.2.1 a).2.1 ≠ (q.2.1 b).2.1 := by
  match ci, h with
  | 0, h => cases h; exact ⟨inX0, tyX0_ok, nmX0⟩
  | 1, h => cases h; exact ⟨inX1, tyX1_ok, nmX1⟩
  | 2, h => cases h; exact ⟨inX2, tyX2_ok, nmX2⟩
  | 3, h => cases h; exact ⟨inX3, tyX3_ok, nmX3⟩
  | 4, h => cases h; exact ⟨inX4, tyX4_ok, nmX4⟩
  | 5, h => cases h; exact ⟨inX5, tyX5_ok, nmX5⟩
  | 6, h => cases h; exact ⟨inX6, tyX6_ok, nmX6⟩
  | 7, h => cases h; exact ⟨inX7, tyX7_ok, nmX7⟩
  | 8, h => cases h; exact ⟨inX8, tyX8_ok, nmX8⟩
  | 9, h => cases h; exact ⟨inX9, tyX9_ok, nmX9⟩
  | 10, h => cases h; exact ⟨inX10, tyX10_ok, nmX10⟩
  | 11, h => cases h; exact ⟨inX11, tyX11_ok, nmX11⟩
  | 12, h => cases h; exact ⟨inX12, tyX12_ok, nmX12⟩
  | k + 13, h => simp [vwCl] at h
theorem am_fld_spec {own : String} {idx ci k i : Nat} {put : Bool} (h : am_fld own idx ci k i put = true) : ∃ q : vw_C, vwCl[ci]? = some q ∧ k < q.2.2 ∧ Cond.fieldLink own idx (q.2.1 k).1 (q.2.1 k).2.1 (q.2.1 k).2.2.1 ∈ lw_T ∧ (put = true → (q.2.1 k).2.2.2 = true → (q.2.1 k).1 = own) := by
  unfold am_fld at h
  split at h
  · rename_i q hq
    rw [Bool.and_eq_true, Bool.and_eq_true, decide_eq_true_eq] at h
    refine ⟨q, hq, h.1.1, am_word_in h.1.2, fun hp hf => ?_⟩
    have h2 := h.2
    rw [hp, hf] at h2
    simpa using h2
  · cases h
def am_up (h : am_H) (q : Nat) (c : am_C) : am_H := fun j => if j = q then c else h j
theorem am_Z.ext {as as' : Nat → Nat} {n n' : Nat} (hE : am_E as as' n n') {A : Nat → Prop} {s : State} {H : Heap} (h : am_Z as A s H) : am_Z as' A s H := by
  obtain ⟨h1, h2, h3, h4, h5, h6, h7⟩ := h
  have e0 : as' 3000 = as 3000 := hE.2 _ (Or.inr (by omega))
  have e1 : as' 3001 = as 3001 := hE.2 _ (Or.inr (by omega))
  have e2 : (fun i => as' (1000 + i)) = (fun i => as (1000 + i)) := funext fun i => hE.2 _ (Or.inr (by omega))
  have e3 : (fun i => as' (2000 + i)) = (fun i => as (2000 + i)) := funext fun i => hE.2 _ (Or.inr (by omega))
  refine ⟨by rw [e0]; exact h1, by rw [e0]; exact h2, h3, by rw [e1]; exact h4, by rw [e2, e3]; exact h5, fun i hi => ?_, h7⟩
  rw [show as' (1000 + i) = as (1000 + i) from hE.2 _ (Or.inr (by omega))]
  exact h6 i hi
theorem am_Z.same {as : Nat → Nat} {A : Nat → Prop} {s U : State} {H : Heap} (hv : s.vm = U.vm) (h : am_Z as A s H) : am_Z as A U H := by
  obtain ⟨h1, h2, h3, h4, h5, h6, h7⟩ := h
  have ha : s.vm.Alike U.vm := by rw [hv]; exact Vm.Alike.refl _
  exact ⟨h1.moved ha, h2.moved ha, h3.moved ha, h4.moved ha, h5.moved ha, fun i hi => (h6 i hi).same hv.symm, fun w hw hn => am_Nw.same hn hv (h7 w hw hn)⟩
theorem am_W.moved {D : va_G} {as : Nat → Nat} {n : Nat} {h : am_H} {A : Nat → Prop} {u U : State} {H : Heap} (hvm : u.vm.Alike U.vm) (w : am_W D as n h A u H) : am_W D as n h A U H := by
  obtain ⟨ws, tys, w1, w2, w3, w4, w5⟩ := w
  exact ⟨ws, tys, w1, w2, w3, w4.moved hvm, w5⟩
theorem am_W.weaken {D : va_G} {as : Nat → Nat} {n : Nat} {h : am_H} {A B : Nat → Prop} {U : State} {H : Heap} (hAB : ∀ q, A q → B q) (w : am_W D as n h A U H) : am_W D as n h B U H := by
  obtain ⟨ws, tys, w1, w2, w3, w4, w5⟩ := w
  exact ⟨ws, tys, w1, w2, w3, w4, w5.weaken (fun _ _ _ h => hAB _ h)⟩
theorem am_W.into {D : va_G} {as : Nat → Nat} {n : Nat} {h : am_H} {A B : Nat → Prop} {U : State} {H : Heap} (hB : ∀ k, k < n → B (as k)) (w : am_W D as n h A U H) : am_W D as n h B U H := by
  obtain ⟨ws, tys, w1, w2, w3, w4, w5⟩ := w
  refine ⟨ws, tys, w1, w2, w3, w4, w5.1, fun k q hk => ?_⟩
  have hl : k < n := by rw [← w1]; exact (List.getElem?_eq_some_iff.mp hk).1
  obtain ⟨e, h1, -⟩ := w2 k hl
  rw [h1] at hk
  cases hk
  exact hB k hl
theorem am_W.inA {D : va_G} {as : Nat → Nat} {n : Nat} {h : am_H} {A : Nat → Prop} {U : State} {H : Heap} (w : am_W D as n h A U H) : ∀ k, k < n → A (as k) := by
  obtain ⟨ws, tys, w1, w2, w3, w4, w5⟩ := w
  intro k hk
  obtain ⟨e, h1, -⟩ := w2 k hk
  exact w5.2 k _ h1
/-- a cell is replaced -/
theorem am_W.put {D : va_G} {as : Nat → Nat} {n q : Nat} {h : am_H} {A : Nat → Prop} {U : State} {H1 : Heap} {ws : va_W} {tys : List (ClassId × FieldType)} {c : am_C} {e : va_E} (w1 : ws.length = n) (w2 : ∀ k : Nat, k < n → ∃ e, ws[k]? = some (as k, e) ∧ am_Cl as n tys (h k) e) (w4 : va_K D vwCl tys U) (hq : q < n)
    (hc : am_Cl as n tys c e) (w3 : va_P D vwCl (ws.set q (as q, e)) H1) (w5 : va_D A (ws.set q (as q, e))) : am_W D as n (am_up h q c) A U H1 := by
  refine ⟨ws.set q (as q, e), tys, by rw [List.length_set]; exact w1, fun k hk => ?_, w3, w4, w5⟩
  by_cases ek : k = q
  · subst ek
    refine ⟨e, by rw [List.getElem?_set_self (by rw [w1]; exact hk)], ?_⟩
    unfold am_up
    rw [if_pos rfl]
    exact hc
  · obtain ⟨e', h1, h2⟩ := w2 k hk
    refine ⟨e', by rw [List.getElem?_set_ne (fun z => ek z.symm)]; exact h1, ?_⟩
    unfold am_up
    rw [if_neg ek]
    exact h2
/-- a cell is made -/
def am_as (as : Nat → Nat) (n q : Nat) : Nat → Nat := fun j => if j = n then q else as j
theorem am_as_E {as : Nat → Nat} {n q : Nat} (hn : n < 1000) : am_E as (am_as as n q) n (n + 1) := ⟨by omega, fun k hk => by unfold am_as; rw [if_neg (by unfold am_ok at hk; omega)]⟩
theorem am_W.make {D : va_G} {as : Nat → Nat} {n q : Nat} {h : am_H} {A : Nat → Prop} {U : State} {H1 : Heap} {ws : va_W} {tys t2 : List (ClassId × FieldType)} {c : am_C} {e : va_E} (hn : n < 1000) (w1 : ws.length = n) (w2 : ∀ k : Nat, k < n → ∃ e, ws[k]? = some (as k, e) ∧ am_Cl as n tys (h k) e) (w4 : va_K D vwCl (tys ++ t2) U)
    (hc : am_Cl (am_as as n q) (n + 1) (tys ++ t2) c e) (w3 : va_P D vwCl (ws ++ [(q, e)]) H1) (w5 : va_D A (ws ++ [(q, e)])) : am_W D (am_as as n q) (n + 1) (am_up h n c) A U H1 := by
  refine ⟨ws ++ [(q, e)], tys ++ t2, by rw [List.length_append, w1]; rfl, fun k hk => ?_, w3, w4, w5⟩
  by_cases ek : k = n
  · subst ek
    refine ⟨e, ?_, ?_⟩
    · rw [List.getElem?_append_right (by omega), w1, Nat.sub_self]
      unfold am_as
      rw [if_pos rfl]; rfl
    · unfold am_up
      rw [if_pos rfl]
      exact hc
  · obtain ⟨e', h1, h2⟩ := w2 k (by omega)
    refine ⟨e', ?_, ?_⟩
    · rw [List.getElem?_append_left (by omega), h1]
      unfold am_as
      rw [if_neg ek]
    · unfold am_up
      rw [if_neg ek]
      exact h2.mono (am_as_E hn)
theorem am_R.fit {as : Nat → Nat} {n : Nat} {v rv : Value} {ty : FieldType} (h : am_R as n v rv) (hn : narrow ty v = v) (hf : fits ty v = true) : narrow ty rv = rv ∧ fits ty rv = true := by
  cases v with
  | ref k =>
    rw [h.2]
    cases ty <;> first | (exact ⟨rfl, rfl⟩) | (simp [fits] at hf)
  | _ =>
    rw [show rv = _ from h]
    exact ⟨hn, hf⟩
def am_noR (fs : List Value) : Bool := fs.all fun v => match v with
  | .ref _ => false
  | _ => true
theorem am_noR_Vs {as : Nat → Nat} {n : Nat} : ∀ {fs : List Value}, am_noR fs = true → am_Vs as n fs fs
  | [], _ => trivial
  | v :: fs, h => by
    unfold am_noR at h
    rw [List.all_cons, Bool.and_eq_true] at h
    refine ⟨?_, am_noR_Vs h.2⟩
    cases v <;> first | rfl | (simp at h)
section GH
variable {X : am_X0} {M : am_M} {d : Nat} {Q : Option Value → am_H → Nat → Prop} {mc ms pc nx : Nat} {L L' st : List Value} {h : am_H} {n k z : Nat} {x : List Nat} {y : MethodName} {v : Value}
theorem G.getf {a q ci kf i : Nat} {fs : List Value} {w : Value} (hj : am_at M pc = some (.getfield a, nx, [ci, kf, i], y, v)) (hq : q < n) (hh : h q = .inr (ci, fs)) (hw : fs[kf]? = some w) (kk : G X M d Q mc ms nx L (w :: st) h n k z) : G X M d Q mc ms pc L (.ref q :: st) h n k z := by
  intro p l e R s m args below meth c Qw D as A H locs ls rst C E Z0 Wd S hk hl hst
  obtain ⟨hd, hnx, hok⟩ := am_okM_dec C.2.2.2.2.2.2.2.2.2.2.2.2 hj
  obtain rfl : nx = pc + 3 := hnx
  obtain ⟨r0, e0, g0, h0⟩ := am_Vr hst
  subst e0
  obtain ⟨qc, f1, f2, f3, -⟩ := am_fld_spec (show am_fld M.1.cls a ci kf i false = true from hok)
  obtain ⟨ws, tys, w1, w2, w3, w4, w5⟩ := id Wd
  obtain ⟨en, w6, w7⟩ := w2 q hq
  rw [hh] at w7
  obtain ⟨fs', rfl, w8⟩ := w7
  obtain ⟨rv, w9, w10⟩ := w8.get hw
  exact va_get C.1 C.2.1 C.2.2.2.2.2.2.2.1 (am_cl f1).1 C.2.2.2.2.2.2.1 w4 w3 q w6 f1 kf f2 (C.2.2.2.2.2.2.2.1 _ f3) (fun _ hx => hx) w9 hd (kk p l e R s m args below meth c Qw D as A H locs ls _ C E Z0 Wd S hk hl ⟨w10, h0⟩)
theorem G.putf {a q ci kf i : Nat} {fs : List Value} {w : Value} (hj : am_at M pc = some (.putfield a, nx, [ci, kf, i], y, v)) (hq : q < n) (hh : h q = .inr (ci, fs)) (hl0 : kf < fs.length) (hn : narrow (am_ty ci kf) w = w) (hf : fits (am_ty ci kf) w = true) (hfin : ∀ qc : vw_C, vwCl[ci]? = some qc → (qc.2.1 kf).2.2.2 = true → M.1.name = "<init>") (kk : G X M d Q mc ms nx L st (am_up h q (.inr (ci, fs.set kf w))) n k z) : G X M d Q mc ms pc L (w :: .ref q :: st) h n k z := by
  intro p l e R s m args below meth c Qw D as A H locs ls rst C E Z0 Wd S hk hl hst
  obtain ⟨hd, hnx, hok⟩ := am_okM_dec C.2.2.2.2.2.2.2.2.2.2.2.2 hj
  obtain rfl : nx = pc + 3 := hnx
  obtain ⟨x0, r0, e0, g0, h0⟩ := am_Vc hst
  subst e0
  obtain ⟨r1, e1, g1, h1⟩ := am_Vr h0
  subst e1
  obtain ⟨qc, f1, f2, f3, f4⟩ := am_fld_spec (show am_fld M.1.cls a ci kf i true = true from hok)
  obtain ⟨ws, tys, w1, w2, w3, w4, w5⟩ := id Wd
  obtain ⟨en, w6, w7⟩ := w2 q hq
  rw [hh] at w7
  obtain ⟨fs', rfl, w8⟩ := w7
  obtain ⟨n1, n2⟩ := g0.fit hn hf
  have hc : am_Cl as n tys (.inr (ci, fs.set kf w)) (.inr (ci, fs'.set kf x0)) := ⟨_, rfl, w8.set g0 kf⟩
  cases hfi : (qc.2.1 kf).2.2.2 with
  | false => exact va_put C.1 C.2.1 C.2.2.2.2.2.2.2.1 (am_cl f1).1 (am_ty ci) (am_cl f1).2.1 (am_cl f1).2.2 C.2.2.2.2.2.2.1 w4 w3 w5 S q w6 f1 kf f2 (C.2.2.2.2.2.2.2.1 _ f3) (fun _ hx => hx) hfi ((am_cl f1).2.1 kf f2) n1 n2 (by rw [w8.len]; exact hl0) hd (fun H1 locs1 p1 d1 s1 => kk p l e R s m args below meth c Qw D as A H1 locs1 ls _ C E Z0 (am_W.put w1 w2 w4 hq hc p1 d1) s1 hk hl h1)
  | true => exact va_putF C.1 C.2.1 C.2.2.2.2.2.2.2.1 (am_cl f1).1 (am_ty ci) (am_cl f1).2.1 (am_cl f1).2.2 C.2.2.2.2.2.2.1 w4 w3 w5 S q w6 f1 kf f2 (C.2.2.2.2.2.2.2.1 _ f3) (fun _ hx => hx) hfi (C.2.2.2.2.2.1.trans (hfin qc f1 hfi)) (f4 rfl hfi) ((am_cl f1).2.1 kf f2) n1 n2 (by rw [w8.len]; exact hl0) hd (fun H1 locs1 p1 d1 s1 => kk p l e R s m args below meth c Qw D as A H1 locs1 ls _ C E Z0 (am_W.put w1 w2 w4 hq hc p1 d1) s1 hk hl h1)
theorem G.iaload {q len : Nat} {f : Nat → Int32} {a : Int32} (hj : am_at M pc = some (.iaload, nx, x, y, v)) (hq : q < n) (hh : h q = .inl (0, len, f)) (hin : vp_in a len) (kk : G X M d Q mc ms nx L (.int (f a.toNatClampNeg) :: st) h n k z) : G X M d Q mc ms pc L (.int a :: .ref q :: st) h n k z := by
  intro p l e R s m args below meth c Qw D as A H locs ls rst C E Z0 Wd S hk hl hst
  obtain ⟨hd, hnx, hok⟩ := am_okM_dec C.2.2.2.2.2.2.2.2.2.2.2.2 hj
  obtain rfl : nx = pc + 1 := hnx
  obtain ⟨r0, e0, h0⟩ := am_Vi hst
  subst e0
  obtain ⟨r1, e1, g1, h1⟩ := am_Vr h0
  subst e1
  obtain ⟨ws, tys, w1, w2, w3, w4, w5⟩ := id Wd
  obtain ⟨en, w6, w7⟩ := w2 q hq
  rw [hh] at w7
  obtain ⟨cA, t0, rfl, w8⟩ := w7
  exact va_iald C.1 C.2.1 w4 w3 q t0 w6 w8 hin hd (kk p l e R s m args below meth c Qw D as A H locs ls _ C E Z0 Wd S hk hl ⟨rfl, h1⟩)
theorem G.iastore {q len : Nat} {f : Nat → Int32} {a b : Int32} (hj : am_at M pc = some (.iastore, nx, x, y, v)) (hq : q < n) (hh : h q = .inl (0, len, f)) (hin : vp_in a len) (kk : G X M d Q mc ms nx L st (am_up h q (.inl (0, len, upd f a.toNatClampNeg b))) n k z) : G X M d Q mc ms pc L (.int b :: .int a :: .ref q :: st) h n k z := by
  intro p l e R s m args below meth c Qw D as A H locs ls rst C E Z0 Wd S hk hl hst
  obtain ⟨hd, hnx, hok⟩ := am_okM_dec C.2.2.2.2.2.2.2.2.2.2.2.2 hj
  obtain rfl : nx = pc + 1 := hnx
  obtain ⟨r0, e0, h0⟩ := am_Vi hst
  subst e0
  obtain ⟨r1, e1, h1⟩ := am_Vi h0
  subst e1
  obtain ⟨r2, e2, g2, h2⟩ := am_Vr h1
  subst e2
  obtain ⟨ws, tys, w1, w2, w3, w4, w5⟩ := id Wd
  obtain ⟨en, w6, w7⟩ := w2 q hq
  rw [hh] at w7
  obtain ⟨cA, t0, rfl, w8⟩ := w7
  exact va_iast C.1 C.2.1 w4 w3 w5 S q t0 w6 w8 hin hd (fun H1 locs1 p1 d1 s1 => kk p l e R s m args below meth c Qw D as A H1 locs1 ls _ C E Z0 (am_W.put w1 w2 w4 hq ⟨cA, t0, rfl, w8⟩ p1 d1) s1 hk hl h2)
theorem G.baload {q len : Nat} {f : Nat → Int32} {a : Int32} (hj : am_at M pc = some (.baload, nx, x, y, v)) (hq : q < n) (hh : h q = .inl (1, len, f)) (hin : vp_in a len) (kk : G X M d Q mc ms nx L (.int (f a.toNatClampNeg) :: st) h n k z) : G X M d Q mc ms pc L (.int a :: .ref q :: st) h n k z := by
  intro p l e R s m args below meth c Qw D as A H locs ls rst C E Z0 Wd S hk hl hst
  obtain ⟨hd, hnx, hok⟩ := am_okM_dec C.2.2.2.2.2.2.2.2.2.2.2.2 hj
  obtain rfl : nx = pc + 1 := hnx
  obtain ⟨r0, e0, h0⟩ := am_Vi hst
  subst e0
  obtain ⟨r1, e1, g1, h1⟩ := am_Vr h0
  subst e1
  obtain ⟨ws, tys, w1, w2, w3, w4, w5⟩ := id Wd
  obtain ⟨en, w6, w7⟩ := w2 q hq
  rw [hh] at w7
  obtain ⟨cA, t0, rfl, w8⟩ := w7
  exact va_zald C.1 C.2.1 w4 w3 q t0 w6 w8 hin hd (kk p l e R s m args below meth c Qw D as A H locs ls _ C E Z0 Wd S hk hl ⟨rfl, h1⟩)
theorem G.bastore {q len : Nat} {f : Nat → Int32} {a b : Int32} (hj : am_at M pc = some (.bastore, nx, x, y, v)) (hq : q < n) (hh : h q = .inl (1, len, f)) (hin : vp_in a len) (kk : G X M d Q mc ms nx L st (am_up h q (.inl (1, len, upd f a.toNatClampNeg (vp_nar .boolean b)))) n k z) : G X M d Q mc ms pc L (.int b :: .int a :: .ref q :: st) h n k z := by
  intro p l e R s m args below meth c Qw D as A H locs ls rst C E Z0 Wd S hk hl hst
  obtain ⟨hd, hnx, hok⟩ := am_okM_dec C.2.2.2.2.2.2.2.2.2.2.2.2 hj
  obtain rfl : nx = pc + 1 := hnx
  obtain ⟨r0, e0, h0⟩ := am_Vi hst
  subst e0
  obtain ⟨r1, e1, h1⟩ := am_Vi h0
  subst e1
  obtain ⟨r2, e2, g2, h2⟩ := am_Vr h1
  subst e2
  obtain ⟨ws, tys, w1, w2, w3, w4, w5⟩ := id Wd
  obtain ⟨en, w6, w7⟩ := w2 q hq
  rw [hh] at w7
  obtain ⟨cA, t0, rfl, w8⟩ := w7
  exact va_zast C.1 C.2.1 w4 w3 w5 S q t0 w6 w8 hin hd (fun H1 locs1 p1 d1 s1 => kk p l e R s m args below meth c Qw D as A H1 locs1 ls _ C E Z0 (am_W.put w1 w2 w4 hq ⟨cA, t0, rfl, w8⟩ p1 d1) s1 hk hl h2)
theorem G.alen {q kd len : Nat} {f : Nat → Int32} (hj : am_at M pc = some (.arraylength, nx, x, y, v)) (hq : q < n) (hh : h q = .inl (kd, len, f)) (kk : G X M d Q mc ms nx L (.int (nI len) :: st) h n k z) : G X M d Q mc ms pc L (.ref q :: st) h n k z := by
  intro p l e R s m args below meth c Qw D as A H locs ls rst C E Z0 Wd S hk hl hst
  obtain ⟨hd, hnx, hok⟩ := am_okM_dec C.2.2.2.2.2.2.2.2.2.2.2.2 hj
  obtain rfl : nx = pc + 1 := hnx
  obtain ⟨r1, e1, g1, h1⟩ := am_Vr hst
  subst e1
  obtain ⟨ws, tys, w1, w2, w3, w4, w5⟩ := id Wd
  obtain ⟨en, w6, w7⟩ := w2 q hq
  rw [hh] at w7
  obtain ⟨cA, t0, rfl, w8⟩ := w7
  exact va_alen C.1 C.2.1 w4 w3 q t0 w6 w8 rfl hd (kk p l e R s m args below meth c Qw D as A H locs ls _ C E Z0 Wd S hk hl ⟨rfl, h1⟩)
theorem G.iret {a : Int32} {ty : FieldType} (hj : am_at M pc = some (.ireturn, nx, x, y, v)) (hr : M.2.2.2.1 = some ty) (hn : narrow ty (.int a) = .int a) (kk : Q (some (.int a)) h n) : G X M d Q mc ms pc L [.int a] h n k z := by
  intro p l e R s m args below meth c Qw D as A H locs ls rst C E Z0 Wd S hk hl hst
  obtain ⟨hd, hnx, hok⟩ := am_okM_dec C.2.2.2.2.2.2.2.2.2.2.2.2 hj
  obtain ⟨r0, e0, h0⟩ := am_Vi hst
  subst e0
  cases am_V0 h0
  exact W.widen hk.1 hk.2.1 (E H locs as n h (some (.int a)) (some (.int a)) pc ls .ireturn hd ⟨a, ty, rfl, hr, hn⟩ rfl kk Wd ⟨am_E.rf, hk.2.2⟩ S)
theorem G.lret {a : Int64} (hj : am_at M pc = some (.lreturn, nx, x, y, v)) (hr : M.2.2.2.1 = some .long) (kk : Q (some (.long a)) h n) : G X M d Q mc ms pc L [.long a] h n k z := by
  intro p l e R s m args below meth c Qw D as A H locs ls rst C E Z0 Wd S hk hl hst
  obtain ⟨hd, hnx, hok⟩ := am_okM_dec C.2.2.2.2.2.2.2.2.2.2.2.2 hj
  obtain ⟨r0, e0, h0⟩ := am_Vl hst
  subst e0
  cases am_V0 h0
  exact W.widen hk.1 hk.2.1 (E H locs as n h (some (.long a)) (some (.long a)) pc ls .lreturn hd ⟨a, rfl, hr⟩ rfl kk Wd ⟨am_E.rf, hk.2.2⟩ S)
theorem G.aret {a : Nat} {ty : FieldType} (hj : am_at M pc = some (.areturn, nx, x, y, v)) (hr : M.2.2.2.1 = some ty) (hn : (∃ n, ty = .object n) ∨ ∃ t, ty = .array t) (kk : Q (some (.ref a)) h n) : G X M d Q mc ms pc L [.ref a] h n k z := by
  intro p l e R s m args below meth c Qw D as A H locs ls rst C E Z0 Wd S hk hl hst
  obtain ⟨hd, hnx, hok⟩ := am_okM_dec C.2.2.2.2.2.2.2.2.2.2.2.2 hj
  obtain ⟨r0, e0, g0, h0⟩ := am_Vr hst
  subst e0
  cases am_V0 h0
  exact W.widen hk.1 hk.2.1 (E H locs as n h (some (.ref a)) (some (.ref (as a))) pc ls .areturn hd ⟨_, ty, rfl, hr, hn⟩ ⟨g0, rfl⟩ kk Wd ⟨am_E.rf, hk.2.2⟩ S)
theorem G.vret (hj : am_at M pc = some (.return_, nx, x, y, v)) (hr : M.2.2.2.1 = none) (kk : Q none h n) : G X M d Q mc ms pc L [] h n k z := by
  intro p l e R s m args below meth c Qw D as A H locs ls rst C E Z0 Wd S hk hl hst
  obtain ⟨hd, hnx, hok⟩ := am_okM_dec C.2.2.2.2.2.2.2.2.2.2.2.2 hj
  cases am_V0 hst
  exact W.widen hk.1 hk.2.1 (E H locs as n h none none pc ls .return_ hd ⟨hr, rfl⟩ trivial kk Wd ⟨am_E.rf, hk.2.2⟩ S)
theorem G.sld {N : Nat} {xs : Nat → Int32} {a : Int32} (hj : am_at M pc = some (.iaload, nx, x, y, v)) (hX : X = some (N, xs)) (hin : vp_in a N) (kk : G X M d Q mc ms nx L (.int (xs a.toNatClampNeg) :: st) h n k z) : G X M d Q mc ms pc L (.int a :: .ref 4000 :: st) h n k z := by
  intro p l e R s m args below meth c Qw D as A H locs ls rst C E Z0 Wd S hk hl hst
  obtain ⟨hd, hnx, hok⟩ := am_okM_dec C.2.2.2.2.2.2.2.2.2.2.2.2 hj
  obtain rfl : nx = pc + 1 := hnx
  obtain ⟨r0, e0, h0⟩ := am_Vi hst
  subst e0
  obtain ⟨r1, e1, g1, h1⟩ := am_Vr h0
  subst e1
  have hz := Z0.2.2
  subst hX
  exact va_sld C.1 C.2.1 hz.1 hz.2.1 hz.2.2 S hin hd (kk p l e R s m args below meth c Qw D as A H locs ls _ C E Z0 Wd S hk hl ⟨rfl, h1⟩)
theorem G.slen {N : Nat} {xs : Nat → Int32} (hj : am_at M pc = some (.arraylength, nx, x, y, v)) (hX : X = some (N, xs)) (kk : G X M d Q mc ms nx L (.int (nI N) :: st) h n k z) : G X M d Q mc ms pc L (.ref 4000 :: st) h n k z := by
  intro p l e R s m args below meth c Qw D as A H locs ls rst C E Z0 Wd S hk hl hst
  obtain ⟨hd, hnx, hok⟩ := am_okM_dec C.2.2.2.2.2.2.2.2.2.2.2.2 hj
  obtain rfl : nx = pc + 1 := hnx
  obtain ⟨r1, e1, g1, h1⟩ := am_Vr hst
  subst e1
  have hz := Z0.2.2
  subst hX
  exact va_slen C.1 C.2.1 hz.1 hz.2.1 hz.2.2 S hd (kk p l e R s m args below meth c Qw D as A H locs ls _ C E Z0 Wd S hk hl ⟨rfl, h1⟩)
theorem G.tabIn {df lo hi : Int} {os : Array Int} {a : Int32} {t0 t : Nat} {ts : List Nat} (hj : am_at M pc = some (.tableswitch df lo hi os, nx, t0 :: ts, y, v)) (h1 : ¬ a.toInt < lo) (h2 : ¬ hi < a.toInt) (ho : ts[(a.toInt - lo).toNat]? = some t) (kk : G X M d Q mc ms t L st h n k z) : G X M d Q mc ms pc L (.int a :: st) h n k z := by
  intro p l e R s m args below meth c Qw D as A H locs ls rst C E Z0 Wd S hk hl hst
  obtain ⟨hd, hnx, hok⟩ := am_okM_dec C.2.2.2.2.2.2.2.2.2.2.2.2 hj
  obtain ⟨r0, e0, h0⟩ := am_Vi hst
  subst e0
  have e1 := of_decide_eq_true (show decide (((pc : Int) + df) :: os.toList.map (fun o => (pc : Int) + o) = (t0 :: ts).map Int.ofNat) = true from hok)
  rw [List.map_cons] at e1
  injection e1 with e2 e3
  have e4 : (ts.map Int.ofNat)[(a.toInt - lo).toNat]? = some (t : Int) := by rw [List.getElem?_map, ho]; rfl
  rw [← e3, List.getElem?_map] at e4
  cases hof : os.toList[(a.toInt - lo).toNat]? with
  | none => rw [hof] at e4; cases e4
  | some off =>
    rw [hof] at e4
    exact lv_tableIn C.1 C.2.1 hd h1 h2 (by rw [← Array.getElem?_toList]; exact hof) (Option.some.inj e4) (kk p l e R s m args below meth c Qw D as A H locs ls _ C E Z0 Wd S hk hl h0)
theorem G.tabOut {df lo hi : Int} {os : Array Int} {a : Int32} {t0 : Nat} {ts : List Nat} (hj : am_at M pc = some (.tableswitch df lo hi os, nx, t0 :: ts, y, v)) (h1 : a.toInt < lo ∨ hi < a.toInt) (kk : G X M d Q mc ms t0 L st h n k z) : G X M d Q mc ms pc L (.int a :: st) h n k z := by
  intro p l e R s m args below meth c Qw D as A H locs ls rst C E Z0 Wd S hk hl hst
  obtain ⟨hd, hnx, hok⟩ := am_okM_dec C.2.2.2.2.2.2.2.2.2.2.2.2 hj
  obtain ⟨r0, e0, h0⟩ := am_Vi hst
  subst e0
  have e1 := of_decide_eq_true (show decide (((pc : Int) + df) :: os.toList.map (fun o => (pc : Int) + o) = (t0 :: ts).map Int.ofNat) = true from hok)
  rw [List.map_cons] at e1
  injection e1 with e2 e3
  exact lv_tableOut C.1 C.2.1 hd h1 e2 (kk p l e R s m args below meth c Qw D as A H locs ls _ C E Z0 Wd S hk hl h0)
theorem G.lkp {df off : Int} {ps : Array (Int × Int)} {a : Int32} {t : Nat} (hj : am_at M pc = some (.lookupswitch df ps, nx, x, y, v)) (ho : Op.lookupswitch.offset ps.toList df a.toInt = off) (ht : (pc : Int) + off = (t : Int)) (kk : G X M d Q mc ms t L st h n k z) : G X M d Q mc ms pc L (.int a :: st) h n k z := by
  intro p l e R s m args below meth c Qw D as A H locs ls rst C E Z0 Wd S hk hl hst
  obtain ⟨hd, hnx, hok⟩ := am_okM_dec C.2.2.2.2.2.2.2.2.2.2.2.2 hj
  obtain ⟨r0, e0, h0⟩ := am_Vi hst
  subst e0
  have e1 : (decide (((pc : Int) + df) :: ps.toList.map (fun o => (pc : Int) + o.2) = x.map Int.ofNat) && (ps.toList.zip (ps.toList.drop 1)).all (fun (a, next) => a.1 < next.1)) = true := hok
  rw [Bool.and_eq_true] at e1
  exact lv_lookup C.1 C.2.1 hd e1.2 ho ht (kk p l e R s m args below meth c Qw D as A H locs ls _ C E Z0 Wd S hk hl h0)
/-- a String's bytes, its coder; its bytes' length, one of them -/
theorem G.strV {a i : Nat} (hj : am_at M pc = some (.getfield a, nx, x, y, v)) (hi : i < 12) (hlk : Cond.fieldLink M.1.cls a "java/lang/String" "value" "[B" ∈ lw_T) (kk : G X M d Q mc ms nx L (.ref (2000 + i) :: st) h n k z) : G X M d Q mc ms pc L (.ref (1000 + i) :: st) h n k z := by
  intro p l e R s m args below meth c Qw D as A H locs ls rst C E Z0 Wd S hk hl hst
  obtain ⟨hd, hnx, hok⟩ := am_okM_dec C.2.2.2.2.2.2.2.2.2.2.2.2 hj
  obtain rfl : nx = pc + 3 := hnx
  obtain ⟨r0, e0, g0, h0⟩ := am_Vr hst
  subst e0
  have hE := (Z0.2.1.2.2.2.2.1.1 i hi).2.2.1
  exact vk_getf C.1 C.2.1 hE S C.2.2.2.2.2.2.1 (C.2.2.2.2.2.2.2.1 _ hlk) (fun _ hx => hx) hd (kk p l e R s m args below meth c Qw D as A H locs ls _ C E Z0 Wd S hk hl ⟨⟨Or.inr (by omega), rfl⟩, h0⟩)
theorem G.strC {a i : Nat} (hj : am_at M pc = some (.getfield a, nx, x, y, v)) (hi : i < 12) (hlk : Cond.fieldLink M.1.cls a "java/lang/String" "coder" "B" ∈ lw_T) (kk : G X M d Q mc ms nx L (.int 0 :: st) h n k z) : G X M d Q mc ms pc L (.ref (1000 + i) :: st) h n k z := by
  intro p l e R s m args below meth c Qw D as A H locs ls rst C E Z0 Wd S hk hl hst
  obtain ⟨hd, hnx, hok⟩ := am_okM_dec C.2.2.2.2.2.2.2.2.2.2.2.2 hj
  obtain rfl : nx = pc + 3 := hnx
  obtain ⟨r0, e0, g0, h0⟩ := am_Vr hst
  subst e0
  have hE := (Z0.2.1.2.2.2.2.1.1 i hi).2.1
  exact vk_getf C.1 C.2.1 hE S C.2.2.2.2.2.2.1 (C.2.2.2.2.2.2.2.1 _ hlk) (fun _ hx => hx) hd (kk p l e R s m args below meth c Qw D as A H locs ls _ C E Z0 Wd S hk hl ⟨rfl, h0⟩)
theorem G.strL {i : Nat} (hj : am_at M pc = some (.arraylength, nx, x, y, v)) (hi : i < 12) (kk : G X M d Q mc ms nx L (.int (nI (am_lens.getD i 0)) :: st) h n k z) : G X M d Q mc ms pc L (.ref (2000 + i) :: st) h n k z := by
  intro p l e R s m args below meth c Qw D as A H locs ls rst C E Z0 Wd S hk hl hst
  obtain ⟨hd, hnx, hok⟩ := am_okM_dec C.2.2.2.2.2.2.2.2.2.2.2.2 hj
  obtain rfl : nx = pc + 1 := hnx
  obtain ⟨r0, e0, g0, h0⟩ := am_Vr hst
  subst e0
  have hE := (Z0.2.1.2.2.2.2.1.1 i hi).2.2.2
  exact va_tlen C.1 C.2.1 hE S rfl hd (kk p l e R s m args below meth c Qw D as A H locs ls _ C E Z0 Wd S hk hl ⟨rfl, h0⟩)
theorem G.strB {i : Nat} {a : Int32} (hj : am_at M pc = some (.baload, nx, x, y, v)) (hi : i < 12) (hin : vp_in a (am_lens.getD i 0)) (kk : G X M d Q mc ms nx L (.int ((am_byt.getD i []).getD a.toNatClampNeg 0) :: st) h n k z) : G X M d Q mc ms pc L (.int a :: .ref (2000 + i) :: st) h n k z := by
  intro p l e R s m args below meth c Qw D as A H locs ls rst C E Z0 Wd S hk hl hst
  obtain ⟨hd, hnx, hok⟩ := am_okM_dec C.2.2.2.2.2.2.2.2.2.2.2.2 hj
  obtain rfl : nx = pc + 1 := hnx
  obtain ⟨r1, e1, h1⟩ := am_Vi hst
  subst e1
  obtain ⟨r0, e0, g0, h0⟩ := am_Vr h1
  subst e0
  have hE := (Z0.2.1.2.2.2.2.1.1 i hi).2.2.2
  exact va_tb C.1 C.2.1 hE S hin rfl hd (kk p l e R s m args below meth c Qw D as A H locs ls _ C E Z0 Wd S hk hl ⟨rfl, h0⟩)
theorem G.cmpS {a : Nat} (hj : am_at M pc = some (.getstatic a, nx, x, y, v)) (hlk : Cond.fieldLink M.1.cls a "java/lang/String" "COMPACT_STRINGS" "Z" ∈ lw_T) (kk : G X M d Q mc ms nx L (.int 1 :: st) h n k z) : G X M d Q mc ms pc L st h n k z := by
  intro p l e R s m args below meth c Qw D as A H locs ls rst C E Z0 Wd S hk hl hst
  obtain ⟨hd, hnx, hok⟩ := am_okM_dec C.2.2.2.2.2.2.2.2.2.2.2.2 hj
  obtain rfl : nx = pc + 3 := hnx
  exact va_gets C.1 C.2.1 Z0.2.1.2.2.1 S C.2.2.2.2.2.2.1 (C.2.2.2.2.2.2.2.1 _ hlk) (fun _ hx => hx) hd (kk p l e R s m args below meth c Qw D as A H locs ls _ C E Z0 Wd S hk hl ⟨rfl, hst⟩)
theorem G.fmtS {a : Nat} (hj : am_at M pc = some (.getstatic a, nx, x, y, v)) (hlk : Cond.fieldLink M.1.cls a "jdk/internal/util/Preconditions" "SIOOBE_FORMATTER" "Ljava/util/function/BiFunction;" ∈ lw_T) (kk : G X M d Q mc ms nx L (.ref 3001 :: st) h n k z) : G X M d Q mc ms pc L st h n k z := by
  intro p l e R s m args below meth c Qw D as A H locs ls rst C E Z0 Wd S hk hl hst
  obtain ⟨hd, hnx, hok⟩ := am_okM_dec C.2.2.2.2.2.2.2.2.2.2.2.2 hj
  obtain rfl : nx = pc + 3 := hnx
  exact va_gets C.1 C.2.1 Z0.2.1.2.2.2.1 S C.2.2.2.2.2.2.1 (C.2.2.2.2.2.2.2.1 _ hlk) (fun _ hx => hx) hd (kk p l e R s m args below meth c Qw D as A H locs ls _ C E Z0 Wd S hk hl ⟨⟨Or.inr (by omega), rfl⟩, hst⟩)
theorem G.wayS {a : Nat} {host : String} (hj : am_at M pc = some (.getstatic a, nx, x, y, v)) (hlk : Cond.fieldLinkNest M.1.cls a RX11 "WAYS" "[I" host ∈ lw_tbl) (kk : G X M d Q mc ms nx L (.ref 3000 :: st) h n k z) : G X M d Q mc ms pc L st h n k z := by
  intro p l e R s m args below meth c Qw D as A H locs ls rst C E Z0 Wd S hk hl hst
  obtain ⟨hd, hnx, hok⟩ := am_okM_dec C.2.2.2.2.2.2.2.2.2.2.2.2 hj
  obtain rfl : nx = pc + 3 := hnx
  exact va_getsN C.1 C.2.1 Z0.2.1.1 S C.2.2.2.2.2.2.1 (va_Nw.use rfl (Z0.2.1.2.2.2.2.2.2 _ hlk rfl)) (fun _ hx => hx) hd (kk p l e R s m args below meth c Qw D as A H locs ls _ C E Z0 Wd S hk hl ⟨⟨Or.inr (by omega), rfl⟩, hst⟩)
theorem G.wayL {a : Int32} (hj : am_at M pc = some (.iaload, nx, x, y, v)) (hin : vp_in a 17) (kk : G X M d Q mc ms nx L (.int (am_ways.getD a.toNatClampNeg 0) :: st) h n k z) : G X M d Q mc ms pc L (.int a :: .ref 3000 :: st) h n k z := by
  intro p l e R s m args below meth c Qw D as A H locs ls rst C E Z0 Wd S hk hl hst
  obtain ⟨hd, hnx, hok⟩ := am_okM_dec C.2.2.2.2.2.2.2.2.2.2.2.2 hj
  obtain rfl : nx = pc + 1 := hnx
  obtain ⟨r1, e1, h1⟩ := am_Vi hst
  subst e1
  obtain ⟨r0, e0, g0, h0⟩ := am_Vr h1
  subst e0
  exact va_ti C.1 C.2.1 Z0.2.1.2.1 S hin rfl hd (kk p l e R s m args below meth c Qw D as A H locs ls _ C E Z0 Wd S hk hl ⟨rfl, h0⟩)
theorem G.wayN (hj : am_at M pc = some (.arraylength, nx, x, y, v)) (kk : G X M d Q mc ms nx L (.int 17 :: st) h n k z) : G X M d Q mc ms pc L (.ref 3000 :: st) h n k z := by
  intro p l e R s m args below meth c Qw D as A H locs ls rst C E Z0 Wd S hk hl hst
  obtain ⟨hd, hnx, hok⟩ := am_okM_dec C.2.2.2.2.2.2.2.2.2.2.2.2 hj
  obtain rfl : nx = pc + 1 := hnx
  obtain ⟨r0, e0, g0, h0⟩ := am_Vr hst
  subst e0
  exact va_tlen C.1 C.2.1 Z0.2.1.2.1 S rfl hd (kk p l e R s m args below meth c Qw D as A H locs ls _ C E Z0 Wd S hk hl ⟨rfl, h0⟩)
theorem G.new {a ci i1 i2 i3 : Nat} {qc : vw_C} {fs : List Value} (hj : am_at M pc = some (.new a, nx, [ci, i1, i2, i3], y, v)) (hq : vwCl[ci]? = some qc) (hfs : ∀ j, j < qc.2.2 → defaultValue (am_ty ci j) = vp_V fs j) (hnr : am_noR fs = true) (hk1 : k + 1 ≤ mc) (hz1 : z + qc.2.2 ≤ ms) (hn1 : n < 1000)
    (kk : G X M d Q mc ms nx L (.ref n :: st) (am_up h n (.inr (ci, fs))) (n + 1) (k + 1) (z + qc.2.2)) : G X M d Q mc ms pc L st h n k z := by
  intro p l e R s m args below meth c Qw D as A H locs ls rst C E Z0 Wd S hk hl hst
  obtain ⟨hd, hnx, hok⟩ := am_okM_dec C.2.2.2.2.2.2.2.2.2.2.2.2 hj
  obtain rfl : nx = pc + 3 := hnx
  obtain ⟨ws, tys, w1, w2, w3, w4, w5⟩ := id Wd
  have h1 : (match vwCl[ci]? with
    | some q => am_word i1 (.classLink M.1.cls a q.1) && (am_word i2 (.instantiable q.1 q.2.2) && am_word i3 (.initialized q.1))
    | none => false) = true := hok
  rw [hq] at h1
  simp only [Bool.and_eq_true] at h1
  have T := C.2.2.2.2.2.2.2.1
  refine va_new C.1 C.2.1 T (am_cl hq).1 (am_ty ci) (am_cl hq).2.1 C.2.2.2.2.2.2.1 (T _ (am_word_in h1.1)) (T _ (am_word_in h1.2.1)) (T _ (am_word_in h1.2.2)) w4 w3 w5 S Z0.1 hq hfs (Nat.le_trans hk1 C.2.2.2.2.2.2.2.2.2.2.1) (Nat.le_trans hz1 C.2.2.2.2.2.2.2.2.2.2.2.1) hd (fun q H1 p1 d1 s1 => ?_)
  have hE := am_as_E (as := as) (q := q) hn1
  have w4' : va_K D vwCl (tys ++ []) s := by rw [List.append_nil]; exact w4
  refine kk p l e R s m args below meth c Qw D (am_as as n q) A H1 locs ls _ C (E.to hE) ⟨Z0.1, Z0.2.1.ext hE, Z0.2.2.to hE⟩ (am_W.make (t2 := []) hn1 w1 w2 w4' ⟨fs, rfl, am_noR_Vs hnr⟩ p1 d1) s1 ⟨hk1, hz1, hn1⟩ (hl.mono hE) ⟨⟨Or.inl (by omega), by unfold am_as; rw [if_pos rfl]⟩, hst.mono hE⟩
theorem G.newa {t : ArrayType} {i kd N : Nat} {a : Int32} (hj : am_at M pc = some (.newarray t, nx, [i], y, v)) (hty : newarray.typeOf t = am_K0 kd) (hd0 : defaultValue (am_K0 kd) = .int 0) (hn : ¬ a < 0) (hN : a.toNatClampNeg = N) (hb : N * componentBytes (am_K0 kd) ≤ 536870912) (hk1 : k + 1 ≤ mc) (hz1 : z + N ≤ ms) (hn1 : n < 1000)
    (kk : G X M d Q mc ms nx L (.ref n :: st) (am_up h n (.inl (kd, N, fun _ => 0))) (n + 1) (k + 1) (z + N)) : G X M d Q mc ms pc L (.int a :: st) h n k z := by
  intro p l e R s m args below meth c Qw D as A H locs ls rst C E Z0 Wd S hk hl hst
  obtain ⟨hd, hnx, hok⟩ := am_okM_dec C.2.2.2.2.2.2.2.2.2.2.2.2 hj
  obtain rfl : nx = pc + 2 := hnx
  obtain ⟨r0, e0, h0⟩ := am_Vi hst
  subst e0
  obtain ⟨ws, tys, w1, w2, w3, w4, w5⟩ := id Wd
  have h1 : am_word i (.arrayClass (newarray.typeOf t)) = true := hok
  have T := C.2.2.2.2.2.2.2.1
  refine va_newa (a0 := (N, .inl (fun _ => 0))) C.1 C.2.1 (T _ (am_word_in h1)) hty w4 w3 w5 S Z0.1 (fun cA => by rw [hd0]; rfl) hn hN hb (Nat.le_trans hk1 C.2.2.2.2.2.2.2.2.2.2.1) (Nat.le_trans hz1 C.2.2.2.2.2.2.2.2.2.2.2.1) hd (fun q cA H1 k1 p1 d1 s1 => ?_)
  have hE := am_as_E (as := as) (q := q) hn1
  refine kk p l e R s m args below meth c Qw D (am_as as n q) A H1 locs ls _ C (E.to hE) ⟨Z0.1, Z0.2.1.ext hE, Z0.2.2.to hE⟩ (am_W.make hn1 w1 w2 k1 ⟨cA, tys.length, rfl, by rw [List.getElem?_append_right (Nat.le_refl _), Nat.sub_self]; rfl⟩ p1 d1) s1 ⟨hk1, hz1, hn1⟩ (hl.mono hE) ⟨⟨Or.inl (by omega), by unfold am_as; rw [if_pos rfl]⟩, h0.mono hE⟩
end GH
end
section
/-! CALLS -/
def am_ws (M : am_M) : List Cond := .code M.1 M.2.1 M.2.2.1 M.2.2.2.1 :: lw_T
def am_rm (d mc ms : Nat) : Room := { frames := d, cells := mc, slots := ms, locals := 40 * d }
def am_A (as : Nat → Nat) (n sz : Nat) : Nat → Prop := fun q => (∃ k, k < n ∧ q = as k) ∨ sz ≤ q
def am_B (D : va_G) (as : Nat → Nat) (n : Nat) (h : am_H) (sz : Nat) : State → Prop := fun U => U.heap.size = sz ∧ am_W D as n h (fun _ => True) U U.heap ∧ am_Z as (am_A as n sz) U U.heap
def am_Q (D : va_G) (as : Nat → Nat) (n : Nat) (A : Nat → Prop) (Q : Option Value → am_H → Nat → Prop) : Array Value → State → Outcome → State → Prop := fun _ st oc t =>
  (∃ (v rv : Option Value) (h' : am_H) (n' : Nat) (as' : Nat → Nat), oc = .returned rv ∧ am_Ro as' n' v rv ∧ Q v h' n' ∧ am_W D as' n' h' A t t.heap ∧ am_E as as' n n' ∧ n' ≤ 1000) ∧ va_F A st t
/-- a method called on args, where the cells are h (n of them): it returns, makes mc cells of ms places at most, and Q of its answer and of the cells -/
def Call (M : am_M) (d : Nat) (args : List Value) (h : am_H) (n mc ms : Nat) (Q : Option Value → am_H → Nat → Prop) : Prop :=
  n ≤ 1000 → ∀ (l : Launch) (D : va_G) (as : Nat → Nat) (aargs : List Value) (sz : Nat), am_Vs as n args aargs → Met l M.1 (am_ws M) (am_rm d mc ms) (va_Pc aargs (am_B D as n h sz)) (am_Q D as n (am_A as n sz) Q) mc ms (am_A as n sz)
def am_ent : List Value → List Value
  | [] => []
  | a :: l => if a.category = 2 then a :: .retAddr 0 :: am_ent l else a :: am_ent l
theorem am_ent_get {as : Nat → Nat} {n : Nat} : ∀ {args aargs : List Value} (o : Nat), am_Vs as n args aargs → ∀ (i : Nat) (v : Value), (am_ent args)[i]? = some v → v ≠ .retAddr 0 → ∃ rv, (o + i, rv) ∈ lv_args o aargs ∧ am_R as n v rv
  | [], [], _, _, i, v, hi, _ => by simp [am_ent] at hi
  | a :: l, b :: m, o, h, i, v, hi, hv => by
    have hc : b.category = a.category := h.1.cat
    unfold am_ent at hi
    unfold lv_args
    rw [hc]
    by_cases h2 : a.category = 2
    · rw [if_pos h2] at hi ⊢
      match i, hi with
      | 0, hi =>
        simp at hi
        subst hi
        exact ⟨b, List.mem_cons_self, h.1⟩
      | 1, hi =>
        simp at hi
        exact absurd hi.symm hv
      | i + 2, hi =>
        obtain ⟨rv, q1, q2⟩ := am_ent_get (o + 2) h.2 i v (by simpa using hi) hv
        exact ⟨rv, List.mem_cons_of_mem _ (by rw [show o + (i + 2) = o + 2 + i by omega]; exact q1), q2⟩
    · rw [if_neg h2] at hi ⊢
      match i, hi with
      | 0, hi =>
        simp at hi
        subst hi
        exact ⟨b, List.mem_cons_self, h.1⟩
      | i + 1, hi =>
        obtain ⟨rv, q1, q2⟩ := am_ent_get (o + 1) h.2 i v (by simpa using hi) hv
        exact ⟨rv, List.mem_cons_of_mem _ (by rw [show o + (i + 1) = o + 1 + i by omega]; exact q1), q2⟩
theorem am_sl_len {as : Nat → Nat} {n : Nat} : ∀ {args aargs : List Value}, am_Vs as n args aargs → (lg_sl aargs).length = (am_ent args).length
  | [], [], _ => rfl
  | a :: l, b :: m, h => by
    have hc : b.category = a.category := h.1.cat
    have ih := am_sl_len h.2
    unfold am_ent
    simp only [lg_sl, List.flatMap_cons, List.length_append] at ih ⊢
    by_cases h2 : a.category = 2
    · rw [if_pos h2]
      simp [h2, hc, ih]
      omega
    · rw [if_neg h2]
      simp [h2, hc, ih]
      omega
theorem am_Met {M : am_M} {d mc ms n : Nat} {h : am_H} {Q : Option Value → am_H → Nat → Prop} {args : List Value} (hok : am_okM M = true) (hy : plainName M.1.cls = true) (hle : (am_ent args).length ≤ M.2.2.1)
    (kk : G none M d Q mc ms 0 (am_ent args ++ List.replicate (M.2.2.1 - (am_ent args).length) (.retAddr 0)) [] h n 0 0) : Call M d args h n mc ms Q := by
  intro hn1 l D as aargs sz hv
  refine Met.ofW (cc := M.2.1) (maxL := M.2.2.1) (ret := M.2.2.2.1) hy rfl ?_
  intro p e s m args0 below meth c s₁ B hml hp
  obtain ⟨rfl, rfl, hW, hZ⟩ := hp
  have hts := atoms_spec (ws := am_ws M) B.pre
  have hown : s.vm.findClass M.1.cls = some m.cls := findClass_of_methodNamed B.named
  have hin : meth.name = M.1.name := (name_of_methodNamed B.named B.method).1
  have hl := lv_entry aargs (n := M.2.2.1) (by rw [am_sl_len hv]; exact hle)
  rw [lg_entry_eq]
  have hC : am_X M d mc ms p (headSpec (am_ws M) (am_rm d mc ms)).room s m aargs.toArray meth c := ⟨B.exec, B.bytes, hml, B.returns, B.notSynchronized, hin, hown, fun w hw => hts w (List.mem_cons_of_mem _ hw), Nat.le_refl _, Nat.le_refl _, Nat.le_refl _, Nat.le_refl _, hok⟩
  refine kk p l e _ s m _ below meth c _ D as (am_A as n s.heap.size) s.heap [] _ [] hC ?_ ⟨fun q hq => Or.inr hq, hZ, trivial⟩ (hW.into fun k hk => Or.inl ⟨k, hk, rfl⟩) va_S.rf ⟨Nat.zero_le _, Nat.zero_le _, hn1⟩ ?_ trivial
  · intro H locs as' n' h' v rv pc ls i hd hret hro hQ hW' hE hS
    have post : ∀ t : State, t.heap = H → s.WarmedH t.vm → am_Q D as n (am_A as n s.heap.size) Q aargs.toArray s (.returned rv) t := fun t ht hw => ⟨⟨v, rv, h', n', as', rfl, hro, hQ, by rw [ht]; exact hW'.moved hw.alike, hE.1, hE.2⟩, hS.F ht⟩
    have hlk : meth.locks = false := B.notSynchronized
    unfold am_ret at hret
    split at hret
    · obtain ⟨h1, rfl⟩ := hret
      exact W.vret B.exec B.bytes (B.returns.trans h1) post hS.2.2 hd hlk
    · obtain ⟨a, ty, rfl, h1, h2⟩ := hret
      exact W.zret B.exec B.bytes (B.returns.trans h1) h2 post hS.2.2 hd hlk
    · obtain ⟨a, rfl, h1⟩ := hret
      exact W.lret B.exec B.bytes (B.returns.trans h1) post hS.2.2 hd hlk
    · obtain ⟨a, ty, rfl, h1, h2⟩ := hret
      exact W.aret B.exec B.bytes (B.returns.trans h1) h2 (Or.inr ⟨a, rfl⟩) post hS.2.2 hd hlk
    · exact hret.elim
  · refine ⟨by rw [List.length_append, List.length_replicate]; omega, _, hl, fun i v hi hvv => ?_⟩
    by_cases hlt : i < (am_ent args).length
    · rw [List.getElem?_append_left hlt] at hi
      obtain ⟨rv, q1, q2⟩ := am_ent_get 0 hv i v hi hvv
      rw [Nat.zero_add] at q1
      exact ⟨rv, q1, q2⟩
    · rw [List.getElem?_append_right (by omega)] at hi
      exact absurd (List.eq_of_mem_replicate (List.mem_of_getElem? hi)) hvv
/-- what the tables must say of a method that is called: its code, its class, its kind (0 by its object, 1 static, 2 a constructor), how many arguments -/
def am_okC (M : am_M) (kd np : Nat) (x : List Nat) : Bool := am_4 x fun i0 i1 i2 i3 => am_word i0 (.code M.1 M.2.1 M.2.2.1 M.2.2.2.1) && (am_word i1 (.initialized M.1.cls) && (decide (M.1.cls ≠ "java/lang/invoke/MethodHandle") && (decide (M.1.cls ≠ "java/lang/invoke/VarHandle") && (decide ((parseMethodDescriptor M.1.desc).map (fun d => d.parameters.length) = some np) && (decide (M.2.2.1 ≤ 21) && (match kd with
  | 0 => am_word i2 (.instanceMethod M.1) && am_word i3 (.selects M.1.cls M.1 M.1)
  | 1 => am_word i2 (.static M.1)
  | _ => am_word i2 (.instanceMethod M.1) && (decide (M.1.name = "<init>") && decide (M.2.2.2.1 = none))))))))
def am_okC2 (M : am_M) (kd np : Nat) : Prop := Cond.code M.1 M.2.1 M.2.2.1 M.2.2.2.1 ∈ lw_T ∧ Cond.initialized M.1.cls ∈ lw_T ∧ (M.1.cls ≠ "java/lang/invoke/MethodHandle" ∧ M.1.cls ≠ "java/lang/invoke/VarHandle" ∧ (parseMethodDescriptor M.1.desc).map (fun d => d.parameters.length) = some np) ∧ M.2.2.1 ≤ 21 ∧ (match kd with
  | 0 => Cond.instanceMethod M.1 ∈ lw_T ∧ Cond.selects M.1.cls M.1 M.1 ∈ lw_T
  | 1 => Cond.static M.1 ∈ lw_T
  | _ => Cond.instanceMethod M.1 ∈ lw_T ∧ M.1.name = "<init>" ∧ M.2.2.2.1 = none)
theorem am_okC_spec {M : am_M} {kd np : Nat} {x : List Nat} (h : am_okC M kd np x = true) : am_okC2 M kd np := by
  unfold am_okC am_4 at h
  split at h
  · simp only [Bool.and_eq_true, decide_eq_true_eq] at h
    obtain ⟨h1, h2, h3, h4, h5, h6, h7⟩ := h
    refine ⟨am_word_in h1, am_word_in h2, ⟨h3, h4, h5⟩, h6, ?_⟩
    split at h7
    · rw [Bool.and_eq_true] at h7
      exact ⟨am_word_in h7.1, am_word_in h7.2⟩
    · exact am_word_in h7
    · rename_i k0 k1
      simp only [Bool.and_eq_true, decide_eq_true_eq] at h7
      match kd, k0, k1 with
      | 0, k0, _ => exact absurd rfl k0
      | 1, _, k1 => exact absurd rfl k1
      | k + 2, _, _ => exact ⟨am_word_in h7.1, h7.2.1, h7.2.2⟩
  · cases h
theorem am_linkN_spec {own : String} {idx i : Nat} {y : MethodName} (h : am_linkN own idx i y = true) : ∃ host, Cond.methodLinkNest own idx y host ∈ lw_tbl := by
  unfold am_linkN at h
  split at h
  · rename_i o ix y' host hi
    simp only [Bool.and_eq_true, decide_eq_true_eq] at h
    obtain ⟨rfl, rfl, rfl⟩ := h
    exact ⟨host, List.mem_of_getElem? hi⟩
  · cases h
theorem am_link_spec {own : String} {idx : Nat} {x : List Nat} {y : MethodName} (h : am_link own idx x y = true) : Cond.methodLink own idx y ∈ lw_T ∨ ∃ host, Cond.methodLinkNest own idx y host ∈ lw_tbl := by
  unfold am_link am_2 at h
  split at h
  · dsimp only at h
    split at h
    · exact Or.inl (am_word_in h)
    · exact Or.inr (am_linkN_spec h)
  · cases h
theorem am_good {M : am_M} (h : Cond.code M.1 M.2.1 M.2.2.1 M.2.2.2.1 ∈ lw_T) : GoodIn lw_T (am_ws M) := fun w hw => by
  rcases List.mem_cons.mp hw with rfl | hw
  · exact lw_T_good _ h
  · exact lw_T_good _ hw
theorem am_blind {D : va_G} {as : Nat → Nat} {n sz : Nat} {h : am_H} {aargs : List Value} : FrameBlind (va_Pc aargs (am_B D as n h sz)) := fun a U g mk q => by
  obtain ⟨q1, q2, q3, q4⟩ := q
  exact ⟨q1, q2, q3.moved (u := U) (U := U.calling g mk a) (Vm.Alike.refl U.vm), q4.same (s := U) (U := U.calling g mk a) rfl⟩
theorem am_pre {D : va_G} {as : Nat → Nat} {n : Nat} {h : am_H} {A : Nat → Prop} {s : State} {H : Heap} {locs : List Loc} (hA : ∀ q : Nat, s.heap.size ≤ q → A q) (hZ : am_Z as A s s.heap) (hW : am_W D as n h A s H) (hS : va_S A s.heap H locs) {U : State} (hU : U.heap = H) (hw : s.WarmedH U.vm) : am_B D as n h H.size U := by
  refine ⟨by rw [hU], by rw [hU]; exact (hW.moved hw.alike).weaken (fun _ _ => trivial), ?_⟩
  rw [hU]
  exact hZ.to (am_E.rf (n := n)) hw hS.2.1 (fun q hq => by
    rcases hq with ⟨k, hk, rfl⟩ | hq
    · exact hW.inA k hk
    · exact hA q (Nat.le_trans hS.1 hq))
section GC
variable {X : am_X0} {M : am_M} {d : Nat} {Q : Option Value → am_H → Nat → Prop} {mc ms pc nx : Nat} {L L' st : List Value} {h : am_H} {n k z : Nat} {x : List Nat} {y : MethodName} {v : Value}
theorem am_cont {p : Program} {l : Launch} {e : Env} {R : Room} {s : State} {m : MethodId} {args : Array Value} {below : List Frame} {meth : Method} {c : Code} {H : Heap} {locs : List Loc} {mc' ms' : Nat} {st0 rest : List Value} {D : va_G} {as : Nat → Nat} {A : Nat → Prop} {Q' : Option Value → am_H → Nat → Prop} {a : Array Value} {ls : Array Slot} {Qw : State → Prop}
    (hr : va_Run p l e R s m args below meth c H locs k z mc' ms' (F0 m pc ls st0) rest (am_Q D as n (am_A as n H.size) Q' a) (am_A as n H.size)) (hS : va_S A s.heap H locs) (hA : ∀ q, am_A as n H.size q → A q)
    (kk : ∀ (v rv : Option Value) (h' : am_H) (n' : Nat) (as' : Nat → Nat) (H1 : Heap) (locs1 : List Loc), Q' v h' n' → am_Ro as' n' v rv → n' ≤ 1000 → am_E as as' n n' → am_W D as' n' h' A s H1 → va_S A s.heap H1 locs1 → W p l e R s m args below meth c H1 locs1 (k + mc') (z + ms') Qw (F0 m (pc + 3) ls (rv.toList ++ rest))) :
    W p l e R s m args below meth c H locs k z Qw (F0 m pc ls st0) := by
  intro T hT X
  obtain ⟨rv, st₀, t, T', LL, h0, X', hL, e1, e2, ⟨⟨v, rv', h', n', as', hv, hro, hQ, hW, hE, hn⟩, hz, hk⟩, st⟩ := hr T hT X
  cases hv
  rw [h0] at hz hk
  have hal : t.vm.Alike s.vm := by rw [← e2]; exact X'.warmed.alike.symm
  obtain ⟨t2, a1, b1⟩ := kk v rv h' n' as' T'.heap (locs ++ LL) hQ hro hn hE (by rw [e1]; exact (hW.moved hal).weaken hA)
    ⟨Nat.le_trans hS.1 (by rw [e1]; exact hz), fun q h1 h2 => by rw [e1, hk q (Nat.lt_of_lt_of_le h1 hS.1) (fun z => h2 (hA q z))]; exact hS.2.1 q h1 h2, fun q hq => by
      rcases List.mem_append.mp hq with h | h
      · exact hS.2.2 q h
      · exact hA _ (hL q h)⟩ T' rfl X'
  exact ⟨t2, st t2 a1, b1⟩
theorem am_Ro.app {as : Nat → Nat} {v rv : Option Value} {l m : List Value} (h : am_Ro as n v rv) (hl : am_Vs as n l m) : am_Vs as n (v.toList ++ l) (rv.toList ++ m) := by
  cases v with
  | none => cases rv with
    | none => exact hl
    | some _ => exact h.elim
  | some a => cases rv with
    | none => exact h.elim
    | some b => exact ⟨h, hl⟩
theorem G.callV {a q ci d' mc' ms' np : Nat} {qc : vw_C} {fs args : List Value} {M' : am_M} {Q' : Option Value → am_H → Nat → Prop} (hj : am_at M pc = some (.invokevirtual a, nx, x, M'.1, v)) (hC : am_okC2 M' 0 np) (hnp : args.length = np) (hq : q < n) (hh : h q = .inr (ci, fs)) (hc : vwCl[ci]? = some qc) (hcn : M'.1.cls = qc.1) (hd : d' + 1 ≤ d) (hk0 : k + mc' ≤ mc) (hz0 : z + ms' ≤ ms) (hcat : (st.map fun v => v.category).sum ≤ 8)
    (hcall : Call M' d' (.ref q :: args) h n mc' ms' Q') (kk : ∀ (v : Option Value) (h' : am_H) (n' : Nat), Q' v h' n' → G X M d Q mc ms nx L (v.toList ++ st) h' n' (k + mc') (z + ms')) : G X M d Q mc ms pc L (args.reverse ++ (.ref q :: st)) h n k z := by
  intro p l e R s m args0 below meth c Qw D as A H locs ls rst C E Z0 Wd S hk hl hst
  obtain ⟨hdc, hnx, hok⟩ := am_okM_dec C.2.2.2.2.2.2.2.2.2.2.2.2 hj
  obtain rfl : nx = pc + 3 := hnx
  obtain ⟨m1, m2, rfl, s1, s2⟩ := am_Vs.split hst
  obtain ⟨r0, rfl, g0, h0⟩ := am_Vr s2
  obtain ⟨ws, tys, w1, w2, w3, w4, w5⟩ := id Wd
  obtain ⟨en, w6, w7⟩ := w2 q hq
  rw [hh] at w7
  obtain ⟨fs', rfl, w8⟩ := w7
  obtain ⟨c1, c2, c3, c4, c5⟩ := hC
  have T := C.2.2.2.2.2.2.2.1
  have hM := hcall hk.2.2 l D as (.ref (as q) :: m1.reverse) H.size ⟨⟨g0, rfl⟩, by have := s1.rev; rwa [List.reverse_reverse] at this⟩
  have hlen : m1.reverse.length = np := by rw [List.length_reverse, s1.len, List.length_reverse]; exact hnp
  have hrec := va_recv w4 w3 hc w6
  have hA : ∀ q, am_A as n H.size q → A q := fun q hq => by
    rcases hq with ⟨k, hk, rfl⟩ | hq
    · exact Wd.inA k hk
    · exact Z0.1 q (Nat.le_trans S.1 hq)
  have hp : PreV s H qc.1 (as q) (va_Pc (.ref (as q) :: m1.reverse) (am_B D as n h H.size)) m1.reverse := ⟨am_blind, hrec, fun U hU hW => ⟨rfl, am_pre Z0.1 Z0.2.1 Wd S hU hW⟩⟩
  have hR : (am_rm d' mc' ms').frames + 1 ≤ R.frames ∧ 8 + (M'.2.2.1 + 11) + (am_rm d' mc' ms').locals ≤ R.locals := ⟨by have := C.2.2.2.2.2.2.2.2.1; show d' + 1 ≤ R.frames; omega, by have := C.2.2.2.2.2.2.2.2.2.1; show 8 + (M'.2.2.1 + 11) + 40 * d' ≤ R.locals; omega⟩
  have hf : k + mc' ≤ R.cells ∧ z + ms' ≤ R.slots := ⟨Nat.le_trans hk0 C.2.2.2.2.2.2.2.2.2.2.1, Nat.le_trans hz0 C.2.2.2.2.2.2.2.2.2.2.2.1⟩
  have hst2 : m1 ++ Value.ref (as q) :: r0 = m1.reverse.reverse ++ Value.ref (as q) :: r0 := by rw [List.reverse_reverse]
  have hroom : 2 * (F0 m pc ls (m1 ++ Value.ref (as q) :: r0)).monitorRoom + (r0.map fun v => v.category).sum ≤ 8 := lv_room (by rw [h0.cat]; exact hcat)
  have fin : ∀ hr : va_Run p l e R s m args0 below meth c H locs k z mc' ms' (F0 m pc ls (m1 ++ Value.ref (as q) :: r0)) r0 (am_Q D as n (am_A as n H.size) Q' (Value.ref (as q) :: m1.reverse).toArray) (am_A as n H.size), W p l e R s m args0 below meth c H locs k z Qw (F0 m pc ls (m1 ++ Value.ref (as q) :: r0)) := fun hr =>
    am_cont hr S hA (fun v rv h' n' as' H1 locs1 hQ hro hn hE hW hS => kk v h' n' hQ p l e R s m args0 below meth c Qw D as' A H1 locs1 ls _ C (E.to hE) ⟨Z0.1, Z0.2.1.ext hE, Z0.2.2.to hE⟩ hW hS ⟨hk0, hz0, hn⟩ (hl.mono hE) (hro.app (h0.mono hE)))
  rcases am_link_spec (show am_link M.1.cls a x M'.1 = true from hok) with hlk | ⟨host, hlk⟩
  · exact fin (va_runV (Ts := lw_T) ⟨C.1, C.2.1, C.2.2.1, C.2.2.2.2.2.2.1, T⟩ hM ⟨callB_of np T (am_good c1) rfl rfl rfl (T _ c2) (T _ hlk) c3 hR, T _ c5.1, by rw [← hcn]; exact T _ c5.2⟩ hp rfl hlen hl.2.choose_spec.1.1 hst2 hroom hdc hf)
  · exact fin (va_runVN (Ts := lw_T) ⟨C.1, C.2.1, C.2.2.1, C.2.2.2.2.2.2.1, T⟩ hM ⟨va_cnB np T (am_good c1) rfl rfl rfl (Z0.2.1.2.2.2.2.2.2 _ hlk rfl) (T _ c2) c3 hR, T _ c5.1, by rw [← hcn]; exact T _ c5.2⟩ hp rfl hlen hl.2.choose_spec.1.1 hst2 hroom hdc hf)
theorem G.callS {a d' mc' ms' np : Nat} {args : List Value} {M' : am_M} {Q' : Option Value → am_H → Nat → Prop} (hj : am_at M pc = some (.invokestatic a, nx, x, M'.1, v)) (hC : am_okC2 M' 1 np) (hnp : args.length = np) (hd : d' + 1 ≤ d) (hk0 : k + mc' ≤ mc) (hz0 : z + ms' ≤ ms) (hcat : (st.map fun v => v.category).sum ≤ 8)
    (hcall : Call M' d' args h n mc' ms' Q') (kk : ∀ (v : Option Value) (h' : am_H) (n' : Nat), Q' v h' n' → G X M d Q mc ms nx L (v.toList ++ st) h' n' (k + mc') (z + ms')) : G X M d Q mc ms pc L (args.reverse ++ st) h n k z := by
  intro p l e R s m args0 below meth c Qw D as A H locs ls rst C E Z0 Wd S hk hl hst
  obtain ⟨hdc, hnx, hok⟩ := am_okM_dec C.2.2.2.2.2.2.2.2.2.2.2.2 hj
  obtain rfl : nx = pc + 3 := hnx
  obtain ⟨m1, r0, rfl, s1, h0⟩ := am_Vs.split hst
  obtain ⟨c1, c2, c3, c4, c5⟩ := hC
  have T := C.2.2.2.2.2.2.2.1
  have hM := hcall hk.2.2 l D as m1.reverse H.size (by have := s1.rev; rwa [List.reverse_reverse] at this)
  have hlen : m1.reverse.length = np := by rw [List.length_reverse, s1.len, List.length_reverse]; exact hnp
  have hA : ∀ q, am_A as n H.size q → A q := fun q hq => by
    rcases hq with ⟨k, hk, rfl⟩ | hq
    · exact Wd.inA k hk
    · exact Z0.1 q (Nat.le_trans S.1 hq)
  have hp : PreS s H (va_Pc m1.reverse (am_B D as n h H.size)) m1.reverse := ⟨am_blind, fun U hU hW => ⟨rfl, am_pre Z0.1 Z0.2.1 Wd S hU hW⟩⟩
  have hR : (am_rm d' mc' ms').frames + 1 ≤ R.frames ∧ 8 + (M'.2.2.1 + 11) + (am_rm d' mc' ms').locals ≤ R.locals := ⟨by have := C.2.2.2.2.2.2.2.2.1; show d' + 1 ≤ R.frames; omega, by have := C.2.2.2.2.2.2.2.2.2.1; show 8 + (M'.2.2.1 + 11) + 40 * d' ≤ R.locals; omega⟩
  have hf : k + mc' ≤ R.cells ∧ z + ms' ≤ R.slots := ⟨Nat.le_trans hk0 C.2.2.2.2.2.2.2.2.2.2.1, Nat.le_trans hz0 C.2.2.2.2.2.2.2.2.2.2.2.1⟩
  have hst2 : m1 ++ r0 = m1.reverse.reverse ++ r0 := by rw [List.reverse_reverse]
  have hroom : 2 * (F0 m pc ls (m1 ++ r0)).monitorRoom + (r0.map fun v => v.category).sum ≤ 8 := lv_room (by rw [h0.cat]; exact hcat)
  have fin : ∀ hr : va_Run p l e R s m args0 below meth c H locs k z mc' ms' (F0 m pc ls (m1 ++ r0)) r0 (am_Q D as n (am_A as n H.size) Q' m1.reverse.toArray) (am_A as n H.size), W p l e R s m args0 below meth c H locs k z Qw (F0 m pc ls (m1 ++ r0)) := fun hr =>
    am_cont hr S hA (fun v rv h' n' as' H1 locs1 hQ hro hn hE hW hS => kk v h' n' hQ p l e R s m args0 below meth c Qw D as' A H1 locs1 ls _ C (E.to hE) ⟨Z0.1, Z0.2.1.ext hE, Z0.2.2.to hE⟩ hW hS ⟨hk0, hz0, hn⟩ (hl.mono hE) (hro.app (h0.mono hE)))
  rcases am_link_spec (show am_link M.1.cls a x M'.1 = true from hok) with hlk | ⟨host, hlk⟩
  · exact fin (va_runS (Ts := lw_T) ⟨C.1, C.2.1, C.2.2.1, C.2.2.2.2.2.2.1, T⟩ hM ⟨callB_of np T (am_good c1) rfl rfl rfl (T _ c2) (T _ hlk) c3 hR, T _ c5⟩ hp rfl hlen hl.2.choose_spec.1.1 hst2 hroom hdc hf)
  · exact fin (va_runSN (Ts := lw_T) ⟨C.1, C.2.1, C.2.2.1, C.2.2.2.2.2.2.1, T⟩ hM ⟨va_cnB np T (am_good c1) rfl rfl rfl (Z0.2.1.2.2.2.2.2.2 _ hlk rfl) (T _ c2) c3 hR, T _ c5, trivial⟩ hp rfl hlen hl.2.choose_spec.1.1 hst2 hroom hdc hf)
theorem G.callI {a q d' mc' ms' np : Nat} {args : List Value} {M' : am_M} {Q' : Option Value → am_H → Nat → Prop} (hj : am_at M pc = some (.invokespecial a, nx, x, M'.1, v)) (hC : am_okC2 M' 2 np) (hnp : args.length = np) (hd : d' + 1 ≤ d) (hk0 : k + mc' ≤ mc) (hz0 : z + ms' ≤ ms) (hcat : (st.map fun v => v.category).sum ≤ 8)
    (hcall : Call M' d' (.ref q :: args) h n mc' ms' Q') (kk : ∀ (v : Option Value) (h' : am_H) (n' : Nat), Q' v h' n' → G X M d Q mc ms nx L (v.toList ++ st) h' n' (k + mc') (z + ms')) : G X M d Q mc ms pc L (args.reverse ++ (.ref q :: st)) h n k z := by
  intro p l e R s m args0 below meth c Qw D as A H locs ls rst C E Z0 Wd S hk hl hst
  obtain ⟨hdc, hnx, hok⟩ := am_okM_dec C.2.2.2.2.2.2.2.2.2.2.2.2 hj
  obtain rfl : nx = pc + 3 := hnx
  obtain ⟨m1, m2, rfl, s1, s2⟩ := am_Vs.split hst
  obtain ⟨r0, rfl, g0, h0⟩ := am_Vr s2
  obtain ⟨c1, c2, c3, c4, c5⟩ := hC
  have T := C.2.2.2.2.2.2.2.1
  obtain ⟨y0, B0, nL0, ret0, len0, tb0⟩ := M'
  obtain ⟨c6, c7, rfl⟩ := c5
  have hM := hcall hk.2.2 l D as (.ref (as q) :: m1.reverse) H.size ⟨⟨g0, rfl⟩, by have := s1.rev; rwa [List.reverse_reverse] at this⟩
  have hlen : m1.reverse.length = np := by rw [List.length_reverse, s1.len, List.length_reverse]; exact hnp
  have hA : ∀ q, am_A as n H.size q → A q := fun q hq => by
    rcases hq with ⟨k, hk, rfl⟩ | hq
    · exact Wd.inA k hk
    · exact Z0.1 q (Nat.le_trans S.1 hq)
  have hp : PreS s H (va_Pc (.ref (as q) :: m1.reverse) (am_B D as n h H.size)) (.ref (as q) :: m1.reverse) := ⟨am_blind, fun U hU hW => ⟨rfl, am_pre Z0.1 Z0.2.1 Wd S hU hW⟩⟩
  have hR : (am_rm d' mc' ms').frames + 1 ≤ R.frames ∧ 8 + (nL0 + 11) + (am_rm d' mc' ms').locals ≤ R.locals := ⟨by have := C.2.2.2.2.2.2.2.2.1; show d' + 1 ≤ R.frames; omega, by have := C.2.2.2.2.2.2.2.2.2.1; have c4' : nL0 ≤ 21 := c4; show 8 + (nL0 + 11) + 40 * d' ≤ R.locals; omega⟩
  have hf : k + mc' ≤ R.cells ∧ z + ms' ≤ R.slots := ⟨Nat.le_trans hk0 C.2.2.2.2.2.2.2.2.2.2.1, Nat.le_trans hz0 C.2.2.2.2.2.2.2.2.2.2.2.1⟩
  have hst2 : m1 ++ Value.ref (as q) :: r0 = m1.reverse.reverse ++ Value.ref (as q) :: r0 := by rw [List.reverse_reverse]
  have hroom : 2 * (F0 m pc ls (m1 ++ Value.ref (as q) :: r0)).monitorRoom + (r0.map fun v => v.category).sum ≤ 8 := lv_room (by rw [h0.cat]; exact hcat)
  have fin : ∀ hr : va_Run p l e R s m args0 below meth c H locs k z mc' ms' (F0 m pc ls (m1 ++ Value.ref (as q) :: r0)) r0 (am_Q D as n (am_A as n H.size) Q' (Value.ref (as q) :: m1.reverse).toArray) (am_A as n H.size), W p l e R s m args0 below meth c H locs k z Qw (F0 m pc ls (m1 ++ Value.ref (as q) :: r0)) := fun hr =>
    am_cont hr S hA (fun v rv h' n' as' H1 locs1 hQ hro hn hE hW hS => kk v h' n' hQ p l e R s m args0 below meth c Qw D as' A H1 locs1 ls _ C (E.to hE) ⟨Z0.1, Z0.2.1.ext hE, Z0.2.2.to hE⟩ hW hS ⟨hk0, hz0, hn⟩ (hl.mono hE) (hro.app (h0.mono hE)))
  rcases am_link_spec (show am_link M.1.cls a x y0 = true from hok) with hlk | ⟨host, hlk⟩
  · exact fin (va_runI (Ts := lw_T) ⟨C.1, C.2.1, C.2.2.1, C.2.2.2.2.2.2.1, T⟩ hM ⟨callB_of np T (am_good c1) rfl rfl rfl (T _ c2) (T _ hlk) c3 hR, c7, T _ c6⟩ hp rfl hlen hl.2.choose_spec.1.1 hst2 hroom hdc hf)
  · exact fin (va_runIN (Ts := lw_T) ⟨C.1, C.2.1, C.2.2.1, C.2.2.2.2.2.2.1, T⟩ hM ⟨va_cnB np T (am_good c1) rfl rfl rfl (Z0.2.1.2.2.2.2.2.2 _ hlk rfl) (T _ c2) c3 hR, c7, T _ c6⟩ hp rfl hlen hl.2.choose_spec.1.1 hst2 hroom hdc hf)
theorem G.objI {a q : Nat} (hj : am_at M pc = some (.invokespecial a, nx, x, Lib.objectInit, v)) (hin : Cond.instanceMethod Lib.objectInit ∈ lw_T) (hcd : Cond.code Lib.objectInit ⟨#[0xb1]⟩ 1 none ∈ lw_T) (hlk : Cond.methodLink M.1.cls a Lib.objectInit ∈ lw_T) (hd : 1 ≤ d) (hcat : (st.map fun v => v.category).sum ≤ 8) (kk : G X M d Q mc ms nx L st h n k z) : G X M d Q mc ms pc L (.ref q :: st) h n k z := by
  intro p l e R s m args0 below meth c Qw D as A H locs ls rst C E Z0 Wd S hk hl hst
  obtain ⟨hdc, hnx, hok⟩ := am_okM_dec C.2.2.2.2.2.2.2.2.2.2.2.2 hj
  obtain rfl : nx = pc + 3 := hnx
  obtain ⟨r0, rfl, g0, h0⟩ := am_Vr hst
  have T := C.2.2.2.2.2.2.2.1
  have h1 : 2 * (F0 m pc ls (Value.ref (as q) :: r0)).monitorRoom + (r0.map fun v => v.category).sum ≤ 8 := lv_room (by rw [h0.cat]; exact hcat)
  refine W.objInit C.1 C.2.1 C.2.2.2.2.2.2.1 (T _ hlk) (T _ hin) (T _ hcd) rfl (hl.2.choose_spec.1.1.trans C.2.2.1.symm) rfl hdc (Nat.le_trans hd C.2.2.2.2.2.2.2.2.1) ?_ (kk p l e R s m args0 below meth c Qw D as A H locs ls _ C E Z0 Wd S hk hl h0)
  have := C.2.2.2.2.2.2.2.2.2.1
  omega
end GC
end
