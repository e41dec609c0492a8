-- ===== PART A: goes FIRST, ahead of the names: the tables' words, and 'selects' of the private methods out of them =====
/-- a private method of a class that the tables say can be made, by its rows of tables_1 -/
def lw_okq (q : MethodName × Nat) : Prop := (q.1.cls ≠ "java/lang/invoke/MethodHandle" ∧ q.1.cls ≠ "java/lang/invoke/VarHandle") ∧ Cond.instantiable q.1.cls q.2 ∈ tables_1 ∧ Cond.privateMethod q.1 ∈ tables_1 ∧ Cond.instanceMethod q.1 ∈ tables_1
theorem lw_p0 : lw_okq (⟨"WidowRow$Island", "findFitting", "()V"⟩, 13) := ⟨⟨by decide +kernel, by decide +kernel⟩, List.mem_of_getElem? (i := 106) (by decide +kernel), List.mem_of_getElem? (i := 112) (by decide +kernel), List.mem_of_getElem? (i := 113) (by decide +kernel)⟩
theorem lw_p1 : lw_okq (⟨"WidowRow$Island", "areAngry", "(II)Z"⟩, 13) := ⟨⟨by decide +kernel, by decide +kernel⟩, List.mem_of_getElem? (i := 106) (by decide +kernel), List.mem_of_getElem? (i := 116) (by decide +kernel), List.mem_of_getElem? (i := 117) (by decide +kernel)⟩
theorem lw_p2 : lw_okq (⟨"WidowRow$Island", "isForgiven", "(I)Z"⟩, 13) := ⟨⟨by decide +kernel, by decide +kernel⟩, List.mem_of_getElem? (i := 106) (by decide +kernel), List.mem_of_getElem? (i := 120) (by decide +kernel), List.mem_of_getElem? (i := 121) (by decide +kernel)⟩
theorem lw_p3 : lw_okq (⟨"WidowRow", "feedFour", "(I)V"⟩, 19) := ⟨⟨by decide +kernel, by decide +kernel⟩, List.mem_of_getElem? (i := 28) (by decide +kernel), List.mem_of_getElem? (i := 554) (by decide +kernel), List.mem_of_getElem? (i := 555) (by decide +kernel)⟩
theorem lw_p4 : lw_okq (⟨"WidowRow", "takeTape", "(I)V"⟩, 19) := ⟨⟨by decide +kernel, by decide +kernel⟩, List.mem_of_getElem? (i := 28) (by decide +kernel), List.mem_of_getElem? (i := 566) (by decide +kernel), List.mem_of_getElem? (i := 567) (by decide +kernel)⟩
theorem lw_p5 : lw_okq (⟨"WidowRow$Tokens", "readRun", "()V"⟩, 14) := ⟨⟨by decide +kernel, by decide +kernel⟩, List.mem_of_getElem? (i := 36) (by decide +kernel), List.mem_of_getElem? (i := 581) (by decide +kernel), List.mem_of_getElem? (i := 582) (by decide +kernel)⟩
theorem lw_p6 : lw_okq (⟨"WidowRow$Tokens", "readSign", "()V"⟩, 14) := ⟨⟨by decide +kernel, by decide +kernel⟩, List.mem_of_getElem? (i := 36) (by decide +kernel), List.mem_of_getElem? (i := 585) (by decide +kernel), List.mem_of_getElem? (i := 586) (by decide +kernel)⟩
theorem lw_p7 : lw_okq (⟨"WidowRow$Tokens", "keyHere", "()I"⟩, 14) := ⟨⟨by decide +kernel, by decide +kernel⟩, List.mem_of_getElem? (i := 36) (by decide +kernel), List.mem_of_getElem? (i := 674) (by decide +kernel), List.mem_of_getElem? (i := 675) (by decide +kernel)⟩
theorem lw_p8 : lw_okq (⟨"WidowRow$Island", "clear", "()V"⟩, 13) := ⟨⟨by decide +kernel, by decide +kernel⟩, List.mem_of_getElem? (i := 106) (by decide +kernel), List.mem_of_getElem? (i := 704) (by decide +kernel), List.mem_of_getElem? (i := 705) (by decide +kernel)⟩
theorem lw_p9 : lw_okq (⟨"WidowRow$Island", "readLine", "(LWidowRow$Tokens;)Z"⟩, 13) := ⟨⟨by decide +kernel, by decide +kernel⟩, List.mem_of_getElem? (i := 106) (by decide +kernel), List.mem_of_getElem? (i := 711) (by decide +kernel), List.mem_of_getElem? (i := 712) (by decide +kernel)⟩
theorem lw_p10 : lw_okq (⟨"WidowRow$Island", "readWidow", "(LWidowRow$Tokens;)Z"⟩, 13) := ⟨⟨by decide +kernel, by decide +kernel⟩, List.mem_of_getElem? (i := 106) (by decide +kernel), List.mem_of_getElem? (i := 715) (by decide +kernel), List.mem_of_getElem? (i := 716) (by decide +kernel)⟩
theorem lw_p11 : lw_okq (⟨"WidowRow$Island", "widowNamed", "(J)I"⟩, 13) := ⟨⟨by decide +kernel, by decide +kernel⟩, List.mem_of_getElem? (i := 106) (by decide +kernel), List.mem_of_getElem? (i := 728) (by decide +kernel), List.mem_of_getElem? (i := 729) (by decide +kernel)⟩
theorem lw_p12 : lw_okq (⟨"WidowRow$Island", "readStone", "(LWidowRow$Tokens;)Z"⟩, 13) := ⟨⟨by decide +kernel, by decide +kernel⟩, List.mem_of_getElem? (i := 106) (by decide +kernel), List.mem_of_getElem? (i := 732) (by decide +kernel), List.mem_of_getElem? (i := 733) (by decide +kernel)⟩
theorem lw_p13 : lw_okq (⟨"WidowRow$Island", "readForgive", "(LWidowRow$Tokens;)Z"⟩, 13) := ⟨⟨by decide +kernel, by decide +kernel⟩, List.mem_of_getElem? (i := 106) (by decide +kernel), List.mem_of_getElem? (i := 753) (by decide +kernel), List.mem_of_getElem? (i := 754) (by decide +kernel)⟩
theorem lw_p14 : lw_okq (⟨"WidowRow$Island", "readQuarrel", "(LWidowRow$Tokens;)Z"⟩, 13) := ⟨⟨by decide +kernel, by decide +kernel⟩, List.mem_of_getElem? (i := 106) (by decide +kernel), List.mem_of_getElem? (i := 758) (by decide +kernel), List.mem_of_getElem? (i := 759) (by decide +kernel)⟩
theorem lw_p15 : lw_okq (⟨"WidowRow$Island", "readPawn", "(LWidowRow$Tokens;)Z"⟩, 13) := ⟨⟨by decide +kernel, by decide +kernel⟩, List.mem_of_getElem? (i := 106) (by decide +kernel), List.mem_of_getElem? (i := 762) (by decide +kernel), List.mem_of_getElem? (i := 763) (by decide +kernel)⟩
def lw_privs_1 : List (MethodName × Nat) := [(⟨"WidowRow$Island", "findFitting", "()V"⟩, 13), (⟨"WidowRow$Island", "areAngry", "(II)Z"⟩, 13), (⟨"WidowRow$Island", "isForgiven", "(I)Z"⟩, 13), (⟨"WidowRow", "feedFour", "(I)V"⟩, 19), (⟨"WidowRow", "takeTape", "(I)V"⟩, 19), (⟨"WidowRow$Tokens", "readRun", "()V"⟩, 14), (⟨"WidowRow$Tokens", "readSign", "()V"⟩, 14), (⟨"WidowRow$Tokens", "keyHere", "()I"⟩, 14), (⟨"WidowRow$Island", "clear", "()V"⟩, 13), (⟨"WidowRow$Island", "readLine", "(LWidowRow$Tokens;)Z"⟩, 13), (⟨"WidowRow$Island", "readWidow", "(LWidowRow$Tokens;)Z"⟩, 13), (⟨"WidowRow$Island", "widowNamed", "(J)I"⟩, 13), (⟨"WidowRow$Island", "readStone", "(LWidowRow$Tokens;)Z"⟩, 13), (⟨"WidowRow$Island", "readForgive", "(LWidowRow$Tokens;)Z"⟩, 13), (⟨"WidowRow$Island", "readQuarrel", "(LWidowRow$Tokens;)Z"⟩, 13), (⟨"WidowRow$Island", "readPawn", "(LWidowRow$Tokens;)Z"⟩, 13)]
theorem lw_r1 : ∀ q ∈ lw_privs_1, lw_okq q := List.forall_mem_cons.mpr ⟨lw_p0, List.forall_mem_cons.mpr ⟨lw_p1, List.forall_mem_cons.mpr ⟨lw_p2, List.forall_mem_cons.mpr ⟨lw_p3, List.forall_mem_cons.mpr ⟨lw_p4, List.forall_mem_cons.mpr ⟨lw_p5, List.forall_mem_cons.mpr ⟨lw_p6, List.forall_mem_cons.mpr ⟨lw_p7, List.forall_mem_cons.mpr ⟨lw_p8, List.forall_mem_cons.mpr ⟨lw_p9, List.forall_mem_cons.mpr ⟨lw_p10, List.forall_mem_cons.mpr ⟨lw_p11, List.forall_mem_cons.mpr ⟨lw_p12, List.forall_mem_cons.mpr ⟨lw_p13, List.forall_mem_cons.mpr ⟨lw_p14, List.forall_mem_cons.mpr ⟨lw_p15, fun _ h => absurd h List.not_mem_nil⟩⟩⟩⟩⟩⟩⟩⟩⟩⟩⟩⟩⟩⟩⟩⟩
theorem lw_p16 : lw_okq (⟨"WidowRow", "isWidow", "(I)Z"⟩, 19) := ⟨⟨by decide +kernel, by decide +kernel⟩, List.mem_of_getElem? (i := 28) (by decide +kernel), List.mem_of_getElem? (i := 813) (by decide +kernel), List.mem_of_getElem? (i := 814) (by decide +kernel)⟩
theorem lw_p17 : lw_okq (⟨"WidowRow$Row", "lastAt", "(I)I"⟩, 8) := ⟨⟨by decide +kernel, by decide +kernel⟩, List.mem_of_getElem? (i := 194) (by decide +kernel), List.mem_of_getElem? (i := 859) (by decide +kernel), List.mem_of_getElem? (i := 860) (by decide +kernel)⟩
theorem lw_p18 : lw_okq (⟨"WidowRow", "isStone", "(I)Z"⟩, 19) := ⟨⟨by decide +kernel, by decide +kernel⟩, List.mem_of_getElem? (i := 28) (by decide +kernel), List.mem_of_getElem? (i := 871) (by decide +kernel), List.mem_of_getElem? (i := 872) (by decide +kernel)⟩
theorem lw_p19 : lw_okq (⟨"WidowRow", "keepPast", "()V"⟩, 19) := ⟨⟨by decide +kernel, by decide +kernel⟩, List.mem_of_getElem? (i := 28) (by decide +kernel), List.mem_of_getElem? (i := 893) (by decide +kernel), List.mem_of_getElem? (i := 894) (by decide +kernel)⟩
theorem lw_p20 : lw_okq (⟨"WidowRow$Row", "shiftRight", "()V"⟩, 8) := ⟨⟨by decide +kernel, by decide +kernel⟩, List.mem_of_getElem? (i := 194) (by decide +kernel), List.mem_of_getElem? (i := 906) (by decide +kernel), List.mem_of_getElem? (i := 907) (by decide +kernel)⟩
theorem lw_p21 : lw_okq (⟨"WidowRow$Chain", "spread", "(I)V"⟩, 7) := ⟨⟨by decide +kernel, by decide +kernel⟩, List.mem_of_getElem? (i := 319) (by decide +kernel), List.mem_of_getElem? (i := 976) (by decide +kernel), List.mem_of_getElem? (i := 977) (by decide +kernel)⟩
theorem lw_p22 : lw_okq (⟨"WidowRow$Chain", "spreadOver", "(II)V"⟩, 7) := ⟨⟨by decide +kernel, by decide +kernel⟩, List.mem_of_getElem? (i := 319) (by decide +kernel), List.mem_of_getElem? (i := 986) (by decide +kernel), List.mem_of_getElem? (i := 987) (by decide +kernel)⟩
theorem lw_p23 : lw_okq (⟨"WidowRow$Chain", "ahead", "(I)J"⟩, 7) := ⟨⟨by decide +kernel, by decide +kernel⟩, List.mem_of_getElem? (i := 319) (by decide +kernel), List.mem_of_getElem? (i := 990) (by decide +kernel), List.mem_of_getElem? (i := 991) (by decide +kernel)⟩
theorem lw_p24 : lw_okq (⟨"WidowRow$Chain", "markUseful", "()V"⟩, 7) := ⟨⟨by decide +kernel, by decide +kernel⟩, List.mem_of_getElem? (i := 319) (by decide +kernel), List.mem_of_getElem? (i := 1001) (by decide +kernel), List.mem_of_getElem? (i := 1002) (by decide +kernel)⟩
theorem lw_p25 : lw_okq (⟨"WidowRow$Chain", "usefulBy", "(II)J"⟩, 7) := ⟨⟨by decide +kernel, by decide +kernel⟩, List.mem_of_getElem? (i := 319) (by decide +kernel), List.mem_of_getElem? (i := 1005) (by decide +kernel), List.mem_of_getElem? (i := 1006) (by decide +kernel)⟩
theorem lw_p26 : lw_okq (⟨"WidowRow$Chain", "walk", "(I)V"⟩, 7) := ⟨⟨by decide +kernel, by decide +kernel⟩, List.mem_of_getElem? (i := 319) (by decide +kernel), List.mem_of_getElem? (i := 1009) (by decide +kernel), List.mem_of_getElem? (i := 1010) (by decide +kernel)⟩
theorem lw_p27 : lw_okq (⟨"WidowRow$Chain", "firstUseful", "(II)I"⟩, 7) := ⟨⟨by decide +kernel, by decide +kernel⟩, List.mem_of_getElem? (i := 319) (by decide +kernel), List.mem_of_getElem? (i := 1013) (by decide +kernel), List.mem_of_getElem? (i := 1014) (by decide +kernel)⟩
theorem lw_p28 : lw_okq (⟨"WidowRow$Round", "prepare", "()V"⟩, 13) := ⟨⟨by decide +kernel, by decide +kernel⟩, List.mem_of_getElem? (i := 349) (by decide +kernel), List.mem_of_getElem? (i := 1031) (by decide +kernel), List.mem_of_getElem? (i := 1032) (by decide +kernel)⟩
theorem lw_p29 : lw_okq (⟨"WidowRow$Round", "missing", "(I)I"⟩, 13) := ⟨⟨by decide +kernel, by decide +kernel⟩, List.mem_of_getElem? (i := 349) (by decide +kernel), List.mem_of_getElem? (i := 1038) (by decide +kernel), List.mem_of_getElem? (i := 1039) (by decide +kernel)⟩
theorem lw_p30 : lw_okq (⟨"WidowRow$Round", "search", "(IIII)Z"⟩, 13) := ⟨⟨by decide +kernel, by decide +kernel⟩, List.mem_of_getElem? (i := 349) (by decide +kernel), List.mem_of_getElem? (i := 1046) (by decide +kernel), List.mem_of_getElem? (i := 1047) (by decide +kernel)⟩
theorem lw_p31 : lw_okq (⟨"WidowRow$Round", "enter", "(I)Z"⟩, 13) := ⟨⟨by decide +kernel, by decide +kernel⟩, List.mem_of_getElem? (i := 349) (by decide +kernel), List.mem_of_getElem? (i := 1050) (by decide +kernel), List.mem_of_getElem? (i := 1051) (by decide +kernel)⟩
def lw_privs_2 : List (MethodName × Nat) := [(⟨"WidowRow", "isWidow", "(I)Z"⟩, 19), (⟨"WidowRow$Row", "lastAt", "(I)I"⟩, 8), (⟨"WidowRow", "isStone", "(I)Z"⟩, 19), (⟨"WidowRow", "keepPast", "()V"⟩, 19), (⟨"WidowRow$Row", "shiftRight", "()V"⟩, 8), (⟨"WidowRow$Chain", "spread", "(I)V"⟩, 7), (⟨"WidowRow$Chain", "spreadOver", "(II)V"⟩, 7), (⟨"WidowRow$Chain", "ahead", "(I)J"⟩, 7), (⟨"WidowRow$Chain", "markUseful", "()V"⟩, 7), (⟨"WidowRow$Chain", "usefulBy", "(II)J"⟩, 7), (⟨"WidowRow$Chain", "walk", "(I)V"⟩, 7), (⟨"WidowRow$Chain", "firstUseful", "(II)I"⟩, 7), (⟨"WidowRow$Round", "prepare", "()V"⟩, 13), (⟨"WidowRow$Round", "missing", "(I)I"⟩, 13), (⟨"WidowRow$Round", "search", "(IIII)Z"⟩, 13), (⟨"WidowRow$Round", "enter", "(I)Z"⟩, 13)]
theorem lw_r2 : ∀ q ∈ lw_privs_2, lw_okq q := List.forall_mem_cons.mpr ⟨lw_p16, List.forall_mem_cons.mpr ⟨lw_p17, List.forall_mem_cons.mpr ⟨lw_p18, List.forall_mem_cons.mpr ⟨lw_p19, List.forall_mem_cons.mpr ⟨lw_p20, List.forall_mem_cons.mpr ⟨lw_p21, List.forall_mem_cons.mpr ⟨lw_p22, List.forall_mem_cons.mpr ⟨lw_p23, List.forall_mem_cons.mpr ⟨lw_p24, List.forall_mem_cons.mpr ⟨lw_p25, List.forall_mem_cons.mpr ⟨lw_p26, List.forall_mem_cons.mpr ⟨lw_p27, List.forall_mem_cons.mpr ⟨lw_p28, List.forall_mem_cons.mpr ⟨lw_p29, List.forall_mem_cons.mpr ⟨lw_p30, List.forall_mem_cons.mpr ⟨lw_p31, fun _ h => absurd h List.not_mem_nil⟩⟩⟩⟩⟩⟩⟩⟩⟩⟩⟩⟩⟩⟩⟩⟩
theorem lw_p32 : lw_okq (⟨"WidowRow$Round", "searchBehind", "(IIIII)Z"⟩, 13) := ⟨⟨by decide +kernel, by decide +kernel⟩, List.mem_of_getElem? (i := 349) (by decide +kernel), List.mem_of_getElem? (i := 1054) (by decide +kernel), List.mem_of_getElem? (i := 1055) (by decide +kernel)⟩
theorem lw_p33 : lw_okq (⟨"WidowRow$Round", "laidOn", "(II)I"⟩, 13) := ⟨⟨by decide +kernel, by decide +kernel⟩, List.mem_of_getElem? (i := 349) (by decide +kernel), List.mem_of_getElem? (i := 1058) (by decide +kernel), List.mem_of_getElem? (i := 1059) (by decide +kernel)⟩
theorem lw_p34 : lw_okq (⟨"WidowRow$Match", "gather", "(II)Z"⟩, 8) := ⟨⟨by decide +kernel, by decide +kernel⟩, List.mem_of_getElem? (i := 397) (by decide +kernel), List.mem_of_getElem? (i := 1076) (by decide +kernel), List.mem_of_getElem? (i := 1077) (by decide +kernel)⟩
theorem lw_p35 : lw_okq (⟨"WidowRow$Match", "canLay", "(III)Z"⟩, 8) := ⟨⟨by decide +kernel, by decide +kernel⟩, List.mem_of_getElem? (i := 397) (by decide +kernel), List.mem_of_getElem? (i := 1083) (by decide +kernel), List.mem_of_getElem? (i := 1084) (by decide +kernel)⟩
theorem lw_p36 : lw_okq (⟨"WidowRow$Match", "outerOf", "(II)I"⟩, 8) := ⟨⟨by decide +kernel, by decide +kernel⟩, List.mem_of_getElem? (i := 397) (by decide +kernel), List.mem_of_getElem? (i := 1087) (by decide +kernel), List.mem_of_getElem? (i := 1088) (by decide +kernel)⟩
theorem lw_p37 : lw_okq (⟨"WidowRow$Match", "value", "(IIIII)I"⟩, 8) := ⟨⟨by decide +kernel, by decide +kernel⟩, List.mem_of_getElem? (i := 397) (by decide +kernel), List.mem_of_getElem? (i := 1092) (by decide +kernel), List.mem_of_getElem? (i := 1093) (by decide +kernel)⟩
theorem lw_p38 : lw_okq (⟨"WidowRow$Match", "reckon", "(IIIII)I"⟩, 8) := ⟨⟨by decide +kernel, by decide +kernel⟩, List.mem_of_getElem? (i := 397) (by decide +kernel), List.mem_of_getElem? (i := 1096) (by decide +kernel), List.mem_of_getElem? (i := 1097) (by decide +kernel)⟩
theorem lw_p39 : lw_okq (⟨"WidowRow$Match", "pipsOf", "(I)I"⟩, 8) := ⟨⟨by decide +kernel, by decide +kernel⟩, List.mem_of_getElem? (i := 397) (by decide +kernel), List.mem_of_getElem? (i := 1100) (by decide +kernel), List.mem_of_getElem? (i := 1101) (by decide +kernel)⟩
theorem lw_p40 : lw_okq (⟨"WidowRow$Match", "valueBehind", "(IIIIII)I"⟩, 8) := ⟨⟨by decide +kernel, by decide +kernel⟩, List.mem_of_getElem? (i := 397) (by decide +kernel), List.mem_of_getElem? (i := 1108) (by decide +kernel), List.mem_of_getElem? (i := 1109) (by decide +kernel)⟩
theorem lw_p41 : lw_okq (⟨"WidowRow$Memory", "readLine", "(LWidowRow$Tokens;LWidowRow$Island;)Z"⟩, 5) := ⟨⟨by decide +kernel, by decide +kernel⟩, List.mem_of_getElem? (i := 243) (by decide +kernel), List.mem_of_getElem? (i := 1165) (by decide +kernel), List.mem_of_getElem? (i := 1166) (by decide +kernel)⟩
theorem lw_p42 : lw_okq (⟨"WidowRow$Memory", "readDeal", "(LWidowRow$Tokens;LWidowRow$Island;)Z"⟩, 5) := ⟨⟨by decide +kernel, by decide +kernel⟩, List.mem_of_getElem? (i := 243) (by decide +kernel), List.mem_of_getElem? (i := 1169) (by decide +kernel), List.mem_of_getElem? (i := 1170) (by decide +kernel)⟩
theorem lw_p43 : lw_okq (⟨"WidowRow$Memory", "readSeen", "(LWidowRow$Tokens;LWidowRow$Island;)Z"⟩, 5) := ⟨⟨by decide +kernel, by decide +kernel⟩, List.mem_of_getElem? (i := 243) (by decide +kernel), List.mem_of_getElem? (i := 1177) (by decide +kernel), List.mem_of_getElem? (i := 1178) (by decide +kernel)⟩
theorem lw_p44 : lw_okq (⟨"WidowRow$Memory", "readPassed", "(LWidowRow$Tokens;LWidowRow$Island;)Z"⟩, 5) := ⟨⟨by decide +kernel, by decide +kernel⟩, List.mem_of_getElem? (i := 243) (by decide +kernel), List.mem_of_getElem? (i := 1187) (by decide +kernel), List.mem_of_getElem? (i := 1188) (by decide +kernel)⟩
theorem lw_p45 : lw_okq (⟨"WidowRow$Dealer", "gather", "()Z"⟩, 8) := ⟨⟨by decide +kernel, by decide +kernel⟩, List.mem_of_getElem? (i := 429) (by decide +kernel), List.mem_of_getElem? (i := 1205) (by decide +kernel), List.mem_of_getElem? (i := 1206) (by decide +kernel)⟩
theorem lw_p46 : lw_okq (⟨"WidowRow$Dealer", "widowsFor", "(I)I"⟩, 8) := ⟨⟨by decide +kernel, by decide +kernel⟩, List.mem_of_getElem? (i := 429) (by decide +kernel), List.mem_of_getElem? (i := 1210) (by decide +kernel), List.mem_of_getElem? (i := 1211) (by decide +kernel)⟩
theorem lw_p47 : lw_okq (⟨"WidowRow$Dealer", "dealtTo", "(I)I"⟩, 8) := ⟨⟨by decide +kernel, by decide +kernel⟩, List.mem_of_getElem? (i := 429) (by decide +kernel), List.mem_of_getElem? (i := 1214) (by decide +kernel), List.mem_of_getElem? (i := 1215) (by decide +kernel)⟩
def lw_privs_3 : List (MethodName × Nat) := [(⟨"WidowRow$Round", "searchBehind", "(IIIII)Z"⟩, 13), (⟨"WidowRow$Round", "laidOn", "(II)I"⟩, 13), (⟨"WidowRow$Match", "gather", "(II)Z"⟩, 8), (⟨"WidowRow$Match", "canLay", "(III)Z"⟩, 8), (⟨"WidowRow$Match", "outerOf", "(II)I"⟩, 8), (⟨"WidowRow$Match", "value", "(IIIII)I"⟩, 8), (⟨"WidowRow$Match", "reckon", "(IIIII)I"⟩, 8), (⟨"WidowRow$Match", "pipsOf", "(I)I"⟩, 8), (⟨"WidowRow$Match", "valueBehind", "(IIIIII)I"⟩, 8), (⟨"WidowRow$Memory", "readLine", "(LWidowRow$Tokens;LWidowRow$Island;)Z"⟩, 5), (⟨"WidowRow$Memory", "readDeal", "(LWidowRow$Tokens;LWidowRow$Island;)Z"⟩, 5), (⟨"WidowRow$Memory", "readSeen", "(LWidowRow$Tokens;LWidowRow$Island;)Z"⟩, 5), (⟨"WidowRow$Memory", "readPassed", "(LWidowRow$Tokens;LWidowRow$Island;)Z"⟩, 5), (⟨"WidowRow$Dealer", "gather", "()Z"⟩, 8), (⟨"WidowRow$Dealer", "widowsFor", "(I)I"⟩, 8), (⟨"WidowRow$Dealer", "dealtTo", "(I)I"⟩, 8)]
theorem lw_r3 : ∀ q ∈ lw_privs_3, lw_okq q := List.forall_mem_cons.mpr ⟨lw_p32, List.forall_mem_cons.mpr ⟨lw_p33, List.forall_mem_cons.mpr ⟨lw_p34, List.forall_mem_cons.mpr ⟨lw_p35, List.forall_mem_cons.mpr ⟨lw_p36, List.forall_mem_cons.mpr ⟨lw_p37, List.forall_mem_cons.mpr ⟨lw_p38, List.forall_mem_cons.mpr ⟨lw_p39, List.forall_mem_cons.mpr ⟨lw_p40, List.forall_mem_cons.mpr ⟨lw_p41, List.forall_mem_cons.mpr ⟨lw_p42, List.forall_mem_cons.mpr ⟨lw_p43, List.forall_mem_cons.mpr ⟨lw_p44, List.forall_mem_cons.mpr ⟨lw_p45, List.forall_mem_cons.mpr ⟨lw_p46, List.forall_mem_cons.mpr ⟨lw_p47, fun _ h => absurd h List.not_mem_nil⟩⟩⟩⟩⟩⟩⟩⟩⟩⟩⟩⟩⟩⟩⟩⟩
theorem lw_p48 : lw_okq (⟨"WidowRow$Dealer", "sums", "()I"⟩, 8) := ⟨⟨by decide +kernel, by decide +kernel⟩, List.mem_of_getElem? (i := 429) (by decide +kernel), List.mem_of_getElem? (i := 1218) (by decide +kernel), List.mem_of_getElem? (i := 1219) (by decide +kernel)⟩
theorem lw_p49 : lw_okq (⟨"WidowRow$Dealer", "countWays", "(I)J"⟩, 8) := ⟨⟨by decide +kernel, by decide +kernel⟩, List.mem_of_getElem? (i := 429) (by decide +kernel), List.mem_of_getElem? (i := 1222) (by decide +kernel), List.mem_of_getElem? (i := 1223) (by decide +kernel)⟩
theorem lw_p50 : lw_okq (⟨"WidowRow$Dealer", "giveOneMore", "()I"⟩, 8) := ⟨⟨by decide +kernel, by decide +kernel⟩, List.mem_of_getElem? (i := 429) (by decide +kernel), List.mem_of_getElem? (i := 1227) (by decide +kernel), List.mem_of_getElem? (i := 1228) (by decide +kernel)⟩
theorem lw_p51 : lw_okq (⟨"WidowRow$Dealer", "canDeal", "()Z"⟩, 8) := ⟨⟨by decide +kernel, by decide +kernel⟩, List.mem_of_getElem? (i := 429) (by decide +kernel), List.mem_of_getElem? (i := 1245) (by decide +kernel), List.mem_of_getElem? (i := 1246) (by decide +kernel)⟩
theorem lw_p52 : lw_okq (⟨"WidowRow$Days", "tryVisit", "()V"⟩, 7) := ⟨⟨by decide +kernel, by decide +kernel⟩, List.mem_of_getElem? (i := 460) (by decide +kernel), List.mem_of_getElem? (i := 1257) (by decide +kernel), List.mem_of_getElem? (i := 1258) (by decide +kernel)⟩
theorem lw_p53 : lw_okq (⟨"WidowRow$Days", "draw", "(I)I"⟩, 7) := ⟨⟨by decide +kernel, by decide +kernel⟩, List.mem_of_getElem? (i := 460) (by decide +kernel), List.mem_of_getElem? (i := 1261) (by decide +kernel), List.mem_of_getElem? (i := 1262) (by decide +kernel)⟩
theorem lw_p54 : lw_okq (⟨"WidowRow$Days", "tryCat", "()V"⟩, 7) := ⟨⟨by decide +kernel, by decide +kernel⟩, List.mem_of_getElem? (i := 460) (by decide +kernel), List.mem_of_getElem? (i := 1273) (by decide +kernel), List.mem_of_getElem? (i := 1274) (by decide +kernel)⟩
theorem lw_p55 : lw_okq (⟨"WidowRow$Days", "tryTide", "()V"⟩, 7) := ⟨⟨by decide +kernel, by decide +kernel⟩, List.mem_of_getElem? (i := 460) (by decide +kernel), List.mem_of_getElem? (i := 1278) (by decide +kernel), List.mem_of_getElem? (i := 1279) (by decide +kernel)⟩
theorem lw_p56 : lw_okq (⟨"WidowRow", "writePips", "(I)V"⟩, 19) := ⟨⟨by decide +kernel, by decide +kernel⟩, List.mem_of_getElem? (i := 28) (by decide +kernel), List.mem_of_getElem? (i := 1292) (by decide +kernel), List.mem_of_getElem? (i := 1293) (by decide +kernel)⟩
theorem lw_p57 : lw_okq (⟨"WidowRow", "writeByte", "(I)V"⟩, 19) := ⟨⟨by decide +kernel, by decide +kernel⟩, List.mem_of_getElem? (i := 28) (by decide +kernel), List.mem_of_getElem? (i := 1296) (by decide +kernel), List.mem_of_getElem? (i := 1297) (by decide +kernel)⟩
theorem lw_p58 : lw_okq (⟨"WidowRow$Sentence", "readEither", "(LWidowRow$Tokens;LWidowRow$Island;I)Z"⟩, 6) := ⟨⟨by decide +kernel, by decide +kernel⟩, List.mem_of_getElem? (i := 268) (by decide +kernel), List.mem_of_getElem? (i := 1317) (by decide +kernel), List.mem_of_getElem? (i := 1318) (by decide +kernel)⟩
theorem lw_p59 : lw_okq (⟨"WidowRow$Sentence", "readBoth", "(LWidowRow$Tokens;LWidowRow$Island;I)Z"⟩, 6) := ⟨⟨by decide +kernel, by decide +kernel⟩, List.mem_of_getElem? (i := 268) (by decide +kernel), List.mem_of_getElem? (i := 1321) (by decide +kernel), List.mem_of_getElem? (i := 1322) (by decide +kernel)⟩
theorem lw_p60 : lw_okq (⟨"WidowRow$Sentence", "readOne", "(LWidowRow$Tokens;LWidowRow$Island;I)Z"⟩, 6) := ⟨⟨by decide +kernel, by decide +kernel⟩, List.mem_of_getElem? (i := 268) (by decide +kernel), List.mem_of_getElem? (i := 1325) (by decide +kernel), List.mem_of_getElem? (i := 1326) (by decide +kernel)⟩
theorem lw_p61 : lw_okq (⟨"WidowRow$Sentence", "add", "(III)Z"⟩, 6) := ⟨⟨by decide +kernel, by decide +kernel⟩, List.mem_of_getElem? (i := 268) (by decide +kernel), List.mem_of_getElem? (i := 1333) (by decide +kernel), List.mem_of_getElem? (i := 1334) (by decide +kernel)⟩
theorem lw_p62 : lw_okq (⟨"WidowRow$Sentence", "readOf", "(LWidowRow$Tokens;LWidowRow$Island;)Z"⟩, 6) := ⟨⟨by decide +kernel, by decide +kernel⟩, List.mem_of_getElem? (i := 268) (by decide +kernel), List.mem_of_getElem? (i := 1337) (by decide +kernel), List.mem_of_getElem? (i := 1338) (by decide +kernel)⟩
theorem lw_p63 : lw_okq (⟨"WidowRow$Sentence", "readMeasure", "(LWidowRow$Tokens;I)Z"⟩, 6) := ⟨⟨by decide +kernel, by decide +kernel⟩, List.mem_of_getElem? (i := 268) (by decide +kernel), List.mem_of_getElem? (i := 1342) (by decide +kernel), List.mem_of_getElem? (i := 1343) (by decide +kernel)⟩
def lw_privs_4 : List (MethodName × Nat) := [(⟨"WidowRow$Dealer", "sums", "()I"⟩, 8), (⟨"WidowRow$Dealer", "countWays", "(I)J"⟩, 8), (⟨"WidowRow$Dealer", "giveOneMore", "()I"⟩, 8), (⟨"WidowRow$Dealer", "canDeal", "()Z"⟩, 8), (⟨"WidowRow$Days", "tryVisit", "()V"⟩, 7), (⟨"WidowRow$Days", "draw", "(I)I"⟩, 7), (⟨"WidowRow$Days", "tryCat", "()V"⟩, 7), (⟨"WidowRow$Days", "tryTide", "()V"⟩, 7), (⟨"WidowRow", "writePips", "(I)V"⟩, 19), (⟨"WidowRow", "writeByte", "(I)V"⟩, 19), (⟨"WidowRow$Sentence", "readEither", "(LWidowRow$Tokens;LWidowRow$Island;I)Z"⟩, 6), (⟨"WidowRow$Sentence", "readBoth", "(LWidowRow$Tokens;LWidowRow$Island;I)Z"⟩, 6), (⟨"WidowRow$Sentence", "readOne", "(LWidowRow$Tokens;LWidowRow$Island;I)Z"⟩, 6), (⟨"WidowRow$Sentence", "add", "(III)Z"⟩, 6), (⟨"WidowRow$Sentence", "readOf", "(LWidowRow$Tokens;LWidowRow$Island;)Z"⟩, 6), (⟨"WidowRow$Sentence", "readMeasure", "(LWidowRow$Tokens;I)Z"⟩, 6)]
theorem lw_r4 : ∀ q ∈ lw_privs_4, lw_okq q := List.forall_mem_cons.mpr ⟨lw_p48, List.forall_mem_cons.mpr ⟨lw_p49, List.forall_mem_cons.mpr ⟨lw_p50, List.forall_mem_cons.mpr ⟨lw_p51, List.forall_mem_cons.mpr ⟨lw_p52, List.forall_mem_cons.mpr ⟨lw_p53, List.forall_mem_cons.mpr ⟨lw_p54, List.forall_mem_cons.mpr ⟨lw_p55, List.forall_mem_cons.mpr ⟨lw_p56, List.forall_mem_cons.mpr ⟨lw_p57, List.forall_mem_cons.mpr ⟨lw_p58, List.forall_mem_cons.mpr ⟨lw_p59, List.forall_mem_cons.mpr ⟨lw_p60, List.forall_mem_cons.mpr ⟨lw_p61, List.forall_mem_cons.mpr ⟨lw_p62, List.forall_mem_cons.mpr ⟨lw_p63, fun _ h => absurd h List.not_mem_nil⟩⟩⟩⟩⟩⟩⟩⟩⟩⟩⟩⟩⟩⟩⟩⟩
theorem lw_p64 : lw_okq (⟨"WidowRow$Sentence", "trueOfPart", "(LWidowRow$Row;I)I"⟩, 6) := ⟨⟨by decide +kernel, by decide +kernel⟩, List.mem_of_getElem? (i := 268) (by decide +kernel), List.mem_of_getElem? (i := 1360) (by decide +kernel), List.mem_of_getElem? (i := 1361) (by decide +kernel)⟩
theorem lw_p65 : lw_okq (⟨"WidowRow$Sentence", "isTrue", "(LWidowRow$Row;II)Z"⟩, 6) := ⟨⟨by decide +kernel, by decide +kernel⟩, List.mem_of_getElem? (i := 268) (by decide +kernel), List.mem_of_getElem? (i := 1364) (by decide +kernel), List.mem_of_getElem? (i := 1365) (by decide +kernel)⟩
theorem lw_p66 : lw_okq (⟨"WidowRow$Sentence", "isAsTold", "(II)Z"⟩, 6) := ⟨⟨by decide +kernel, by decide +kernel⟩, List.mem_of_getElem? (i := 268) (by decide +kernel), List.mem_of_getElem? (i := 1369) (by decide +kernel), List.mem_of_getElem? (i := 1370) (by decide +kernel)⟩
theorem lw_p67 : lw_okq (⟨"java/lang/Throwable", "fillInStackTrace", "(I)Ljava/lang/Throwable;"⟩, 6) := ⟨⟨by decide +kernel, by decide +kernel⟩, List.mem_of_getElem? (i := 1445) (by decide +kernel), List.mem_of_getElem? (i := 1443) (by decide +kernel), List.mem_of_getElem? (i := 1444) (by decide +kernel)⟩
theorem lw_p68 : lw_okq (⟨"WidowRowModel", "come", "(I)V"⟩, 52) := ⟨⟨by decide +kernel, by decide +kernel⟩, List.mem_of_getElem? (i := 1476) (by decide +kernel), List.mem_of_getElem? (i := 1650) (by decide +kernel), List.mem_of_getElem? (i := 1651) (by decide +kernel)⟩
theorem lw_p69 : lw_okq (⟨"WidowRowModel", "begin", "(I)V"⟩, 52) := ⟨⟨by decide +kernel, by decide +kernel⟩, List.mem_of_getElem? (i := 1476) (by decide +kernel), List.mem_of_getElem? (i := 1662) (by decide +kernel), List.mem_of_getElem? (i := 1663) (by decide +kernel)⟩
theorem lw_p70 : lw_okq (⟨"WidowRowModel", "layAll", "()V"⟩, 52) := ⟨⟨by decide +kernel, by decide +kernel⟩, List.mem_of_getElem? (i := 1476) (by decide +kernel), List.mem_of_getElem? (i := 1666) (by decide +kernel), List.mem_of_getElem? (i := 1667) (by decide +kernel)⟩
theorem lw_p71 : lw_okq (⟨"WidowRowModel", "take", "()I"⟩, 52) := ⟨⟨by decide +kernel, by decide +kernel⟩, List.mem_of_getElem? (i := 1476) (by decide +kernel), List.mem_of_getElem? (i := 1670) (by decide +kernel), List.mem_of_getElem? (i := 1671) (by decide +kernel)⟩
theorem lw_p72 : lw_okq (⟨"WidowRowModel", "go", "()V"⟩, 52) := ⟨⟨by decide +kernel, by decide +kernel⟩, List.mem_of_getElem? (i := 1476) (by decide +kernel), List.mem_of_getElem? (i := 1674) (by decide +kernel), List.mem_of_getElem? (i := 1675) (by decide +kernel)⟩
theorem lw_p73 : lw_okq (⟨"WidowRowModel", "tapeAt", "(I)I"⟩, 52) := ⟨⟨by decide +kernel, by decide +kernel⟩, List.mem_of_getElem? (i := 1476) (by decide +kernel), List.mem_of_getElem? (i := 1684) (by decide +kernel), List.mem_of_getElem? (i := 1685) (by decide +kernel)⟩
theorem lw_p74 : lw_okq (⟨"WidowRowModel", "readLine", "()Z"⟩, 52) := ⟨⟨by decide +kernel, by decide +kernel⟩, List.mem_of_getElem? (i := 1476) (by decide +kernel), List.mem_of_getElem? (i := 1690) (by decide +kernel), List.mem_of_getElem? (i := 1691) (by decide +kernel)⟩
theorem lw_p75 : lw_okq (⟨"WidowRowModel", "isWord", "(I)Z"⟩, 52) := ⟨⟨by decide +kernel, by decide +kernel⟩, List.mem_of_getElem? (i := 1476) (by decide +kernel), List.mem_of_getElem? (i := 1694) (by decide +kernel), List.mem_of_getElem? (i := 1695) (by decide +kernel)⟩
theorem lw_p76 : lw_okq (⟨"WidowRowModel", "readWidow", "()Z"⟩, 52) := ⟨⟨by decide +kernel, by decide +kernel⟩, List.mem_of_getElem? (i := 1476) (by decide +kernel), List.mem_of_getElem? (i := 1707) (by decide +kernel), List.mem_of_getElem? (i := 1708) (by decide +kernel)⟩
theorem lw_p77 : lw_okq (⟨"WidowRowModel", "bad", "(I)Z"⟩, 52) := ⟨⟨by decide +kernel, by decide +kernel⟩, List.mem_of_getElem? (i := 1476) (by decide +kernel), List.mem_of_getElem? (i := 1711) (by decide +kernel), List.mem_of_getElem? (i := 1712) (by decide +kernel)⟩
theorem lw_p78 : lw_okq (⟨"WidowRowModel", "isName", "()Z"⟩, 52) := ⟨⟨by decide +kernel, by decide +kernel⟩, List.mem_of_getElem? (i := 1476) (by decide +kernel), List.mem_of_getElem? (i := 1715) (by decide +kernel), List.mem_of_getElem? (i := 1716) (by decide +kernel)⟩
theorem lw_p79 : lw_okq (⟨"WidowRowModel", "readStone", "()Z"⟩, 52) := ⟨⟨by decide +kernel, by decide +kernel⟩, List.mem_of_getElem? (i := 1476) (by decide +kernel), List.mem_of_getElem? (i := 1722) (by decide +kernel), List.mem_of_getElem? (i := 1723) (by decide +kernel)⟩
def lw_privs_5 : List (MethodName × Nat) := [(⟨"WidowRow$Sentence", "trueOfPart", "(LWidowRow$Row;I)I"⟩, 6), (⟨"WidowRow$Sentence", "isTrue", "(LWidowRow$Row;II)Z"⟩, 6), (⟨"WidowRow$Sentence", "isAsTold", "(II)Z"⟩, 6), (⟨"java/lang/Throwable", "fillInStackTrace", "(I)Ljava/lang/Throwable;"⟩, 6), (⟨"WidowRowModel", "come", "(I)V"⟩, 52), (⟨"WidowRowModel", "begin", "(I)V"⟩, 52), (⟨"WidowRowModel", "layAll", "()V"⟩, 52), (⟨"WidowRowModel", "take", "()I"⟩, 52), (⟨"WidowRowModel", "go", "()V"⟩, 52), (⟨"WidowRowModel", "tapeAt", "(I)I"⟩, 52), (⟨"WidowRowModel", "readLine", "()Z"⟩, 52), (⟨"WidowRowModel", "isWord", "(I)Z"⟩, 52), (⟨"WidowRowModel", "readWidow", "()Z"⟩, 52), (⟨"WidowRowModel", "bad", "(I)Z"⟩, 52), (⟨"WidowRowModel", "isName", "()Z"⟩, 52), (⟨"WidowRowModel", "readStone", "()Z"⟩, 52)]
theorem lw_r5 : ∀ q ∈ lw_privs_5, lw_okq q := List.forall_mem_cons.mpr ⟨lw_p64, List.forall_mem_cons.mpr ⟨lw_p65, List.forall_mem_cons.mpr ⟨lw_p66, List.forall_mem_cons.mpr ⟨lw_p67, List.forall_mem_cons.mpr ⟨lw_p68, List.forall_mem_cons.mpr ⟨lw_p69, List.forall_mem_cons.mpr ⟨lw_p70, List.forall_mem_cons.mpr ⟨lw_p71, List.forall_mem_cons.mpr ⟨lw_p72, List.forall_mem_cons.mpr ⟨lw_p73, List.forall_mem_cons.mpr ⟨lw_p74, List.forall_mem_cons.mpr ⟨lw_p75, List.forall_mem_cons.mpr ⟨lw_p76, List.forall_mem_cons.mpr ⟨lw_p77, List.forall_mem_cons.mpr ⟨lw_p78, List.forall_mem_cons.mpr ⟨lw_p79, fun _ h => absurd h List.not_mem_nil⟩⟩⟩⟩⟩⟩⟩⟩⟩⟩⟩⟩⟩⟩⟩⟩
theorem lw_p80 : lw_okq (⟨"WidowRowModel", "readNumber", "(II)Z"⟩, 52) := ⟨⟨by decide +kernel, by decide +kernel⟩, List.mem_of_getElem? (i := 1476) (by decide +kernel), List.mem_of_getElem? (i := 1726) (by decide +kernel), List.mem_of_getElem? (i := 1727) (by decide +kernel)⟩
theorem lw_p81 : lw_okq (⟨"WidowRowModel", "isNumber", "(II)Z"⟩, 52) := ⟨⟨by decide +kernel, by decide +kernel⟩, List.mem_of_getElem? (i := 1476) (by decide +kernel), List.mem_of_getElem? (i := 1730) (by decide +kernel), List.mem_of_getElem? (i := 1731) (by decide +kernel)⟩
theorem lw_p82 : lw_okq (⟨"WidowRowModel", "readForgive", "()Z"⟩, 52) := ⟨⟨by decide +kernel, by decide +kernel⟩, List.mem_of_getElem? (i := 1476) (by decide +kernel), List.mem_of_getElem? (i := 1740) (by decide +kernel), List.mem_of_getElem? (i := 1741) (by decide +kernel)⟩
theorem lw_p83 : lw_okq (⟨"WidowRowModel", "readQuarrel", "()Z"⟩, 52) := ⟨⟨by decide +kernel, by decide +kernel⟩, List.mem_of_getElem? (i := 1476) (by decide +kernel), List.mem_of_getElem? (i := 1747) (by decide +kernel), List.mem_of_getElem? (i := 1748) (by decide +kernel)⟩
theorem lw_p84 : lw_okq (⟨"WidowRowModel", "readPawn", "()Z"⟩, 52) := ⟨⟨by decide +kernel, by decide +kernel⟩, List.mem_of_getElem? (i := 1476) (by decide +kernel), List.mem_of_getElem? (i := 1751) (by decide +kernel), List.mem_of_getElem? (i := 1752) (by decide +kernel)⟩
theorem lw_p85 : lw_okq (⟨"WidowRowModel", "readEnd", "()Z"⟩, 52) := ⟨⟨by decide +kernel, by decide +kernel⟩, List.mem_of_getElem? (i := 1476) (by decide +kernel), List.mem_of_getElem? (i := 1755) (by decide +kernel), List.mem_of_getElem? (i := 1756) (by decide +kernel)⟩
theorem lw_p86 : lw_okq (⟨"WidowRowModel", "isSign", "(I)Z"⟩, 52) := ⟨⟨by decide +kernel, by decide +kernel⟩, List.mem_of_getElem? (i := 1476) (by decide +kernel), List.mem_of_getElem? (i := 1759) (by decide +kernel), List.mem_of_getElem? (i := 1760) (by decide +kernel)⟩
theorem lw_p87 : lw_okq (⟨"WidowRowModel", "isStone", "(I)Z"⟩, 52) := ⟨⟨by decide +kernel, by decide +kernel⟩, List.mem_of_getElem? (i := 1476) (by decide +kernel), List.mem_of_getElem? (i := 1771) (by decide +kernel), List.mem_of_getElem? (i := 1772) (by decide +kernel)⟩
theorem lw_p88 : lw_okq (⟨"WidowRowModel", "stones", "()I"⟩, 52) := ⟨⟨by decide +kernel, by decide +kernel⟩, List.mem_of_getElem? (i := 1476) (by decide +kernel), List.mem_of_getElem? (i := 1775) (by decide +kernel), List.mem_of_getElem? (i := 1776) (by decide +kernel)⟩
theorem lw_p89 : lw_okq (⟨"WidowRowModel", "refuse", "()I"⟩, 52) := ⟨⟨by decide +kernel, by decide +kernel⟩, List.mem_of_getElem? (i := 1476) (by decide +kernel), List.mem_of_getElem? (i := 1779) (by decide +kernel), List.mem_of_getElem? (i := 1780) (by decide +kernel)⟩
theorem lw_p90 : lw_okq (⟨"WidowRowModel", "pip", "(II)I"⟩, 52) := ⟨⟨by decide +kernel, by decide +kernel⟩, List.mem_of_getElem? (i := 1476) (by decide +kernel), List.mem_of_getElem? (i := 1783) (by decide +kernel), List.mem_of_getElem? (i := 1784) (by decide +kernel)⟩
theorem lw_p91 : lw_okq (⟨"WidowRowModel", "placeOf", "(I)I"⟩, 52) := ⟨⟨by decide +kernel, by decide +kernel⟩, List.mem_of_getElem? (i := 1476) (by decide +kernel), List.mem_of_getElem? (i := 1787) (by decide +kernel), List.mem_of_getElem? (i := 1788) (by decide +kernel)⟩
theorem lw_p92 : lw_okq (⟨"WidowRowModel", "rowMany", "()I"⟩, 52) := ⟨⟨by decide +kernel, by decide +kernel⟩, List.mem_of_getElem? (i := 1476) (by decide +kernel), List.mem_of_getElem? (i := 1791) (by decide +kernel), List.mem_of_getElem? (i := 1792) (by decide +kernel)⟩
theorem lw_p93 : lw_okq (⟨"WidowRowModel", "rowStone", "(I)I"⟩, 52) := ⟨⟨by decide +kernel, by decide +kernel⟩, List.mem_of_getElem? (i := 1476) (by decide +kernel), List.mem_of_getElem? (i := 1795) (by decide +kernel), List.mem_of_getElem? (i := 1796) (by decide +kernel)⟩
theorem lw_p94 : lw_okq (⟨"WidowRowModel", "isWidow", "(I)Z"⟩, 52) := ⟨⟨by decide +kernel, by decide +kernel⟩, List.mem_of_getElem? (i := 1476) (by decide +kernel), List.mem_of_getElem? (i := 1807) (by decide +kernel), List.mem_of_getElem? (i := 1808) (by decide +kernel)⟩
theorem lw_p95 : lw_okq (⟨"WidowRowModel", "widows", "()I"⟩, 52) := ⟨⟨by decide +kernel, by decide +kernel⟩, List.mem_of_getElem? (i := 1476) (by decide +kernel), List.mem_of_getElem? (i := 1811) (by decide +kernel), List.mem_of_getElem? (i := 1812) (by decide +kernel)⟩
def lw_privs_6 : List (MethodName × Nat) := [(⟨"WidowRowModel", "readNumber", "(II)Z"⟩, 52), (⟨"WidowRowModel", "isNumber", "(II)Z"⟩, 52), (⟨"WidowRowModel", "readForgive", "()Z"⟩, 52), (⟨"WidowRowModel", "readQuarrel", "()Z"⟩, 52), (⟨"WidowRowModel", "readPawn", "()Z"⟩, 52), (⟨"WidowRowModel", "readEnd", "()Z"⟩, 52), (⟨"WidowRowModel", "isSign", "(I)Z"⟩, 52), (⟨"WidowRowModel", "isStone", "(I)Z"⟩, 52), (⟨"WidowRowModel", "stones", "()I"⟩, 52), (⟨"WidowRowModel", "refuse", "()I"⟩, 52), (⟨"WidowRowModel", "pip", "(II)I"⟩, 52), (⟨"WidowRowModel", "placeOf", "(I)I"⟩, 52), (⟨"WidowRowModel", "rowMany", "()I"⟩, 52), (⟨"WidowRowModel", "rowStone", "(I)I"⟩, 52), (⟨"WidowRowModel", "isWidow", "(I)Z"⟩, 52), (⟨"WidowRowModel", "widows", "()I"⟩, 52)]
theorem lw_r6 : ∀ q ∈ lw_privs_6, lw_okq q := List.forall_mem_cons.mpr ⟨lw_p80, List.forall_mem_cons.mpr ⟨lw_p81, List.forall_mem_cons.mpr ⟨lw_p82, List.forall_mem_cons.mpr ⟨lw_p83, List.forall_mem_cons.mpr ⟨lw_p84, List.forall_mem_cons.mpr ⟨lw_p85, List.forall_mem_cons.mpr ⟨lw_p86, List.forall_mem_cons.mpr ⟨lw_p87, List.forall_mem_cons.mpr ⟨lw_p88, List.forall_mem_cons.mpr ⟨lw_p89, List.forall_mem_cons.mpr ⟨lw_p90, List.forall_mem_cons.mpr ⟨lw_p91, List.forall_mem_cons.mpr ⟨lw_p92, List.forall_mem_cons.mpr ⟨lw_p93, List.forall_mem_cons.mpr ⟨lw_p94, List.forall_mem_cons.mpr ⟨lw_p95, fun _ h => absurd h List.not_mem_nil⟩⟩⟩⟩⟩⟩⟩⟩⟩⟩⟩⟩⟩⟩⟩⟩
theorem lw_p96 : lw_okq (⟨"WidowRowModel", "isHeld", "(I)Z"⟩, 52) := ⟨⟨by decide +kernel, by decide +kernel⟩, List.mem_of_getElem? (i := 1476) (by decide +kernel), List.mem_of_getElem? (i := 1815) (by decide +kernel), List.mem_of_getElem? (i := 1816) (by decide +kernel)⟩
theorem lw_p97 : lw_okq (⟨"WidowRowModel", "sum", "(I)I"⟩, 52) := ⟨⟨by decide +kernel, by decide +kernel⟩, List.mem_of_getElem? (i := 1476) (by decide +kernel), List.mem_of_getElem? (i := 1819) (by decide +kernel), List.mem_of_getElem? (i := 1820) (by decide +kernel)⟩
theorem lw_p98 : lw_okq (⟨"WidowRowModel", "fit", "(II)Z"⟩, 52) := ⟨⟨by decide +kernel, by decide +kernel⟩, List.mem_of_getElem? (i := 1476) (by decide +kernel), List.mem_of_getElem? (i := 1827) (by decide +kernel), List.mem_of_getElem? (i := 1828) (by decide +kernel)⟩
theorem lw_p99 : lw_okq (⟨"WidowRowModel", "pipsAt", "(I)I"⟩, 52) := ⟨⟨by decide +kernel, by decide +kernel⟩, List.mem_of_getElem? (i := 1476) (by decide +kernel), List.mem_of_getElem? (i := 1839) (by decide +kernel), List.mem_of_getElem? (i := 1840) (by decide +kernel)⟩
theorem lw_p100 : lw_okq (⟨"WidowRowModel", "endAt", "(I)I"⟩, 52) := ⟨⟨by decide +kernel, by decide +kernel⟩, List.mem_of_getElem? (i := 1476) (by decide +kernel), List.mem_of_getElem? (i := 1843) (by decide +kernel), List.mem_of_getElem? (i := 1844) (by decide +kernel)⟩
theorem lw_p101 : lw_okq (⟨"WidowRowModel", "rowPip", "(II)I"⟩, 52) := ⟨⟨by decide +kernel, by decide +kernel⟩, List.mem_of_getElem? (i := 1476) (by decide +kernel), List.mem_of_getElem? (i := 1847) (by decide +kernel), List.mem_of_getElem? (i := 1848) (by decide +kernel)⟩
theorem lw_p102 : lw_okq (⟨"WidowRowModel", "whyNot", "(III)I"⟩, 52) := ⟨⟨by decide +kernel, by decide +kernel⟩, List.mem_of_getElem? (i := 1476) (by decide +kernel), List.mem_of_getElem? (i := 1858) (by decide +kernel), List.mem_of_getElem? (i := 1859) (by decide +kernel)⟩
theorem lw_p103 : lw_okq (⟨"WidowRowModel", "layerAt", "(I)I"⟩, 52) := ⟨⟨by decide +kernel, by decide +kernel⟩, List.mem_of_getElem? (i := 1476) (by decide +kernel), List.mem_of_getElem? (i := 1862) (by decide +kernel), List.mem_of_getElem? (i := 1863) (by decide +kernel)⟩
theorem lw_p104 : lw_okq (⟨"WidowRowModel", "snap", "()V"⟩, 52) := ⟨⟨by decide +kernel, by decide +kernel⟩, List.mem_of_getElem? (i := 1476) (by decide +kernel), List.mem_of_getElem? (i := 1874) (by decide +kernel), List.mem_of_getElem? (i := 1875) (by decide +kernel)⟩
theorem lw_p105 : lw_okq (⟨"WidowRowModel", "lays", "(III)V"⟩, 52) := ⟨⟨by decide +kernel, by decide +kernel⟩, List.mem_of_getElem? (i := 1476) (by decide +kernel), List.mem_of_getElem? (i := 1878) (by decide +kernel), List.mem_of_getElem? (i := 1879) (by decide +kernel)⟩
theorem lw_p106 : lw_okq (⟨"WidowRowModel", "catAt", "(I)I"⟩, 52) := ⟨⟨by decide +kernel, by decide +kernel⟩, List.mem_of_getElem? (i := 1476) (by decide +kernel), List.mem_of_getElem? (i := 1886) (by decide +kernel), List.mem_of_getElem? (i := 1887) (by decide +kernel)⟩
theorem lw_p107 : lw_okq (⟨"WidowRowModel", "turnLast", "()V"⟩, 52) := ⟨⟨by decide +kernel, by decide +kernel⟩, List.mem_of_getElem? (i := 1476) (by decide +kernel), List.mem_of_getElem? (i := 1894) (by decide +kernel), List.mem_of_getElem? (i := 1895) (by decide +kernel)⟩
theorem lw_p108 : lw_okq (⟨"WidowRowModel", "fitsEnd", "(II)Z"⟩, 52) := ⟨⟨by decide +kernel, by decide +kernel⟩, List.mem_of_getElem? (i := 1476) (by decide +kernel), List.mem_of_getElem? (i := 1922) (by decide +kernel), List.mem_of_getElem? (i := 1923) (by decide +kernel)⟩
theorem lw_p109 : lw_okq (⟨"WidowRowModel", "layHand", "()I"⟩, 52) := ⟨⟨by decide +kernel, by decide +kernel⟩, List.mem_of_getElem? (i := 1476) (by decide +kernel), List.mem_of_getElem? (i := 1930) (by decide +kernel), List.mem_of_getElem? (i := 1931) (by decide +kernel)⟩
theorem lw_p110 : lw_okq (⟨"WidowRowModel", "layLongest", "(I)V"⟩, 52) := ⟨⟨by decide +kernel, by decide +kernel⟩, List.mem_of_getElem? (i := 1476) (by decide +kernel), List.mem_of_getElem? (i := 1934) (by decide +kernel), List.mem_of_getElem? (i := 1935) (by decide +kernel)⟩
theorem lw_p111 : lw_okq (⟨"WidowRowModel", "isNext", "(IIII)Z"⟩, 52) := ⟨⟨by decide +kernel, by decide +kernel⟩, List.mem_of_getElem? (i := 1476) (by decide +kernel), List.mem_of_getElem? (i := 1941) (by decide +kernel), List.mem_of_getElem? (i := 1942) (by decide +kernel)⟩
def lw_privs_7 : List (MethodName × Nat) := [(⟨"WidowRowModel", "isHeld", "(I)Z"⟩, 52), (⟨"WidowRowModel", "sum", "(I)I"⟩, 52), (⟨"WidowRowModel", "fit", "(II)Z"⟩, 52), (⟨"WidowRowModel", "pipsAt", "(I)I"⟩, 52), (⟨"WidowRowModel", "endAt", "(I)I"⟩, 52), (⟨"WidowRowModel", "rowPip", "(II)I"⟩, 52), (⟨"WidowRowModel", "whyNot", "(III)I"⟩, 52), (⟨"WidowRowModel", "layerAt", "(I)I"⟩, 52), (⟨"WidowRowModel", "snap", "()V"⟩, 52), (⟨"WidowRowModel", "lays", "(III)V"⟩, 52), (⟨"WidowRowModel", "catAt", "(I)I"⟩, 52), (⟨"WidowRowModel", "turnLast", "()V"⟩, 52), (⟨"WidowRowModel", "fitsEnd", "(II)Z"⟩, 52), (⟨"WidowRowModel", "layHand", "()I"⟩, 52), (⟨"WidowRowModel", "layLongest", "(I)V"⟩, 52), (⟨"WidowRowModel", "isNext", "(IIII)Z"⟩, 52)]
theorem lw_r7 : ∀ q ∈ lw_privs_7, lw_okq q := List.forall_mem_cons.mpr ⟨lw_p96, List.forall_mem_cons.mpr ⟨lw_p97, List.forall_mem_cons.mpr ⟨lw_p98, List.forall_mem_cons.mpr ⟨lw_p99, List.forall_mem_cons.mpr ⟨lw_p100, List.forall_mem_cons.mpr ⟨lw_p101, List.forall_mem_cons.mpr ⟨lw_p102, List.forall_mem_cons.mpr ⟨lw_p103, List.forall_mem_cons.mpr ⟨lw_p104, List.forall_mem_cons.mpr ⟨lw_p105, List.forall_mem_cons.mpr ⟨lw_p106, List.forall_mem_cons.mpr ⟨lw_p107, List.forall_mem_cons.mpr ⟨lw_p108, List.forall_mem_cons.mpr ⟨lw_p109, List.forall_mem_cons.mpr ⟨lw_p110, List.forall_mem_cons.mpr ⟨lw_p111, fun _ h => absurd h List.not_mem_nil⟩⟩⟩⟩⟩⟩⟩⟩⟩⟩⟩⟩⟩⟩⟩⟩
theorem lw_p112 : lw_okq (⟨"WidowRowModel", "fewestFrom", "(II)I"⟩, 52) := ⟨⟨by decide +kernel, by decide +kernel⟩, List.mem_of_getElem? (i := 1476) (by decide +kernel), List.mem_of_getElem? (i := 1960) (by decide +kernel), List.mem_of_getElem? (i := 1961) (by decide +kernel)⟩
theorem lw_p113 : lw_okq (⟨"WidowRowModel", "isAll", "(II)Z"⟩, 52) := ⟨⟨by decide +kernel, by decide +kernel⟩, List.mem_of_getElem? (i := 1476) (by decide +kernel), List.mem_of_getElem? (i := 1964) (by decide +kernel), List.mem_of_getElem? (i := 1965) (by decide +kernel)⟩
theorem lw_p114 : lw_okq (⟨"WidowRowModel", "moved", "(III)I"⟩, 52) := ⟨⟨by decide +kernel, by decide +kernel⟩, List.mem_of_getElem? (i := 1476) (by decide +kernel), List.mem_of_getElem? (i := 1968) (by decide +kernel), List.mem_of_getElem? (i := 1969) (by decide +kernel)⟩
theorem lw_p115 : lw_okq (⟨"WidowRowModel", "laysAt", "(III)I"⟩, 52) := ⟨⟨by decide +kernel, by decide +kernel⟩, List.mem_of_getElem? (i := 1476) (by decide +kernel), List.mem_of_getElem? (i := 1972) (by decide +kernel), List.mem_of_getElem? (i := 1973) (by decide +kernel)⟩
theorem lw_p116 : lw_okq (⟨"WidowRowModel", "endPips", "(II)I"⟩, 52) := ⟨⟨by decide +kernel, by decide +kernel⟩, List.mem_of_getElem? (i := 1476) (by decide +kernel), List.mem_of_getElem? (i := 1976) (by decide +kernel), List.mem_of_getElem? (i := 1977) (by decide +kernel)⟩
theorem lw_p117 : lw_okq (⟨"WidowRowModel", "endLayer", "(II)I"⟩, 52) := ⟨⟨by decide +kernel, by decide +kernel⟩, List.mem_of_getElem? (i := 1476) (by decide +kernel), List.mem_of_getElem? (i := 1980) (by decide +kernel), List.mem_of_getElem? (i := 1981) (by decide +kernel)⟩
theorem lw_p118 : lw_okq (⟨"WidowRowModel", "isOver", "(III)Z"⟩, 52) := ⟨⟨by decide +kernel, by decide +kernel⟩, List.mem_of_getElem? (i := 1476) (by decide +kernel), List.mem_of_getElem? (i := 1992) (by decide +kernel), List.mem_of_getElem? (i := 1993) (by decide +kernel)⟩
theorem lw_p119 : lw_okq (⟨"WidowRowModel", "canLay", "(IIIII)Z"⟩, 52) := ⟨⟨by decide +kernel, by decide +kernel⟩, List.mem_of_getElem? (i := 1476) (by decide +kernel), List.mem_of_getElem? (i := 1996) (by decide +kernel), List.mem_of_getElem? (i := 1997) (by decide +kernel)⟩
theorem lw_p120 : lw_okq (⟨"WidowRowModel", "behind", "(II)I"⟩, 52) := ⟨⟨by decide +kernel, by decide +kernel⟩, List.mem_of_getElem? (i := 1476) (by decide +kernel), List.mem_of_getElem? (i := 2000) (by decide +kernel), List.mem_of_getElem? (i := 2001) (by decide +kernel)⟩
theorem lw_p121 : lw_okq (⟨"WidowRowModel", "bestOf", "(IIIII)I"⟩, 52) := ⟨⟨by decide +kernel, by decide +kernel⟩, List.mem_of_getElem? (i := 1476) (by decide +kernel), List.mem_of_getElem? (i := 2004) (by decide +kernel), List.mem_of_getElem? (i := 2005) (by decide +kernel)⟩
theorem lw_p122 : lw_okq (⟨"WidowRowModel", "play", "(IIIII)I"⟩, 52) := ⟨⟨by decide +kernel, by decide +kernel⟩, List.mem_of_getElem? (i := 1476) (by decide +kernel), List.mem_of_getElem? (i := 2008) (by decide +kernel), List.mem_of_getElem? (i := 2009) (by decide +kernel)⟩
theorem lw_p123 : lw_okq (⟨"WidowRowModel", "pipsLeft", "(III)I"⟩, 52) := ⟨⟨by decide +kernel, by decide +kernel⟩, List.mem_of_getElem? (i := 1476) (by decide +kernel), List.mem_of_getElem? (i := 2015) (by decide +kernel), List.mem_of_getElem? (i := 2016) (by decide +kernel)⟩
theorem lw_p124 : lw_okq (⟨"WidowRowModel", "isGap", "(I)Z"⟩, 52) := ⟨⟨by decide +kernel, by decide +kernel⟩, List.mem_of_getElem? (i := 1476) (by decide +kernel), List.mem_of_getElem? (i := 2027) (by decide +kernel), List.mem_of_getElem? (i := 2028) (by decide +kernel)⟩
theorem lw_p125 : lw_okq (⟨"WidowRowModel", "layAside", "()V"⟩, 52) := ⟨⟨by decide +kernel, by decide +kernel⟩, List.mem_of_getElem? (i := 1476) (by decide +kernel), List.mem_of_getElem? (i := 2047) (by decide +kernel), List.mem_of_getElem? (i := 2048) (by decide +kernel)⟩
theorem lw_p126 : lw_okq (⟨"WidowRowModel", "layBack", "()V"⟩, 52) := ⟨⟨by decide +kernel, by decide +kernel⟩, List.mem_of_getElem? (i := 1476) (by decide +kernel), List.mem_of_getElem? (i := 2051) (by decide +kernel), List.mem_of_getElem? (i := 2052) (by decide +kernel)⟩
theorem lw_p127 : lw_okq (⟨"WidowRowModel", "readDeal", "()Z"⟩, 52) := ⟨⟨by decide +kernel, by decide +kernel⟩, List.mem_of_getElem? (i := 1476) (by decide +kernel), List.mem_of_getElem? (i := 2067) (by decide +kernel), List.mem_of_getElem? (i := 2068) (by decide +kernel)⟩
def lw_privs_8 : List (MethodName × Nat) := [(⟨"WidowRowModel", "fewestFrom", "(II)I"⟩, 52), (⟨"WidowRowModel", "isAll", "(II)Z"⟩, 52), (⟨"WidowRowModel", "moved", "(III)I"⟩, 52), (⟨"WidowRowModel", "laysAt", "(III)I"⟩, 52), (⟨"WidowRowModel", "endPips", "(II)I"⟩, 52), (⟨"WidowRowModel", "endLayer", "(II)I"⟩, 52), (⟨"WidowRowModel", "isOver", "(III)Z"⟩, 52), (⟨"WidowRowModel", "canLay", "(IIIII)Z"⟩, 52), (⟨"WidowRowModel", "behind", "(II)I"⟩, 52), (⟨"WidowRowModel", "bestOf", "(IIIII)I"⟩, 52), (⟨"WidowRowModel", "play", "(IIIII)I"⟩, 52), (⟨"WidowRowModel", "pipsLeft", "(III)I"⟩, 52), (⟨"WidowRowModel", "isGap", "(I)Z"⟩, 52), (⟨"WidowRowModel", "layAside", "()V"⟩, 52), (⟨"WidowRowModel", "layBack", "()V"⟩, 52), (⟨"WidowRowModel", "readDeal", "()Z"⟩, 52)]
theorem lw_r8 : ∀ q ∈ lw_privs_8, lw_okq q := List.forall_mem_cons.mpr ⟨lw_p112, List.forall_mem_cons.mpr ⟨lw_p113, List.forall_mem_cons.mpr ⟨lw_p114, List.forall_mem_cons.mpr ⟨lw_p115, List.forall_mem_cons.mpr ⟨lw_p116, List.forall_mem_cons.mpr ⟨lw_p117, List.forall_mem_cons.mpr ⟨lw_p118, List.forall_mem_cons.mpr ⟨lw_p119, List.forall_mem_cons.mpr ⟨lw_p120, List.forall_mem_cons.mpr ⟨lw_p121, List.forall_mem_cons.mpr ⟨lw_p122, List.forall_mem_cons.mpr ⟨lw_p123, List.forall_mem_cons.mpr ⟨lw_p124, List.forall_mem_cons.mpr ⟨lw_p125, List.forall_mem_cons.mpr ⟨lw_p126, List.forall_mem_cons.mpr ⟨lw_p127, fun _ h => absurd h List.not_mem_nil⟩⟩⟩⟩⟩⟩⟩⟩⟩⟩⟩⟩⟩⟩⟩⟩
theorem lw_p128 : lw_okq (⟨"WidowRowModel", "readSeen", "()Z"⟩, 52) := ⟨⟨by decide +kernel, by decide +kernel⟩, List.mem_of_getElem? (i := 1476) (by decide +kernel), List.mem_of_getElem? (i := 2071) (by decide +kernel), List.mem_of_getElem? (i := 2072) (by decide +kernel)⟩
theorem lw_p129 : lw_okq (⟨"WidowRowModel", "readPassed", "()Z"⟩, 52) := ⟨⟨by decide +kernel, by decide +kernel⟩, List.mem_of_getElem? (i := 1476) (by decide +kernel), List.mem_of_getElem? (i := 2075) (by decide +kernel), List.mem_of_getElem? (i := 2076) (by decide +kernel)⟩
theorem lw_p130 : lw_okq (⟨"WidowRowModel", "deal", "(II)J"⟩, 52) := ⟨⟨by decide +kernel, by decide +kernel⟩, List.mem_of_getElem? (i := 1476) (by decide +kernel), List.mem_of_getElem? (i := 2083) (by decide +kernel), List.mem_of_getElem? (i := 2084) (by decide +kernel)⟩
theorem lw_p131 : lw_okq (⟨"WidowRowModel", "dealOne", "(III)V"⟩, 52) := ⟨⟨by decide +kernel, by decide +kernel⟩, List.mem_of_getElem? (i := 1476) (by decide +kernel), List.mem_of_getElem? (i := 2090) (by decide +kernel), List.mem_of_getElem? (i := 2091) (by decide +kernel)⟩
theorem lw_p132 : lw_okq (⟨"WidowRowModel", "mayHave", "(II)Z"⟩, 52) := ⟨⟨by decide +kernel, by decide +kernel⟩, List.mem_of_getElem? (i := 1476) (by decide +kernel), List.mem_of_getElem? (i := 2094) (by decide +kernel), List.mem_of_getElem? (i := 2095) (by decide +kernel)⟩
theorem lw_p133 : lw_okq (⟨"WidowRowModel", "draw", "(I)I"⟩, 52) := ⟨⟨by decide +kernel, by decide +kernel⟩, List.mem_of_getElem? (i := 1476) (by decide +kernel), List.mem_of_getElem? (i := 2111) (by decide +kernel), List.mem_of_getElem? (i := 2112) (by decide +kernel)⟩
theorem lw_p134 : lw_okq (⟨"WidowRowModel", "inHand", "(II)I"⟩, 52) := ⟨⟨by decide +kernel, by decide +kernel⟩, List.mem_of_getElem? (i := 1476) (by decide +kernel), List.mem_of_getElem? (i := 2116) (by decide +kernel), List.mem_of_getElem? (i := 2117) (by decide +kernel)⟩
theorem lw_p135 : lw_okq (⟨"WidowRowModel", "readOr", "()Z"⟩, 52) := ⟨⟨by decide +kernel, by decide +kernel⟩, List.mem_of_getElem? (i := 1476) (by decide +kernel), List.mem_of_getElem? (i := 2128) (by decide +kernel), List.mem_of_getElem? (i := 2129) (by decide +kernel)⟩
theorem lw_p136 : lw_okq (⟨"WidowRowModel", "readAnd", "()Z"⟩, 52) := ⟨⟨by decide +kernel, by decide +kernel⟩, List.mem_of_getElem? (i := 1476) (by decide +kernel), List.mem_of_getElem? (i := 2132) (by decide +kernel), List.mem_of_getElem? (i := 2133) (by decide +kernel)⟩
theorem lw_p137 : lw_okq (⟨"WidowRowModel", "readOne", "()Z"⟩, 52) := ⟨⟨by decide +kernel, by decide +kernel⟩, List.mem_of_getElem? (i := 1476) (by decide +kernel), List.mem_of_getElem? (i := 2136) (by decide +kernel), List.mem_of_getElem? (i := 2137) (by decide +kernel)⟩
theorem lw_p138 : lw_okq (⟨"WidowRowModel", "readBracket", "()Z"⟩, 52) := ⟨⟨by decide +kernel, by decide +kernel⟩, List.mem_of_getElem? (i := 1476) (by decide +kernel), List.mem_of_getElem? (i := 2140) (by decide +kernel), List.mem_of_getElem? (i := 2141) (by decide +kernel)⟩
theorem lw_p139 : lw_okq (⟨"WidowRowModel", "readNot", "()Z"⟩, 52) := ⟨⟨by decide +kernel, by decide +kernel⟩, List.mem_of_getElem? (i := 1476) (by decide +kernel), List.mem_of_getElem? (i := 2144) (by decide +kernel), List.mem_of_getElem? (i := 2145) (by decide +kernel)⟩
theorem lw_p140 : lw_okq (⟨"WidowRowModel", "saysOne", "(IIII)I"⟩, 52) := ⟨⟨by decide +kernel, by decide +kernel⟩, List.mem_of_getElem? (i := 1476) (by decide +kernel), List.mem_of_getElem? (i := 2148) (by decide +kernel), List.mem_of_getElem? (i := 2149) (by decide +kernel)⟩
theorem lw_p141 : lw_okq (⟨"WidowRowModel", "readOf", "()Z"⟩, 52) := ⟨⟨by decide +kernel, by decide +kernel⟩, List.mem_of_getElem? (i := 1476) (by decide +kernel), List.mem_of_getElem? (i := 2152) (by decide +kernel), List.mem_of_getElem? (i := 2153) (by decide +kernel)⟩
theorem lw_p142 : lw_okq (⟨"WidowRowModel", "readCompare", "(I)Z"⟩, 52) := ⟨⟨by decide +kernel, by decide +kernel⟩, List.mem_of_getElem? (i := 1476) (by decide +kernel), List.mem_of_getElem? (i := 2156) (by decide +kernel), List.mem_of_getElem? (i := 2157) (by decide +kernel)⟩
theorem lw_p143 : lw_okq (⟨"WidowRowModel", "holds", "(II)Z"⟩, 52) := ⟨⟨by decide +kernel, by decide +kernel⟩, List.mem_of_getElem? (i := 1476) (by decide +kernel), List.mem_of_getElem? (i := 2164) (by decide +kernel), List.mem_of_getElem? (i := 2165) (by decide +kernel)⟩
def lw_privs_9 : List (MethodName × Nat) := [(⟨"WidowRowModel", "readSeen", "()Z"⟩, 52), (⟨"WidowRowModel", "readPassed", "()Z"⟩, 52), (⟨"WidowRowModel", "deal", "(II)J"⟩, 52), (⟨"WidowRowModel", "dealOne", "(III)V"⟩, 52), (⟨"WidowRowModel", "mayHave", "(II)Z"⟩, 52), (⟨"WidowRowModel", "draw", "(I)I"⟩, 52), (⟨"WidowRowModel", "inHand", "(II)I"⟩, 52), (⟨"WidowRowModel", "readOr", "()Z"⟩, 52), (⟨"WidowRowModel", "readAnd", "()Z"⟩, 52), (⟨"WidowRowModel", "readOne", "()Z"⟩, 52), (⟨"WidowRowModel", "readBracket", "()Z"⟩, 52), (⟨"WidowRowModel", "readNot", "()Z"⟩, 52), (⟨"WidowRowModel", "saysOne", "(IIII)I"⟩, 52), (⟨"WidowRowModel", "readOf", "()Z"⟩, 52), (⟨"WidowRowModel", "readCompare", "(I)Z"⟩, 52), (⟨"WidowRowModel", "holds", "(II)Z"⟩, 52)]
theorem lw_r9 : ∀ q ∈ lw_privs_9, lw_okq q := List.forall_mem_cons.mpr ⟨lw_p128, List.forall_mem_cons.mpr ⟨lw_p129, List.forall_mem_cons.mpr ⟨lw_p130, List.forall_mem_cons.mpr ⟨lw_p131, List.forall_mem_cons.mpr ⟨lw_p132, List.forall_mem_cons.mpr ⟨lw_p133, List.forall_mem_cons.mpr ⟨lw_p134, List.forall_mem_cons.mpr ⟨lw_p135, List.forall_mem_cons.mpr ⟨lw_p136, List.forall_mem_cons.mpr ⟨lw_p137, List.forall_mem_cons.mpr ⟨lw_p138, List.forall_mem_cons.mpr ⟨lw_p139, List.forall_mem_cons.mpr ⟨lw_p140, List.forall_mem_cons.mpr ⟨lw_p141, List.forall_mem_cons.mpr ⟨lw_p142, List.forall_mem_cons.mpr ⟨lw_p143, fun _ h => absurd h List.not_mem_nil⟩⟩⟩⟩⟩⟩⟩⟩⟩⟩⟩⟩⟩⟩⟩⟩
theorem lw_p144 : lw_okq (⟨"WidowRowModel", "valueOf", "(II)I"⟩, 52) := ⟨⟨by decide +kernel, by decide +kernel⟩, List.mem_of_getElem? (i := 1476) (by decide +kernel), List.mem_of_getElem? (i := 2168) (by decide +kernel), List.mem_of_getElem? (i := 2169) (by decide +kernel)⟩
def lw_privs_10 : List (MethodName × Nat) := [(⟨"WidowRowModel", "valueOf", "(II)I"⟩, 52)]
theorem lw_r10 : ∀ q ∈ lw_privs_10, lw_okq q := List.forall_mem_cons.mpr ⟨lw_p144, fun _ h => absurd h List.not_mem_nil⟩
def lw_privs : List (MethodName × Nat) := lw_privs_1 ++ (lw_privs_2 ++ (lw_privs_3 ++ (lw_privs_4 ++ (lw_privs_5 ++ (lw_privs_6 ++ (lw_privs_7 ++ (lw_privs_8 ++ (lw_privs_9 ++ (lw_privs_10)))))))))
def lw_tbl : List Cond := k2_sels lw_privs ++ tables_1
theorem lw_privs_ok : ∀ q ∈ lw_privs, lw_okq q := by
  show ∀ q ∈ lw_privs_1 ++ (lw_privs_2 ++ (lw_privs_3 ++ (lw_privs_4 ++ (lw_privs_5 ++ (lw_privs_6 ++ (lw_privs_7 ++ (lw_privs_8 ++ (lw_privs_9 ++ (lw_privs_10))))))))), lw_okq q
  exact List.forall_mem_append.mpr ⟨lw_r1, List.forall_mem_append.mpr ⟨lw_r2, List.forall_mem_append.mpr ⟨lw_r3, List.forall_mem_append.mpr ⟨lw_r4, List.forall_mem_append.mpr ⟨lw_r5, List.forall_mem_append.mpr ⟨lw_r6, List.forall_mem_append.mpr ⟨lw_r7, List.forall_mem_append.mpr ⟨lw_r8, List.forall_mem_append.mpr ⟨lw_r9, lw_r10⟩⟩⟩⟩⟩⟩⟩⟩⟩
-- ===== end of PART A; then your names; then what follows =====

def RX0 : String := "WidowRow$Chain"
def TX0 : u_T := fun k => match k with
  | 0 => ("WidowRow$Chain", "row", "LWidowRow$Row;", true)
  | 1 => ("WidowRow$Chain", "island", "LWidowRow$Island;", true)
  | 2 => ("WidowRow$Chain", "table", "[J", true)
  | 3 => ("WidowRow$Chain", "hand", "[I", true)
  | 4 => ("WidowRow$Chain", "size", "I", false)
  | 5 => ("WidowRow$Chain", "path", "[I", true)
  | _ => ("WidowRow$Chain", "length", "I", false)
def tyX0 : Nat → FieldType := fun k => match k with
  | 0 => .object "WidowRow$Row"
  | 1 => .object "WidowRow$Island"
  | 2 => .array .long
  | 3 => .array .int
  | 4 => .int
  | 5 => .array .int
  | _ => .int
theorem nmX0 : ∀ a, a < 7 → ∀ b, b < 7 → a ≠ b → (TX0 a).2.1 ≠ (TX0 b).2.1 := by decide +kernel
theorem tyX0_ok : ∀ k, k < 7 → parseFieldDescriptor (TX0 k).2.2.1 = some (tyX0 k) := by decide +kernel
abbrev cX0_init : ByteArray := prog_2_method_1_code
def yX0_init : MethodName := ⟨RX0, "<init>", "(LWidowRow$Row;[J)V"⟩
abbrev cX0_findLongest : ByteArray := prog_2_method_2_code
def yX0_findLongest : MethodName := ⟨RX0, "findLongest", "()I"⟩
abbrev cX0_fewestBetween : ByteArray := prog_2_method_3_code
def yX0_fewestBetween : MethodName := ⟨RX0, "fewestBetween", "(II)I"⟩
abbrev cX0_spread : ByteArray := prog_2_method_4_code
def yX0_spread : MethodName := ⟨RX0, "spread", "(I)V"⟩
abbrev cX0_spreadOver : ByteArray := prog_2_method_5_code
def yX0_spreadOver : MethodName := ⟨RX0, "spreadOver", "(II)V"⟩
abbrev cX0_ahead : ByteArray := prog_2_method_6_code
def yX0_ahead : MethodName := ⟨RX0, "ahead", "(I)J"⟩
abbrev cX0_markUseful : ByteArray := prog_2_method_7_code
def yX0_markUseful : MethodName := ⟨RX0, "markUseful", "()V"⟩
abbrev cX0_usefulBy : ByteArray := prog_2_method_8_code
def yX0_usefulBy : MethodName := ⟨RX0, "usefulBy", "(II)J"⟩
abbrev cX0_walk : ByteArray := prog_2_method_9_code
def yX0_walk : MethodName := ⟨RX0, "walk", "(I)V"⟩
abbrev cX0_firstUseful : ByteArray := prog_2_method_10_code
def yX0_firstUseful : MethodName := ⟨RX0, "firstUseful", "(II)I"⟩
def RX1 : String := "WidowRow$Days"
def TX1 : u_T := fun k => match k with
  | 0 => ("WidowRow$Days", "row", "LWidowRow$Row;", true)
  | 1 => ("WidowRow$Days", "x", "I", false)
  | 2 => ("WidowRow$Days", "any", "Z", false)
  | 3 => ("WidowRow$Days", "laid", "I", false)
  | 4 => ("WidowRow$Days", "cats", "I", false)
  | 5 => ("WidowRow$Days", "tides", "I", false)
  | _ => ("WidowRow$Days", "refused", "I", false)
def tyX1 : Nat → FieldType := fun k => match k with
  | 0 => .object "WidowRow$Row"
  | 1 => .int
  | 2 => .boolean
  | 3 => .int
  | 4 => .int
  | 5 => .int
  | _ => .int
theorem nmX1 : ∀ a, a < 7 → ∀ b, b < 7 → a ≠ b → (TX1 a).2.1 ≠ (TX1 b).2.1 := by decide +kernel
theorem tyX1_ok : ∀ k, k < 7 → parseFieldDescriptor (TX1 k).2.2.1 = some (tyX1 k) := by decide +kernel
abbrev cX1_init : ByteArray := prog_3_method_1_code
def yX1_init : MethodName := ⟨RX1, "<init>", "(LWidowRow$Row;)V"⟩
abbrev cX1_live : ByteArray := prog_3_method_2_code
def yX1_live : MethodName := ⟨RX1, "live", "(II)I"⟩
abbrev cX1_draw : ByteArray := prog_3_method_3_code
def yX1_draw : MethodName := ⟨RX1, "draw", "(I)I"⟩
abbrev cX1_tryVisit : ByteArray := prog_3_method_4_code
def yX1_tryVisit : MethodName := ⟨RX1, "tryVisit", "()V"⟩
abbrev cX1_tryCat : ByteArray := prog_3_method_5_code
def yX1_tryCat : MethodName := ⟨RX1, "tryCat", "()V"⟩
abbrev cX1_tryTide : ByteArray := prog_3_method_6_code
def yX1_tryTide : MethodName := ⟨RX1, "tryTide", "()V"⟩
def RX2 : String := "WidowRow$Dealer"
def TX2 : u_T := fun k => match k with
  | 0 => ("WidowRow$Dealer", "island", "LWidowRow$Island;", true)
  | 1 => ("WidowRow$Dealer", "memory", "LWidowRow$Memory;", true)
  | 2 => ("WidowRow$Dealer", "table", "[J", true)
  | 3 => ("WidowRow$Dealer", "unseen", "[I", true)
  | 4 => ("WidowRow$Dealer", "allowed", "[I", true)
  | 5 => ("WidowRow$Dealer", "size", "I", false)
  | 6 => ("WidowRow$Dealer", "step", "[I", true)
  | _ => ("WidowRow$Dealer", "given", "[I", true)
def tyX2 : Nat → FieldType := fun k => match k with
  | 0 => .object "WidowRow$Island"
  | 1 => .object "WidowRow$Memory"
  | 2 => .array .long
  | 3 => .array .int
  | 4 => .array .int
  | 5 => .int
  | 6 => .array .int
  | _ => .array .int
theorem nmX2 : ∀ a, a < 8 → ∀ b, b < 8 → a ≠ b → (TX2 a).2.1 ≠ (TX2 b).2.1 := by decide +kernel
theorem tyX2_ok : ∀ k, k < 8 → parseFieldDescriptor (TX2 k).2.2.1 = some (tyX2 k) := by decide +kernel
abbrev cX2_init : ByteArray := prog_4_method_1_code
def yX2_init : MethodName := ⟨RX2, "<init>", "(LWidowRow$Island;LWidowRow$Memory;[J)V"⟩
abbrev cX2_ways : ByteArray := prog_4_method_2_code
def yX2_ways : MethodName := ⟨RX2, "ways", "(II)J"⟩
abbrev cX2_gather : ByteArray := prog_4_method_3_code
def yX2_gather : MethodName := ⟨RX2, "gather", "()Z"⟩
abbrev cX2_widowsFor : ByteArray := prog_4_method_4_code
def yX2_widowsFor : MethodName := ⟨RX2, "widowsFor", "(I)I"⟩
abbrev cX2_dealtTo : ByteArray := prog_4_method_5_code
def yX2_dealtTo : MethodName := ⟨RX2, "dealtTo", "(I)I"⟩
abbrev cX2_sums : ByteArray := prog_4_method_6_code
def yX2_sums : MethodName := ⟨RX2, "sums", "()I"⟩
abbrev cX2_countWays : ByteArray := prog_4_method_7_code
def yX2_countWays : MethodName := ⟨RX2, "countWays", "(I)J"⟩
abbrev cX2_giveOneMore : ByteArray := prog_4_method_8_code
def yX2_giveOneMore : MethodName := ⟨RX2, "giveOneMore", "()I"⟩
abbrev cX2_certain : ByteArray := prog_4_method_9_code
def yX2_certain : MethodName := ⟨RX2, "certain", "(I)I"⟩
abbrev cX2_canDeal : ByteArray := prog_4_method_10_code
def yX2_canDeal : MethodName := ⟨RX2, "canDeal", "()Z"⟩
def RX3 : String := "WidowRow$Island"
def TX3 : u_T := fun k => match k with
  | 0 => ("WidowRow$Island", "lines", "I", false)
  | 1 => ("WidowRow$Island", "widows", "I", false)
  | 2 => ("WidowRow$Island", "stones", "I", false)
  | 3 => ("WidowRow$Island", "forgiven", "I", false)
  | 4 => ("WidowRow$Island", "quarrels", "I", false)
  | 5 => ("WidowRow$Island", "worth", "I", false)
  | 6 => ("WidowRow$Island", "worthTold", "Z", false)
  | 7 => ("WidowRow$Island", "names", "[J", true)
  | 8 => ("WidowRow$Island", "one", "[I", true)
  | 9 => ("WidowRow$Island", "two", "[I", true)
  | 10 => ("WidowRow$Island", "teller", "[I", true)
  | 11 => ("WidowRow$Island", "angry", "[I", true)
  | _ => ("WidowRow$Island", "fitting", "[I", true)
def tyX3 : Nat → FieldType := fun k => match k with
  | 0 => .int
  | 1 => .int
  | 2 => .int
  | 3 => .int
  | 4 => .int
  | 5 => .int
  | 6 => .boolean
  | 7 => .array .long
  | 8 => .array .int
  | 9 => .array .int
  | 10 => .array .int
  | 11 => .array .int
  | _ => .array .int
theorem nmX3 : ∀ a, a < 13 → ∀ b, b < 13 → a ≠ b → (TX3 a).2.1 ≠ (TX3 b).2.1 := by decide +kernel
theorem tyX3_ok : ∀ k, k < 13 → parseFieldDescriptor (TX3 k).2.2.1 = some (tyX3 k) := by decide +kernel
abbrev cX3_init : ByteArray := prog_5_method_1_code
def yX3_init : MethodName := ⟨RX3, "<init>", "()V"⟩
abbrev cX3_clear : ByteArray := prog_5_method_2_code
def yX3_clear : MethodName := ⟨RX3, "clear", "()V"⟩
abbrev cX3_copyFrom : ByteArray := prog_5_method_3_code
def yX3_copyFrom : MethodName := ⟨RX3, "copyFrom", "(LWidowRow$Island;)V"⟩
abbrev cX3_readAll : ByteArray := prog_5_method_4_code
def yX3_readAll : MethodName := ⟨RX3, "readAll", "(LWidowRow$Tokens;)Z"⟩
abbrev cX3_readLine : ByteArray := prog_5_method_5_code
def yX3_readLine : MethodName := ⟨RX3, "readLine", "(LWidowRow$Tokens;)Z"⟩
abbrev cX3_readWidow : ByteArray := prog_5_method_6_code
def yX3_readWidow : MethodName := ⟨RX3, "readWidow", "(LWidowRow$Tokens;)Z"⟩
abbrev cX3_readStone : ByteArray := prog_5_method_7_code
def yX3_readStone : MethodName := ⟨RX3, "readStone", "(LWidowRow$Tokens;)Z"⟩
abbrev cX3_readForgive : ByteArray := prog_5_method_8_code
def yX3_readForgive : MethodName := ⟨RX3, "readForgive", "(LWidowRow$Tokens;)Z"⟩
abbrev cX3_readQuarrel : ByteArray := prog_5_method_9_code
def yX3_readQuarrel : MethodName := ⟨RX3, "readQuarrel", "(LWidowRow$Tokens;)Z"⟩
abbrev cX3_readPawn : ByteArray := prog_5_method_10_code
def yX3_readPawn : MethodName := ⟨RX3, "readPawn", "(LWidowRow$Tokens;)Z"⟩
abbrev cX3_widowHere : ByteArray := prog_5_method_11_code
def yX3_widowHere : MethodName := ⟨RX3, "widowHere", "(LWidowRow$Tokens;)I"⟩
abbrev cX3_widowNamed : ByteArray := prog_5_method_12_code
def yX3_widowNamed : MethodName := ⟨RX3, "widowNamed", "(J)I"⟩
abbrev cX3_stoneWith : ByteArray := prog_5_method_13_code
def yX3_stoneWith : MethodName := ⟨RX3, "stoneWith", "(II)I"⟩
abbrev cX3_together : ByteArray := prog_5_method_14_code
def yX3_together : MethodName := ⟨RX3, "together", "(I)I"⟩
abbrev cX3_isForgiven : ByteArray := prog_5_method_15_code
def yX3_isForgiven : MethodName := ⟨RX3, "isForgiven", "(I)Z"⟩
abbrev cX3_areAngry : ByteArray := prog_5_method_16_code
def yX3_areAngry : MethodName := ⟨RX3, "areAngry", "(II)Z"⟩
abbrev cX3_findFitting : ByteArray := prog_5_method_17_code
def yX3_findFitting : MethodName := ⟨RX3, "findFitting", "()V"⟩
abbrev cX3_fit : ByteArray := prog_5_method_18_code
def yX3_fit : MethodName := ⟨RX3, "fit", "(II)Z"⟩
def RX4 : String := "WidowRow$Match"
def TX4 : u_T := fun k => match k with
  | 0 => ("WidowRow$Match", "row", "LWidowRow$Row;", true)
  | 1 => ("WidowRow$Match", "island", "LWidowRow$Island;", true)
  | 2 => ("WidowRow$Match", "table", "[J", true)
  | 3 => ("WidowRow$Match", "hand", "[I", true)
  | 4 => ("WidowRow$Match", "size", "I", false)
  | 5 => ("WidowRow$Match", "handOfA", "I", false)
  | 6 => ("WidowRow$Match", "handOfB", "I", false)
  | _ => ("WidowRow$Match", "best", "I", false)
def tyX4 : Nat → FieldType := fun k => match k with
  | 0 => .object "WidowRow$Row"
  | 1 => .object "WidowRow$Island"
  | 2 => .array .long
  | 3 => .array .int
  | 4 => .int
  | 5 => .int
  | 6 => .int
  | _ => .int
theorem nmX4 : ∀ a, a < 8 → ∀ b, b < 8 → a ≠ b → (TX4 a).2.1 ≠ (TX4 b).2.1 := by decide +kernel
theorem tyX4_ok : ∀ k, k < 8 → parseFieldDescriptor (TX4 k).2.2.1 = some (tyX4 k) := by decide +kernel
abbrev cX4_init : ByteArray := prog_6_method_1_code
def yX4_init : MethodName := ⟨RX4, "<init>", "(LWidowRow$Row;[J)V"⟩
abbrev cX4_judge : ByteArray := prog_6_method_2_code
def yX4_judge : MethodName := ⟨RX4, "judge", "(II)I"⟩
abbrev cX4_gather : ByteArray := prog_6_method_3_code
def yX4_gather : MethodName := ⟨RX4, "gather", "(II)Z"⟩
abbrev cX4_value : ByteArray := prog_6_method_4_code
def yX4_value : MethodName := ⟨RX4, "value", "(IIIII)I"⟩
abbrev cX4_reckon : ByteArray := prog_6_method_5_code
def yX4_reckon : MethodName := ⟨RX4, "reckon", "(IIIII)I"⟩
abbrev cX4_valueBehind : ByteArray := prog_6_method_6_code
def yX4_valueBehind : MethodName := ⟨RX4, "valueBehind", "(IIIIII)I"⟩
abbrev cX4_outerOf : ByteArray := prog_6_method_7_code
def yX4_outerOf : MethodName := ⟨RX4, "outerOf", "(II)I"⟩
abbrev cX4_canLay : ByteArray := prog_6_method_8_code
def yX4_canLay : MethodName := ⟨RX4, "canLay", "(III)Z"⟩
abbrev cX4_pipsOf : ByteArray := prog_6_method_9_code
def yX4_pipsOf : MethodName := ⟨RX4, "pipsOf", "(I)I"⟩
def RX5 : String := "WidowRow$Memory"
def TX5 : u_T := fun k => match k with
  | 0 => ("WidowRow$Memory", "lines", "I", false)
  | 1 => ("WidowRow$Memory", "told", "I", false)
  | 2 => ("WidowRow$Memory", "dealt", "[I", true)
  | 3 => ("WidowRow$Memory", "seen", "I", false)
  | _ => ("WidowRow$Memory", "passed", "[I", true)
def tyX5 : Nat → FieldType := fun k => match k with
  | 0 => .int
  | 1 => .int
  | 2 => .array .int
  | 3 => .int
  | _ => .array .int
theorem nmX5 : ∀ a, a < 5 → ∀ b, b < 5 → a ≠ b → (TX5 a).2.1 ≠ (TX5 b).2.1 := by decide +kernel
theorem tyX5_ok : ∀ k, k < 5 → parseFieldDescriptor (TX5 k).2.2.1 = some (tyX5 k) := by decide +kernel
abbrev cX5_init : ByteArray := prog_7_method_1_code
def yX5_init : MethodName := ⟨RX5, "<init>", "()V"⟩
abbrev cX5_clear : ByteArray := prog_7_method_2_code
def yX5_clear : MethodName := ⟨RX5, "clear", "()V"⟩
abbrev cX5_copyFrom : ByteArray := prog_7_method_3_code
def yX5_copyFrom : MethodName := ⟨RX5, "copyFrom", "(LWidowRow$Memory;)V"⟩
abbrev cX5_hasSeen : ByteArray := prog_7_method_4_code
def yX5_hasSeen : MethodName := ⟨RX5, "hasSeen", "(I)Z"⟩
abbrev cX5_readAll : ByteArray := prog_7_method_5_code
def yX5_readAll : MethodName := ⟨RX5, "readAll", "(LWidowRow$Tokens;LWidowRow$Island;)Z"⟩
abbrev cX5_readLine : ByteArray := prog_7_method_6_code
def yX5_readLine : MethodName := ⟨RX5, "readLine", "(LWidowRow$Tokens;LWidowRow$Island;)Z"⟩
abbrev cX5_readDeal : ByteArray := prog_7_method_7_code
def yX5_readDeal : MethodName := ⟨RX5, "readDeal", "(LWidowRow$Tokens;LWidowRow$Island;)Z"⟩
abbrev cX5_readSeen : ByteArray := prog_7_method_8_code
def yX5_readSeen : MethodName := ⟨RX5, "readSeen", "(LWidowRow$Tokens;LWidowRow$Island;)Z"⟩
abbrev cX5_readPassed : ByteArray := prog_7_method_9_code
def yX5_readPassed : MethodName := ⟨RX5, "readPassed", "(LWidowRow$Tokens;LWidowRow$Island;)Z"⟩
def RX6 : String := "WidowRow$Round"
def TX6 : u_T := fun k => match k with
  | 0 => ("WidowRow$Round", "row", "LWidowRow$Row;", true)
  | 1 => ("WidowRow$Round", "island", "LWidowRow$Island;", true)
  | 2 => ("WidowRow$Round", "table", "[J", true)
  | 3 => ("WidowRow$Round", "hand", "[I", true)
  | 4 => ("WidowRow$Round", "size", "I", false)
  | 5 => ("WidowRow$Round", "handOf", "[I", true)
  | 6 => ("WidowRow$Round", "outside", "[I", true)
  | 7 => ("WidowRow$Round", "layer", "[I", true)
  | 8 => ("WidowRow$Round", "trail", "[I", true)
  | 9 => ("WidowRow$Round", "most", "I", false)
  | 10 => ("WidowRow$Round", "cut", "Z", false)
  | 11 => ("WidowRow$Round", "path", "[I", true)
  | _ => ("WidowRow$Round", "length", "I", false)
def tyX6 : Nat → FieldType := fun k => match k with
  | 0 => .object "WidowRow$Row"
  | 1 => .object "WidowRow$Island"
  | 2 => .array .long
  | 3 => .array .int
  | 4 => .int
  | 5 => .array .int
  | 6 => .array .int
  | 7 => .array .int
  | 8 => .array .int
  | 9 => .int
  | 10 => .boolean
  | 11 => .array .int
  | _ => .int
theorem nmX6 : ∀ a, a < 13 → ∀ b, b < 13 → a ≠ b → (TX6 a).2.1 ≠ (TX6 b).2.1 := by decide +kernel
theorem tyX6_ok : ∀ k, k < 13 → parseFieldDescriptor (TX6 k).2.2.1 = some (tyX6 k) := by decide +kernel
abbrev cX6_init : ByteArray := prog_8_method_1_code
def yX6_init : MethodName := ⟨RX6, "<init>", "(LWidowRow$Row;[J)V"⟩
abbrev cX6_findFewest : ByteArray := prog_8_method_2_code
def yX6_findFewest : MethodName := ⟨RX6, "findFewest", "()I"⟩
abbrev cX6_prepare : ByteArray := prog_8_method_3_code
def yX6_prepare : MethodName := ⟨RX6, "prepare", "()V"⟩
abbrev cX6_missing : ByteArray := prog_8_method_4_code
def yX6_missing : MethodName := ⟨RX6, "missing", "(I)I"⟩
abbrev cX6_search : ByteArray := prog_8_method_5_code
def yX6_search : MethodName := ⟨RX6, "search", "(IIII)Z"⟩
abbrev cX6_searchBehind : ByteArray := prog_8_method_6_code
def yX6_searchBehind : MethodName := ⟨RX6, "searchBehind", "(IIIII)Z"⟩
abbrev cX6_laidOn : ByteArray := prog_8_method_7_code
def yX6_laidOn : MethodName := ⟨RX6, "laidOn", "(II)I"⟩
abbrev cX6_placeOf : ByteArray := prog_8_method_8_code
def yX6_placeOf : MethodName := ⟨RX6, "placeOf", "(III)I"⟩
abbrev cX6_enter : ByteArray := prog_8_method_9_code
def yX6_enter : MethodName := ⟨RX6, "enter", "(I)Z"⟩
def RX7 : String := "WidowRow$Row"
def TX7 : u_T := fun k => match k with
  | 0 => ("WidowRow$Row", "island", "LWidowRow$Island;", true)
  | 1 => ("WidowRow$Row", "owner", "[I", true)
  | 2 => ("WidowRow$Row", "where", "[I", true)
  | 3 => ("WidowRow$Row", "line", "[I", true)
  | 4 => ("WidowRow$Row", "length", "I", false)
  | 5 => ("WidowRow$Row", "turned", "[I", true)
  | 6 => ("WidowRow$Row", "paid", "[I", true)
  | _ => ("WidowRow$Row", "had", "[I", true)
def tyX7 : Nat → FieldType := fun k => match k with
  | 0 => .object "WidowRow$Island"
  | 1 => .array .int
  | 2 => .array .int
  | 3 => .array .int
  | 4 => .int
  | 5 => .array .int
  | 6 => .array .int
  | _ => .array .int
theorem nmX7 : ∀ a, a < 8 → ∀ b, b < 8 → a ≠ b → (TX7 a).2.1 ≠ (TX7 b).2.1 := by decide +kernel
theorem tyX7_ok : ∀ k, k < 8 → parseFieldDescriptor (TX7 k).2.2.1 = some (tyX7 k) := by decide +kernel
abbrev cX7_init : ByteArray := prog_9_method_1_code
def yX7_init : MethodName := ⟨RX7, "<init>", "(LWidowRow$Island;)V"⟩
abbrev cX7_begin : ByteArray := prog_9_method_2_code
def yX7_begin : MethodName := ⟨RX7, "begin", "()V"⟩
abbrev cX7_copyFrom : ByteArray := prog_9_method_3_code
def yX7_copyFrom : MethodName := ⟨RX7, "copyFrom", "(LWidowRow$Row;)V"⟩
abbrev cX7_placeOf : ByteArray := prog_9_method_4_code
def yX7_placeOf : MethodName := ⟨RX7, "placeOf", "(I)I"⟩
abbrev cX7_owned : ByteArray := prog_9_method_5_code
def yX7_owned : MethodName := ⟨RX7, "owned", "(II)I"⟩
abbrev cX7_pipsInHand : ByteArray := prog_9_method_6_code
def yX7_pipsInHand : MethodName := ⟨RX7, "pipsInHand", "(I)I"⟩
abbrev cX7_isHeldBy : ByteArray := prog_9_method_7_code
def yX7_isHeldBy : MethodName := ⟨RX7, "isHeldBy", "(II)Z"⟩
abbrev cX7_lastAt : ByteArray := prog_9_method_8_code
def yX7_lastAt : MethodName := ⟨RX7, "lastAt", "(I)I"⟩
abbrev cX7_layerAt : ByteArray := prog_9_method_9_code
def yX7_layerAt : MethodName := ⟨RX7, "layerAt", "(I)I"⟩
abbrev cX7_sideOf : ByteArray := prog_9_method_10_code
def yX7_sideOf : MethodName := ⟨RX7, "sideOf", "(II)I"⟩
abbrev cX7_outer : ByteArray := prog_9_method_11_code
def yX7_outer : MethodName := ⟨RX7, "outer", "(I)I"⟩
abbrev cX7_joined : ByteArray := prog_9_method_12_code
def yX7_joined : MethodName := ⟨RX7, "joined", "(I)Z"⟩
abbrev cX7_goesTo : ByteArray := prog_9_method_13_code
def yX7_goesTo : MethodName := ⟨RX7, "goesTo", "(II)Z"⟩
abbrev cX7_refusal : ByteArray := prog_9_method_14_code
def yX7_refusal : MethodName := ⟨RX7, "refusal", "(III)I"⟩
abbrev cX7_hasFor : ByteArray := prog_9_method_15_code
def yX7_hasFor : MethodName := ⟨RX7, "hasFor", "(II)Z"⟩
abbrev cX7_put : ByteArray := prog_9_method_16_code
def yX7_put : MethodName := ⟨RX7, "put", "(II)V"⟩
abbrev cX7_shiftRight : ByteArray := prog_9_method_17_code
def yX7_shiftRight : MethodName := ⟨RX7, "shiftRight", "()V"⟩
abbrev cX7_takeOff : ByteArray := prog_9_method_18_code
def yX7_takeOff : MethodName := ⟨RX7, "takeOff", "(I)I"⟩
abbrev cX7_turnLast : ByteArray := prog_9_method_19_code
def yX7_turnLast : MethodName := ⟨RX7, "turnLast", "()V"⟩
abbrev cX7_bequeath : ByteArray := prog_9_method_20_code
def yX7_bequeath : MethodName := ⟨RX7, "bequeath", "(II)I"⟩
abbrev cX7_putFirst : ByteArray := prog_9_method_21_code
def yX7_putFirst : MethodName := ⟨RX7, "putFirst", "()Z"⟩
abbrev cX7_heldAt : ByteArray := prog_9_method_22_code
def yX7_heldAt : MethodName := ⟨RX7, "heldAt", "(II)I"⟩
abbrev cX7_gather : ByteArray := prog_9_method_23_code
def yX7_gather : MethodName := ⟨RX7, "gather", "([I)I"⟩
def RX8 : String := "WidowRow$Sentence"
def TX8 : u_T := fun k => match k with
  | 0 => ("WidowRow$Sentence", "ones", "I", false)
  | 1 => ("WidowRow$Sentence", "size", "I", false)
  | 2 => ("WidowRow$Sentence", "part", "[I", true)
  | 3 => ("WidowRow$Sentence", "sign", "[I", true)
  | 4 => ("WidowRow$Sentence", "number", "[I", true)
  | _ => ("WidowRow$Sentence", "stack", "[I", true)
def tyX8 : Nat → FieldType := fun k => match k with
  | 0 => .int
  | 1 => .int
  | 2 => .array .int
  | 3 => .array .int
  | 4 => .array .int
  | _ => .array .int
theorem nmX8 : ∀ a, a < 6 → ∀ b, b < 6 → a ≠ b → (TX8 a).2.1 ≠ (TX8 b).2.1 := by decide +kernel
theorem tyX8_ok : ∀ k, k < 6 → parseFieldDescriptor (TX8 k).2.2.1 = some (tyX8 k) := by decide +kernel
abbrev cX8_init : ByteArray := prog_10_method_1_code
def yX8_init : MethodName := ⟨RX8, "<init>", "()V"⟩
abbrev cX8_clear : ByteArray := prog_10_method_2_code
def yX8_clear : MethodName := ⟨RX8, "clear", "()V"⟩
abbrev cX8_copyFrom : ByteArray := prog_10_method_3_code
def yX8_copyFrom : MethodName := ⟨RX8, "copyFrom", "(LWidowRow$Sentence;)V"⟩
abbrev cX8_readAll : ByteArray := prog_10_method_4_code
def yX8_readAll : MethodName := ⟨RX8, "readAll", "(LWidowRow$Tokens;LWidowRow$Island;)Z"⟩
abbrev cX8_readEither : ByteArray := prog_10_method_5_code
def yX8_readEither : MethodName := ⟨RX8, "readEither", "(LWidowRow$Tokens;LWidowRow$Island;I)Z"⟩
abbrev cX8_readBoth : ByteArray := prog_10_method_6_code
def yX8_readBoth : MethodName := ⟨RX8, "readBoth", "(LWidowRow$Tokens;LWidowRow$Island;I)Z"⟩
abbrev cX8_readOne : ByteArray := prog_10_method_7_code
def yX8_readOne : MethodName := ⟨RX8, "readOne", "(LWidowRow$Tokens;LWidowRow$Island;I)Z"⟩
abbrev cX8_readOf : ByteArray := prog_10_method_8_code
def yX8_readOf : MethodName := ⟨RX8, "readOf", "(LWidowRow$Tokens;LWidowRow$Island;)Z"⟩
abbrev cX8_readMeasure : ByteArray := prog_10_method_9_code
def yX8_readMeasure : MethodName := ⟨RX8, "readMeasure", "(LWidowRow$Tokens;I)Z"⟩
abbrev cX8_add : ByteArray := prog_10_method_10_code
def yX8_add : MethodName := ⟨RX8, "add", "(III)Z"⟩
abbrev cX8_trueOf : ByteArray := prog_10_method_11_code
def yX8_trueOf : MethodName := ⟨RX8, "trueOf", "(LWidowRow$Row;)I"⟩
abbrev cX8_trueOfPart : ByteArray := prog_10_method_12_code
def yX8_trueOfPart : MethodName := ⟨RX8, "trueOfPart", "(LWidowRow$Row;I)I"⟩
abbrev cX8_isTrue : ByteArray := prog_10_method_13_code
def yX8_isTrue : MethodName := ⟨RX8, "isTrue", "(LWidowRow$Row;II)Z"⟩
abbrev cX8_isAsTold : ByteArray := prog_10_method_14_code
def yX8_isAsTold : MethodName := ⟨RX8, "isAsTold", "(II)Z"⟩
def RX9 : String := "WidowRow$Tokens"
def TX9 : u_T := fun k => match k with
  | 0 => ("WidowRow$Tokens", "bytes", "[B", true)
  | 1 => ("WidowRow$Tokens", "length", "I", false)
  | 2 => ("WidowRow$Tokens", "limit", "I", false)
  | 3 => ("WidowRow$Tokens", "next", "I", false)
  | 4 => ("WidowRow$Tokens", "kind", "I", false)
  | 5 => ("WidowRow$Tokens", "from", "I", false)
  | 6 => ("WidowRow$Tokens", "key", "I", false)
  | 7 => ("WidowRow$Tokens", "name", "J", false)
  | 8 => ("WidowRow$Tokens", "number", "I", false)
  | 9 => ("WidowRow$Tokens", "sign", "I", false)
  | 10 => ("WidowRow$Tokens", "one", "I", false)
  | 11 => ("WidowRow$Tokens", "two", "I", false)
  | 12 => ("WidowRow$Tokens", "fault", "I", false)
  | _ => ("WidowRow$Tokens", "place", "I", false)
def tyX9 : Nat → FieldType := fun k => match k with
  | 0 => .array .byte
  | 1 => .int
  | 2 => .int
  | 3 => .int
  | 4 => .int
  | 5 => .int
  | 6 => .int
  | 7 => .long
  | 8 => .int
  | 9 => .int
  | 10 => .int
  | 11 => .int
  | 12 => .int
  | _ => .int
theorem nmX9 : ∀ a, a < 14 → ∀ b, b < 14 → a ≠ b → (TX9 a).2.1 ≠ (TX9 b).2.1 := by decide +kernel
theorem tyX9_ok : ∀ k, k < 14 → parseFieldDescriptor (TX9 k).2.2.1 = some (tyX9 k) := by decide +kernel
abbrev cX9_init : ByteArray := prog_11_method_1_code
def yX9_init : MethodName := ⟨RX9, "<init>", "([B)V"⟩
abbrev cX9_begin : ByteArray := prog_11_method_2_code
def yX9_begin : MethodName := ⟨RX9, "begin", "(II)V"⟩
abbrev cX9_step : ByteArray := prog_11_method_3_code
def yX9_step : MethodName := ⟨RX9, "step", "()V"⟩
abbrev cX9_readSign : ByteArray := prog_11_method_4_code
def yX9_readSign : MethodName := ⟨RX9, "readSign", "()V"⟩
abbrev cX9_readRun : ByteArray := prog_11_method_5_code
def yX9_readRun : MethodName := ⟨RX9, "readRun", "()V"⟩
abbrev cX9_keyHere : ByteArray := prog_11_method_6_code
def yX9_keyHere : MethodName := ⟨RX9, "keyHere", "()I"⟩
abbrev cX9_fail : ByteArray := prog_11_method_7_code
def yX9_fail : MethodName := ⟨RX9, "fail", "(I)Z"⟩
abbrev cX9_isName : ByteArray := prog_11_method_8_code
def yX9_isName : MethodName := ⟨RX9, "isName", "()Z"⟩
abbrev cX9_isSign : ByteArray := prog_11_method_9_code
def yX9_isSign : MethodName := ⟨RX9, "isSign", "(C)Z"⟩
abbrev cX9_passes : ByteArray := prog_11_method_10_code
def yX9_passes : MethodName := ⟨RX9, "passes", "(C)Z"⟩
abbrev cX9_numberTo : ByteArray := prog_11_method_11_code
def yX9_numberTo : MethodName := ⟨RX9, "numberTo", "(I)I"⟩
abbrev cX9_readTwoPips : ByteArray := prog_11_method_12_code
def yX9_readTwoPips : MethodName := ⟨RX9, "readTwoPips", "()Z"⟩
def RX10 : String := "WidowRow$World"
def TX10 : u_T := fun k => match k with
  | 0 => ("WidowRow$World", "island", "LWidowRow$Island;", true)
  | 1 => ("WidowRow$World", "row", "LWidowRow$Row;", true)
  | 2 => ("WidowRow$World", "memory", "LWidowRow$Memory;", true)
  | 3 => ("WidowRow$World", "sentence", "LWidowRow$Sentence;", true)
  | _ => ("WidowRow$World", "kept", "Z", false)
def tyX10 : Nat → FieldType := fun k => match k with
  | 0 => .object "WidowRow$Island"
  | 1 => .object "WidowRow$Row"
  | 2 => .object "WidowRow$Memory"
  | 3 => .object "WidowRow$Sentence"
  | _ => .boolean
theorem nmX10 : ∀ a, a < 5 → ∀ b, b < 5 → a ≠ b → (TX10 a).2.1 ≠ (TX10 b).2.1 := by decide +kernel
theorem tyX10_ok : ∀ k, k < 5 → parseFieldDescriptor (TX10 k).2.2.1 = some (tyX10 k) := by decide +kernel
abbrev cX10_init : ByteArray := prog_12_method_1_code
def yX10_init : MethodName := ⟨RX10, "<init>", "()V"⟩
abbrev cX10_copyFrom : ByteArray := prog_12_method_2_code
def yX10_copyFrom : MethodName := ⟨RX10, "copyFrom", "(LWidowRow$World;)V"⟩
abbrev cX10_settle : ByteArray := prog_12_method_3_code
def yX10_settle : MethodName := ⟨RX10, "settle", "(LWidowRow$Island;)V"⟩
def RX11 : String := "WidowRow"
def TX11 : u_T := fun k => match k with
  | 0 => ("WidowRow", "tape", "[B", true)
  | 1 => ("WidowRow", "tapeLength", "I", false)
  | 2 => ("WidowRow", "tokens", "LWidowRow$Tokens;", true)
  | 3 => ("WidowRow", "now", "LWidowRow$World;", true)
  | 4 => ("WidowRow", "fresh", "LWidowRow$World;", true)
  | 5 => ("WidowRow", "image0", "LWidowRow$World;", true)
  | 6 => ("WidowRow", "image1", "LWidowRow$World;", true)
  | 7 => ("WidowRow", "past", "[LWidowRow$Row;", true)
  | 8 => ("WidowRow", "pastCount", "I", false)
  | 9 => ("WidowRow", "pastNext", "I", false)
  | 10 => ("WidowRow", "trial", "LWidowRow$Row;", true)
  | 11 => ("WidowRow", "table", "[J", true)
  | 12 => ("WidowRow", "chain", "LWidowRow$Chain;", true)
  | 13 => ("WidowRow", "round", "LWidowRow$Round;", true)
  | 14 => ("WidowRow", "match", "LWidowRow$Match;", true)
  | 15 => ("WidowRow", "dealer", "LWidowRow$Dealer;", true)
  | 16 => ("WidowRow", "calendar", "LWidowRow$Days;", true)
  | 17 => ("WidowRow", "text", "[B", true)
  | _ => ("WidowRow", "textLength", "I", false)
def tyX11 : Nat → FieldType := fun k => match k with
  | 0 => .array .byte
  | 1 => .int
  | 2 => .object "WidowRow$Tokens"
  | 3 => .object "WidowRow$World"
  | 4 => .object "WidowRow$World"
  | 5 => .object "WidowRow$World"
  | 6 => .object "WidowRow$World"
  | 7 => .array (.object "WidowRow$Row")
  | 8 => .int
  | 9 => .int
  | 10 => .object "WidowRow$Row"
  | 11 => .array .long
  | 12 => .object "WidowRow$Chain"
  | 13 => .object "WidowRow$Round"
  | 14 => .object "WidowRow$Match"
  | 15 => .object "WidowRow$Dealer"
  | 16 => .object "WidowRow$Days"
  | 17 => .array .byte
  | _ => .int
theorem nmX11 : ∀ a, a < 19 → ∀ b, b < 19 → a ≠ b → (TX11 a).2.1 ≠ (TX11 b).2.1 := by decide +kernel
theorem tyX11_ok : ∀ k, k < 19 → parseFieldDescriptor (TX11 k).2.2.1 = some (tyX11 k) := by decide +kernel
abbrev cX11_init : ByteArray := prog_1_method_1_code
def yX11_init : MethodName := ⟨RX11, "<init>", "()V"⟩
abbrev cX11_feed : ByteArray := prog_1_method_2_code
def yX11_feed : MethodName := ⟨RX11, "feed", "(IIIII)I"⟩
abbrev cX11_feedFour : ByteArray := prog_1_method_3_code
def yX11_feedFour : MethodName := ⟨RX11, "feedFour", "(I)V"⟩
abbrev cX11_end : ByteArray := prog_1_method_4_code
def yX11_end : MethodName := ⟨RX11, "end", "(I)Z"⟩
abbrev cX11_island : ByteArray := prog_1_method_5_code
def yX11_island : MethodName := ⟨RX11, "island", "()I"⟩
abbrev cX11_fault : ByteArray := prog_1_method_6_code
def yX11_fault : MethodName := ⟨RX11, "fault", "()I"⟩
abbrev cX11_stone : ByteArray := prog_1_method_7_code
def yX11_stone : MethodName := ⟨RX11, "stone", "(II)I"⟩
abbrev cX11_find : ByteArray := prog_1_method_8_code
def yX11_find : MethodName := ⟨RX11, "find", "(II)I"⟩
abbrev cX11_widow : ByteArray := prog_1_method_9_code
def yX11_widow : MethodName := ⟨RX11, "widow", "(II)I"⟩
abbrev cX11_fits : ByteArray := prog_1_method_10_code
def yX11_fits : MethodName := ⟨RX11, "fits", "(II)I"⟩
abbrev cX11_at : ByteArray := prog_1_method_11_code
def yX11_at : MethodName := ⟨RX11, "at", "(I)I"⟩
abbrev cX11_pips : ByteArray := prog_1_method_12_code
def yX11_pips : MethodName := ⟨RX11, "pips", "(I)I"⟩
abbrev cX11_why : ByteArray := prog_1_method_13_code
def yX11_why : MethodName := ⟨RX11, "why", "(III)I"⟩
abbrev cX11_lay : ByteArray := prog_1_method_14_code
def yX11_lay : MethodName := ⟨RX11, "lay", "(III)I"⟩
abbrev cX11_cat : ByteArray := prog_1_method_15_code
def yX11_cat : MethodName := ⟨RX11, "cat", "(I)I"⟩
abbrev cX11_tide : ByteArray := prog_1_method_16_code
def yX11_tide : MethodName := ⟨RX11, "tide", "()I"⟩
abbrev cX11_pawn : ByteArray := prog_1_method_17_code
def yX11_pawn : MethodName := ⟨RX11, "pawn", "(I)I"⟩
abbrev cX11_redeem : ByteArray := prog_1_method_18_code
def yX11_redeem : MethodName := ⟨RX11, "redeem", "(I)Z"⟩
abbrev cX11_will : ByteArray := prog_1_method_19_code
def yX11_will : MethodName := ⟨RX11, "will", "(II)I"⟩
abbrev cX11_undo : ByteArray := prog_1_method_20_code
def yX11_undo : MethodName := ⟨RX11, "undo", "()I"⟩
abbrev cX11_keepPast : ByteArray := prog_1_method_21_code
def yX11_keepPast : MethodName := ⟨RX11, "keepPast", "()V"⟩
abbrev cX11_visits : ByteArray := prog_1_method_22_code
def yX11_visits : MethodName := ⟨RX11, "visits", "(I)I"⟩
abbrev cX11_able : ByteArray := prog_1_method_23_code
def yX11_able : MethodName := ⟨RX11, "able", "(I)I"⟩
abbrev cX11_longest : ByteArray := prog_1_method_24_code
def yX11_longest : MethodName := ⟨RX11, "longest", "()I"⟩
abbrev cX11_longAt : ByteArray := prog_1_method_25_code
def yX11_longAt : MethodName := ⟨RX11, "longAt", "(I)I"⟩
abbrev cX11_all : ByteArray := prog_1_method_26_code
def yX11_all : MethodName := ⟨RX11, "all", "()I"⟩
abbrev cX11_allAt : ByteArray := prog_1_method_27_code
def yX11_allAt : MethodName := ⟨RX11, "allAt", "(I)I"⟩
abbrev cX11_game : ByteArray := prog_1_method_28_code
def yX11_game : MethodName := ⟨RX11, "game", "(II)I"⟩
abbrev cX11_first : ByteArray := prog_1_method_29_code
def yX11_first : MethodName := ⟨RX11, "first", "()I"⟩
abbrev cX11_open : ByteArray := prog_1_method_30_code
def yX11_open : MethodName := ⟨RX11, "open", "(I)I"⟩
abbrev cX11_stretch : ByteArray := prog_1_method_31_code
def yX11_stretch : MethodName := ⟨RX11, "stretch", "()I"⟩
abbrev cX11_leads : ByteArray := prog_1_method_32_code
def yX11_leads : MethodName := ⟨RX11, "leads", "(II)I"⟩
abbrev cX11_dearest : ByteArray := prog_1_method_33_code
def yX11_dearest : MethodName := ⟨RX11, "dearest", "()I"⟩
abbrev cX11_counts : ByteArray := prog_1_method_34_code
def yX11_counts : MethodName := ⟨RX11, "counts", "(II)I"⟩
abbrev cX11_greedy : ByteArray := prog_1_method_35_code
def yX11_greedy : MethodName := ⟨RX11, "greedy", "()I"⟩
abbrev cX11_memory : ByteArray := prog_1_method_36_code
def yX11_memory : MethodName := ⟨RX11, "memory", "()I"⟩
abbrev cX11_dealings : ByteArray := prog_1_method_37_code
def yX11_dealings : MethodName := ⟨RX11, "dealings", "()J"⟩
abbrev cX11_whose : ByteArray := prog_1_method_38_code
def yX11_whose : MethodName := ⟨RX11, "whose", "(II)J"⟩
abbrev cX11_sure : ByteArray := prog_1_method_39_code
def yX11_sure : MethodName := ⟨RX11, "sure", "(I)I"⟩
abbrev cX11_days : ByteArray := prog_1_method_40_code
def yX11_days : MethodName := ⟨RX11, "days", "(II)I"⟩
abbrev cX11_drawn : ByteArray := prog_1_method_41_code
def yX11_drawn : MethodName := ⟨RX11, "drawn", "(I)I"⟩
abbrev cX11_write : ByteArray := prog_1_method_42_code
def yX11_write : MethodName := ⟨RX11, "write", "()I"⟩
abbrev cX11_writePips : ByteArray := prog_1_method_43_code
def yX11_writePips : MethodName := ⟨RX11, "writePips", "(I)V"⟩
abbrev cX11_writeByte : ByteArray := prog_1_method_44_code
def yX11_writeByte : MethodName := ⟨RX11, "writeByte", "(I)V"⟩
abbrev cX11_byteAt : ByteArray := prog_1_method_45_code
def yX11_byteAt : MethodName := ⟨RX11, "byteAt", "(I)I"⟩
abbrev cX11_gaps : ByteArray := prog_1_method_46_code
def yX11_gaps : MethodName := ⟨RX11, "gaps", "(I)I"⟩
abbrev cX11_sentence : ByteArray := prog_1_method_47_code
def yX11_sentence : MethodName := ⟨RX11, "sentence", "()I"⟩
abbrev cX11_said : ByteArray := prog_1_method_48_code
def yX11_said : MethodName := ⟨RX11, "said", "(I)I"⟩
abbrev cX11_image : ByteArray := prog_1_method_49_code
def yX11_image : MethodName := ⟨RX11, "image", "(I)Z"⟩
abbrev cX11_restore : ByteArray := prog_1_method_50_code
def yX11_restore : MethodName := ⟨RX11, "restore", "(I)Z"⟩
abbrev cX11_count : ByteArray := prog_1_method_51_code
def yX11_count : MethodName := ⟨RX11, "count", "(I)I"⟩
abbrev cX11_takeTape : ByteArray := prog_1_method_52_code
def yX11_takeTape : MethodName := ⟨RX11, "takeTape", "(I)V"⟩
abbrev cX11_isStone : ByteArray := prog_1_method_53_code
def yX11_isStone : MethodName := ⟨RX11, "isStone", "(I)Z"⟩
abbrev cX11_isWidow : ByteArray := prog_1_method_54_code
def yX11_isWidow : MethodName := ⟨RX11, "isWidow", "(I)Z"⟩
abbrev cX11_isEnd : ByteArray := prog_1_method_55_code
def yX11_isEnd : MethodName := ⟨RX11, "isEnd", "(I)Z"⟩
abbrev cX11_isPlace : ByteArray := prog_1_method_56_code
def yX11_isPlace : MethodName := ⟨RX11, "isPlace", "(I)Z"⟩
abbrev cX11_isPips : ByteArray := prog_1_method_57_code
def yX11_isPips : MethodName := ⟨RX11, "isPips", "(I)Z"⟩
def RX12 : String := "WidowRowModel"
def TX12 : u_T := fun k => match k with
  | 0 => ("WidowRowModel", "thrown", "I", false)
  | 1 => ("WidowRowModel", "tape", "[I", true)
  | 2 => ("WidowRowModel", "taped", "I", false)
  | 3 => ("WidowRowModel", "size", "I", false)
  | 4 => ("WidowRowModel", "limit", "I", false)
  | 5 => ("WidowRowModel", "to", "I", false)
  | 6 => ("WidowRowModel", "from", "I", false)
  | 7 => ("WidowRowModel", "kind", "I", false)
  | 8 => ("WidowRowModel", "number", "I", false)
  | 9 => ("WidowRowModel", "sign", "I", false)
  | 10 => ("WidowRowModel", "fault", "I", false)
  | 11 => ("WidowRowModel", "place", "I", false)
  | 12 => ("WidowRowModel", "word", "J", false)
  | 13 => ("WidowRowModel", "told", "I", false)
  | 14 => ("WidowRowModel", "now", "[I", true)
  | 15 => ("WidowRowModel", "read", "[I", true)
  | 16 => ("WidowRowModel", "kept", "[I", true)
  | 17 => ("WidowRowModel", "snaps", "[I", true)
  | 18 => ("WidowRowModel", "name", "[J", true)
  | 19 => ("WidowRowModel", "readName", "[J", true)
  | 20 => ("WidowRowModel", "keptName", "[J", true)
  | 21 => ("WidowRowModel", "isKept", "[Z", true)
  | 22 => ("WidowRowModel", "snapMany", "I", false)
  | 23 => ("WidowRowModel", "isBegun", "Z", false)
  | 24 => ("WidowRowModel", "hasPawn", "Z", false)
  | 25 => ("WidowRowModel", "hand", "[I", true)
  | 26 => ("WidowRowModel", "more", "[I", true)
  | 27 => ("WidowRowModel", "longRow", "[I", true)
  | 28 => ("WidowRowModel", "longMany", "I", false)
  | 29 => ("WidowRowModel", "queue", "[I", true)
  | 30 => ("WidowRowModel", "fewest", "[I", true)
  | 31 => ("WidowRowModel", "allRow", "[I", true)
  | 32 => ("WidowRowModel", "allMany", "I", false)
  | 33 => ("WidowRowModel", "goalSet", "I", false)
  | 34 => ("WidowRowModel", "gameA", "I", false)
  | 35 => ("WidowRowModel", "gameB", "I", false)
  | 36 => ("WidowRowModel", "gameFirst", "I", false)
  | 37 => ("WidowRowModel", "aside", "[I", true)
  | 38 => ("WidowRowModel", "text", "[I", true)
  | 39 => ("WidowRowModel", "texted", "I", false)
  | 40 => ("WidowRowModel", "line", "[I", true)
  | 41 => ("WidowRowModel", "dealt", "I", false)
  | 42 => ("WidowRowModel", "ways", "[J", true)
  | 43 => ("WidowRowModel", "waysNext", "[J", true)
  | 44 => ("WidowRowModel", "scale", "[I", true)
  | 45 => ("WidowRowModel", "seed", "I", false)
  | 46 => ("WidowRowModel", "drawn", "[I", true)
  | 47 => ("WidowRowModel", "node", "[I", true)
  | 48 => ("WidowRowModel", "nodes", "I", false)
  | 49 => ("WidowRowModel", "onesMany", "I", false)
  | 50 => ("WidowRowModel", "within", "I", false)
  | _ => ("WidowRowModel", "top", "I", false)
def tyX12 : Nat → FieldType := fun k => match k with
  | 0 => .int
  | 1 => .array .int
  | 2 => .int
  | 3 => .int
  | 4 => .int
  | 5 => .int
  | 6 => .int
  | 7 => .int
  | 8 => .int
  | 9 => .int
  | 10 => .int
  | 11 => .int
  | 12 => .long
  | 13 => .int
  | 14 => .array .int
  | 15 => .array .int
  | 16 => .array .int
  | 17 => .array .int
  | 18 => .array .long
  | 19 => .array .long
  | 20 => .array .long
  | 21 => .array .boolean
  | 22 => .int
  | 23 => .boolean
  | 24 => .boolean
  | 25 => .array .int
  | 26 => .array .int
  | 27 => .array .int
  | 28 => .int
  | 29 => .array .int
  | 30 => .array .int
  | 31 => .array .int
  | 32 => .int
  | 33 => .int
  | 34 => .int
  | 35 => .int
  | 36 => .int
  | 37 => .array .int
  | 38 => .array .int
  | 39 => .int
  | 40 => .array .int
  | 41 => .int
  | 42 => .array .long
  | 43 => .array .long
  | 44 => .array .int
  | 45 => .int
  | 46 => .array .int
  | 47 => .array .int
  | 48 => .int
  | 49 => .int
  | 50 => .int
  | _ => .int
theorem nmX12 : ∀ a, a < 52 → ∀ b, b < 52 → a ≠ b → (TX12 a).2.1 ≠ (TX12 b).2.1 := by decide +kernel
theorem tyX12_ok : ∀ k, k < 52 → parseFieldDescriptor (TX12 k).2.2.1 = some (tyX12 k) := by decide +kernel
abbrev cX12_init : ByteArray := prog_14_method_1_code
def yX12_init : MethodName := ⟨RX12, "<init>", "()V"⟩
abbrev cX12_thrown : ByteArray := prog_14_method_2_code
def yX12_thrown : MethodName := ⟨RX12, "thrown", "()I"⟩
abbrev cX12_refuse : ByteArray := prog_14_method_3_code
def yX12_refuse : MethodName := ⟨RX12, "refuse", "()I"⟩
abbrev cX12_come : ByteArray := prog_14_method_4_code
def yX12_come : MethodName := ⟨RX12, "come", "(I)V"⟩
abbrev cX12_feed : ByteArray := prog_14_method_5_code
def yX12_feed : MethodName := ⟨RX12, "feed", "(IIIII)I"⟩
abbrev cX12_end : ByteArray := prog_14_method_6_code
def yX12_end : MethodName := ⟨RX12, "end", "(I)Z"⟩
abbrev cX12_take : ByteArray := prog_14_method_7_code
def yX12_take : MethodName := ⟨RX12, "take", "()I"⟩
abbrev cX12_isIn : ByteArray := prog_14_method_8_code
def yX12_isIn : MethodName := ⟨RX12, "isIn", "(III)Z"⟩
abbrev cX12_has : ByteArray := prog_14_method_9_code
def yX12_has : MethodName := ⟨RX12, "has", "(II)Z"⟩
abbrev cX12_bits : ByteArray := prog_14_method_10_code
def yX12_bits : MethodName := ⟨RX12, "bits", "(I)I"⟩
abbrev cX12_most : ByteArray := prog_14_method_11_code
def yX12_most : MethodName := ⟨RX12, "most", "(II)I"⟩
abbrev cX12_tapeAt : ByteArray := prog_14_method_12_code
def yX12_tapeAt : MethodName := ⟨RX12, "tapeAt", "(I)I"⟩
abbrev cX12_isDigit : ByteArray := prog_14_method_13_code
def yX12_isDigit : MethodName := ⟨RX12, "isDigit", "(I)Z"⟩
abbrev cX12_isLetter : ByteArray := prog_14_method_14_code
def yX12_isLetter : MethodName := ⟨RX12, "isLetter", "(I)Z"⟩
abbrev cX12_go : ByteArray := prog_14_method_15_code
def yX12_go : MethodName := ⟨RX12, "go", "()V"⟩
abbrev cX12_spelt : ByteArray := prog_14_method_16_code
def yX12_spelt : MethodName := ⟨RX12, "spelt", "(IIII)J"⟩
abbrev cX12_on : ByteArray := prog_14_method_17_code
def yX12_on : MethodName := ⟨RX12, "on", "(JIII)J"⟩
abbrev cX12_wordOf : ByteArray := prog_14_method_18_code
def yX12_wordOf : MethodName := ⟨RX12, "wordOf", "(I)J"⟩
abbrev cX12_isWord : ByteArray := prog_14_method_19_code
def yX12_isWord : MethodName := ⟨RX12, "isWord", "(I)Z"⟩
abbrev cX12_isSign : ByteArray := prog_14_method_20_code
def yX12_isSign : MethodName := ⟨RX12, "isSign", "(I)Z"⟩
abbrev cX12_isName : ByteArray := prog_14_method_21_code
def yX12_isName : MethodName := ⟨RX12, "isName", "()Z"⟩
abbrev cX12_bad : ByteArray := prog_14_method_22_code
def yX12_bad : MethodName := ⟨RX12, "bad", "(I)Z"⟩
abbrev cX12_isNumber : ByteArray := prog_14_method_23_code
def yX12_isNumber : MethodName := ⟨RX12, "isNumber", "(II)Z"⟩
abbrev cX12_readNumber : ByteArray := prog_14_method_24_code
def yX12_readNumber : MethodName := ⟨RX12, "readNumber", "(II)Z"⟩
abbrev cX12_readEnd : ByteArray := prog_14_method_25_code
def yX12_readEnd : MethodName := ⟨RX12, "readEnd", "()Z"⟩
abbrev cX12_begin : ByteArray := prog_14_method_26_code
def yX12_begin : MethodName := ⟨RX12, "begin", "(I)V"⟩
abbrev cX12_layAll : ByteArray := prog_14_method_27_code
def yX12_layAll : MethodName := ⟨RX12, "layAll", "()V"⟩
abbrev cX12_findIn : ByteArray := prog_14_method_28_code
def yX12_findIn : MethodName := ⟨RX12, "findIn", "([JIJ)I"⟩
abbrev cX12_findStone : ByteArray := prog_14_method_29_code
def yX12_findStone : MethodName := ⟨RX12, "findStone", "([III)I"⟩
abbrev cX12_readWidow : ByteArray := prog_14_method_30_code
def yX12_readWidow : MethodName := ⟨RX12, "readWidow", "()Z"⟩
abbrev cX12_readStone : ByteArray := prog_14_method_31_code
def yX12_readStone : MethodName := ⟨RX12, "readStone", "()Z"⟩
abbrev cX12_readForgive : ByteArray := prog_14_method_32_code
def yX12_readForgive : MethodName := ⟨RX12, "readForgive", "()Z"⟩
abbrev cX12_readQuarrel : ByteArray := prog_14_method_33_code
def yX12_readQuarrel : MethodName := ⟨RX12, "readQuarrel", "()Z"⟩
abbrev cX12_readPawn : ByteArray := prog_14_method_34_code
def yX12_readPawn : MethodName := ⟨RX12, "readPawn", "()Z"⟩
abbrev cX12_readLine : ByteArray := prog_14_method_35_code
def yX12_readLine : MethodName := ⟨RX12, "readLine", "()Z"⟩
abbrev cX12_island : ByteArray := prog_14_method_36_code
def yX12_island : MethodName := ⟨RX12, "island", "()I"⟩
abbrev cX12_fault : ByteArray := prog_14_method_37_code
def yX12_fault : MethodName := ⟨RX12, "fault", "()I"⟩
abbrev cX12_widows : ByteArray := prog_14_method_38_code
def yX12_widows : MethodName := ⟨RX12, "widows", "()I"⟩
abbrev cX12_stones : ByteArray := prog_14_method_39_code
def yX12_stones : MethodName := ⟨RX12, "stones", "()I"⟩
abbrev cX12_isWidow : ByteArray := prog_14_method_40_code
def yX12_isWidow : MethodName := ⟨RX12, "isWidow", "(I)Z"⟩
abbrev cX12_isStone : ByteArray := prog_14_method_41_code
def yX12_isStone : MethodName := ⟨RX12, "isStone", "(I)Z"⟩
abbrev cX12_pip : ByteArray := prog_14_method_42_code
def yX12_pip : MethodName := ⟨RX12, "pip", "(II)I"⟩
abbrev cX12_sum : ByteArray := prog_14_method_43_code
def yX12_sum : MethodName := ⟨RX12, "sum", "(I)I"⟩
abbrev cX12_isHeld : ByteArray := prog_14_method_44_code
def yX12_isHeld : MethodName := ⟨RX12, "isHeld", "(I)Z"⟩
abbrev cX12_fit : ByteArray := prog_14_method_45_code
def yX12_fit : MethodName := ⟨RX12, "fit", "(II)Z"⟩
abbrev cX12_rowMany : ByteArray := prog_14_method_46_code
def yX12_rowMany : MethodName := ⟨RX12, "rowMany", "()I"⟩
abbrev cX12_rowStone : ByteArray := prog_14_method_47_code
def yX12_rowStone : MethodName := ⟨RX12, "rowStone", "(I)I"⟩
abbrev cX12_rowPip : ByteArray := prog_14_method_48_code
def yX12_rowPip : MethodName := ⟨RX12, "rowPip", "(II)I"⟩
abbrev cX12_placeOf : ByteArray := prog_14_method_49_code
def yX12_placeOf : MethodName := ⟨RX12, "placeOf", "(I)I"⟩
abbrev cX12_stone : ByteArray := prog_14_method_50_code
def yX12_stone : MethodName := ⟨RX12, "stone", "(II)I"⟩
abbrev cX12_find : ByteArray := prog_14_method_51_code
def yX12_find : MethodName := ⟨RX12, "find", "(II)I"⟩
abbrev cX12_widow : ByteArray := prog_14_method_52_code
def yX12_widow : MethodName := ⟨RX12, "widow", "(II)I"⟩
abbrev cX12_fits : ByteArray := prog_14_method_53_code
def yX12_fits : MethodName := ⟨RX12, "fits", "(II)I"⟩
abbrev cX12_at : ByteArray := prog_14_method_54_code
def yX12_at : MethodName := ⟨RX12, "at", "(I)I"⟩
abbrev cX12_endAt : ByteArray := prog_14_method_55_code
def yX12_endAt : MethodName := ⟨RX12, "endAt", "(I)I"⟩
abbrev cX12_pipsAt : ByteArray := prog_14_method_56_code
def yX12_pipsAt : MethodName := ⟨RX12, "pipsAt", "(I)I"⟩
abbrev cX12_pips : ByteArray := prog_14_method_57_code
def yX12_pips : MethodName := ⟨RX12, "pips", "(I)I"⟩
abbrev cX12_layerAt : ByteArray := prog_14_method_58_code
def yX12_layerAt : MethodName := ⟨RX12, "layerAt", "(I)I"⟩
abbrev cX12_whyNot : ByteArray := prog_14_method_59_code
def yX12_whyNot : MethodName := ⟨RX12, "whyNot", "(III)I"⟩
abbrev cX12_isEnd : ByteArray := prog_14_method_60_code
def yX12_isEnd : MethodName := ⟨RX12, "isEnd", "(I)Z"⟩
abbrev cX12_why : ByteArray := prog_14_method_61_code
def yX12_why : MethodName := ⟨RX12, "why", "(III)I"⟩
abbrev cX12_lays : ByteArray := prog_14_method_62_code
def yX12_lays : MethodName := ⟨RX12, "lays", "(III)V"⟩
abbrev cX12_snap : ByteArray := prog_14_method_63_code
def yX12_snap : MethodName := ⟨RX12, "snap", "()V"⟩
abbrev cX12_undo : ByteArray := prog_14_method_64_code
def yX12_undo : MethodName := ⟨RX12, "undo", "()I"⟩
abbrev cX12_lay : ByteArray := prog_14_method_65_code
def yX12_lay : MethodName := ⟨RX12, "lay", "(III)I"⟩
abbrev cX12_catAt : ByteArray := prog_14_method_66_code
def yX12_catAt : MethodName := ⟨RX12, "catAt", "(I)I"⟩
abbrev cX12_cat : ByteArray := prog_14_method_67_code
def yX12_cat : MethodName := ⟨RX12, "cat", "(I)I"⟩
abbrev cX12_turnLast : ByteArray := prog_14_method_68_code
def yX12_turnLast : MethodName := ⟨RX12, "turnLast", "()V"⟩
abbrev cX12_tide : ByteArray := prog_14_method_69_code
def yX12_tide : MethodName := ⟨RX12, "tide", "()I"⟩
abbrev cX12_pawn : ByteArray := prog_14_method_70_code
def yX12_pawn : MethodName := ⟨RX12, "pawn", "(I)I"⟩
abbrev cX12_redeem : ByteArray := prog_14_method_71_code
def yX12_redeem : MethodName := ⟨RX12, "redeem", "(I)Z"⟩
abbrev cX12_will : ByteArray := prog_14_method_72_code
def yX12_will : MethodName := ⟨RX12, "will", "(II)I"⟩
abbrev cX12_visits : ByteArray := prog_14_method_73_code
def yX12_visits : MethodName := ⟨RX12, "visits", "(I)I"⟩
abbrev cX12_able : ByteArray := prog_14_method_74_code
def yX12_able : MethodName := ⟨RX12, "able", "(I)I"⟩
abbrev cX12_fitsEnd : ByteArray := prog_14_method_75_code
def yX12_fitsEnd : MethodName := ⟨RX12, "fitsEnd", "(II)Z"⟩
abbrev cX12_open : ByteArray := prog_14_method_76_code
def yX12_open : MethodName := ⟨RX12, "open", "(I)I"⟩
abbrev cX12_layHand : ByteArray := prog_14_method_77_code
def yX12_layHand : MethodName := ⟨RX12, "layHand", "()I"⟩
abbrev cX12_layLongest : ByteArray := prog_14_method_78_code
def yX12_layLongest : MethodName := ⟨RX12, "layLongest", "(I)V"⟩
abbrev cX12_longest : ByteArray := prog_14_method_79_code
def yX12_longest : MethodName := ⟨RX12, "longest", "()I"⟩
abbrev cX12_isNext : ByteArray := prog_14_method_80_code
def yX12_isNext : MethodName := ⟨RX12, "isNext", "(IIII)Z"⟩
abbrev cX12_longAt : ByteArray := prog_14_method_81_code
def yX12_longAt : MethodName := ⟨RX12, "longAt", "(I)I"⟩
abbrev cX12_leads : ByteArray := prog_14_method_82_code
def yX12_leads : MethodName := ⟨RX12, "leads", "(II)I"⟩
abbrev cX12_stateOf : ByteArray := prog_14_method_83_code
def yX12_stateOf : MethodName := ⟨RX12, "stateOf", "(III)I"⟩
abbrev cX12_endPips : ByteArray := prog_14_method_84_code
def yX12_endPips : MethodName := ⟨RX12, "endPips", "(II)I"⟩
abbrev cX12_endLayer : ByteArray := prog_14_method_85_code
def yX12_endLayer : MethodName := ⟨RX12, "endLayer", "(II)I"⟩
abbrev cX12_laysAt : ByteArray := prog_14_method_86_code
def yX12_laysAt : MethodName := ⟨RX12, "laysAt", "(III)I"⟩
abbrev cX12_isAll : ByteArray := prog_14_method_87_code
def yX12_isAll : MethodName := ⟨RX12, "isAll", "(II)Z"⟩
abbrev cX12_moved : ByteArray := prog_14_method_88_code
def yX12_moved : MethodName := ⟨RX12, "moved", "(III)I"⟩
abbrev cX12_fewestFrom : ByteArray := prog_14_method_89_code
def yX12_fewestFrom : MethodName := ⟨RX12, "fewestFrom", "(II)I"⟩
abbrev cX12_all : ByteArray := prog_14_method_90_code
def yX12_all : MethodName := ⟨RX12, "all", "()I"⟩
abbrev cX12_allAt : ByteArray := prog_14_method_91_code
def yX12_allAt : MethodName := ⟨RX12, "allAt", "(I)I"⟩
abbrev cX12_isOver : ByteArray := prog_14_method_92_code
def yX12_isOver : MethodName := ⟨RX12, "isOver", "(III)Z"⟩
abbrev cX12_pipsLeft : ByteArray := prog_14_method_93_code
def yX12_pipsLeft : MethodName := ⟨RX12, "pipsLeft", "(III)I"⟩
abbrev cX12_behind : ByteArray := prog_14_method_94_code
def yX12_behind : MethodName := ⟨RX12, "behind", "(II)I"⟩
abbrev cX12_canLay : ByteArray := prog_14_method_95_code
def yX12_canLay : MethodName := ⟨RX12, "canLay", "(IIIII)Z"⟩
abbrev cX12_gameOf : ByteArray := prog_14_method_96_code
def yX12_gameOf : MethodName := ⟨RX12, "gameOf", "(IIII)I"⟩
abbrev cX12_play : ByteArray := prog_14_method_97_code
def yX12_play : MethodName := ⟨RX12, "play", "(IIIII)I"⟩
abbrev cX12_bestOf : ByteArray := prog_14_method_98_code
def yX12_bestOf : MethodName := ⟨RX12, "bestOf", "(IIIII)I"⟩
abbrev cX12_game : ByteArray := prog_14_method_99_code
def yX12_game : MethodName := ⟨RX12, "game", "(II)I"⟩
abbrev cX12_first : ByteArray := prog_14_method_100_code
def yX12_first : MethodName := ⟨RX12, "first", "()I"⟩
abbrev cX12_isGap : ByteArray := prog_14_method_101_code
def yX12_isGap : MethodName := ⟨RX12, "isGap", "(I)Z"⟩
abbrev cX12_gaps : ByteArray := prog_14_method_102_code
def yX12_gaps : MethodName := ⟨RX12, "gaps", "(I)I"⟩
abbrev cX12_stretch : ByteArray := prog_14_method_103_code
def yX12_stretch : MethodName := ⟨RX12, "stretch", "()I"⟩
abbrev cX12_dearest : ByteArray := prog_14_method_104_code
def yX12_dearest : MethodName := ⟨RX12, "dearest", "()I"⟩
abbrev cX12_counts : ByteArray := prog_14_method_105_code
def yX12_counts : MethodName := ⟨RX12, "counts", "(II)I"⟩
abbrev cX12_layAside : ByteArray := prog_14_method_106_code
def yX12_layAside : MethodName := ⟨RX12, "layAside", "()V"⟩
abbrev cX12_layBack : ByteArray := prog_14_method_107_code
def yX12_layBack : MethodName := ⟨RX12, "layBack", "()V"⟩
abbrev cX12_greedy : ByteArray := prog_14_method_108_code
def yX12_greedy : MethodName := ⟨RX12, "greedy", "()I"⟩
abbrev cX12_write : ByteArray := prog_14_method_109_code
def yX12_write : MethodName := ⟨RX12, "write", "()I"⟩
abbrev cX12_byteAt : ByteArray := prog_14_method_110_code
def yX12_byteAt : MethodName := ⟨RX12, "byteAt", "(I)I"⟩
abbrev cX12_readDeal : ByteArray := prog_14_method_111_code
def yX12_readDeal : MethodName := ⟨RX12, "readDeal", "()Z"⟩
abbrev cX12_readSeen : ByteArray := prog_14_method_112_code
def yX12_readSeen : MethodName := ⟨RX12, "readSeen", "()Z"⟩
abbrev cX12_readPassed : ByteArray := prog_14_method_113_code
def yX12_readPassed : MethodName := ⟨RX12, "readPassed", "()Z"⟩
abbrev cX12_memory : ByteArray := prog_14_method_114_code
def yX12_memory : MethodName := ⟨RX12, "memory", "()I"⟩
abbrev cX12_mayHave : ByteArray := prog_14_method_115_code
def yX12_mayHave : MethodName := ⟨RX12, "mayHave", "(II)Z"⟩
abbrev cX12_deal : ByteArray := prog_14_method_116_code
def yX12_deal : MethodName := ⟨RX12, "deal", "(II)J"⟩
abbrev cX12_dealOne : ByteArray := prog_14_method_117_code
def yX12_dealOne : MethodName := ⟨RX12, "dealOne", "(III)V"⟩
abbrev cX12_dealings : ByteArray := prog_14_method_118_code
def yX12_dealings : MethodName := ⟨RX12, "dealings", "()J"⟩
abbrev cX12_whose : ByteArray := prog_14_method_119_code
def yX12_whose : MethodName := ⟨RX12, "whose", "(II)J"⟩
abbrev cX12_sure : ByteArray := prog_14_method_120_code
def yX12_sure : MethodName := ⟨RX12, "sure", "(I)I"⟩
abbrev cX12_draw : ByteArray := prog_14_method_121_code
def yX12_draw : MethodName := ⟨RX12, "draw", "(I)I"⟩
abbrev cX12_inHand : ByteArray := prog_14_method_122_code
def yX12_inHand : MethodName := ⟨RX12, "inHand", "(II)I"⟩
abbrev cX12_days : ByteArray := prog_14_method_123_code
def yX12_days : MethodName := ⟨RX12, "days", "(II)I"⟩
abbrev cX12_drawn : ByteArray := prog_14_method_124_code
def yX12_drawn : MethodName := ⟨RX12, "drawn", "(I)I"⟩
abbrev cX12_saysOne : ByteArray := prog_14_method_125_code
def yX12_saysOne : MethodName := ⟨RX12, "saysOne", "(IIII)I"⟩
abbrev cX12_readOr : ByteArray := prog_14_method_126_code
def yX12_readOr : MethodName := ⟨RX12, "readOr", "()Z"⟩
abbrev cX12_readAnd : ByteArray := prog_14_method_127_code
def yX12_readAnd : MethodName := ⟨RX12, "readAnd", "()Z"⟩
abbrev cX12_readOne : ByteArray := prog_14_method_128_code
def yX12_readOne : MethodName := ⟨RX12, "readOne", "()Z"⟩
abbrev cX12_readNot : ByteArray := prog_14_method_129_code
def yX12_readNot : MethodName := ⟨RX12, "readNot", "()Z"⟩
abbrev cX12_readBracket : ByteArray := prog_14_method_130_code
def yX12_readBracket : MethodName := ⟨RX12, "readBracket", "()Z"⟩
abbrev cX12_readOf : ByteArray := prog_14_method_131_code
def yX12_readOf : MethodName := ⟨RX12, "readOf", "()Z"⟩
abbrev cX12_readCompare : ByteArray := prog_14_method_132_code
def yX12_readCompare : MethodName := ⟨RX12, "readCompare", "(I)Z"⟩
abbrev cX12_sentence : ByteArray := prog_14_method_133_code
def yX12_sentence : MethodName := ⟨RX12, "sentence", "()I"⟩
abbrev cX12_valueOf : ByteArray := prog_14_method_134_code
def yX12_valueOf : MethodName := ⟨RX12, "valueOf", "(II)I"⟩
abbrev cX12_holds : ByteArray := prog_14_method_135_code
def yX12_holds : MethodName := ⟨RX12, "holds", "(II)Z"⟩
abbrev cX12_said : ByteArray := prog_14_method_136_code
def yX12_said : MethodName := ⟨RX12, "said", "(I)I"⟩
abbrev cX12_image : ByteArray := prog_14_method_137_code
def yX12_image : MethodName := ⟨RX12, "image", "(I)Z"⟩
abbrev cX12_restore : ByteArray := prog_14_method_138_code
def yX12_restore : MethodName := ⟨RX12, "restore", "(I)Z"⟩
abbrev cX12_count : ByteArray := prog_14_method_139_code
def yX12_count : MethodName := ⟨RX12, "count", "(I)I"⟩
def RJx145de : String := "java/io/Serializable"
def TJx145de : u_T := fun k => match k with
  | _ => ("", "", "", false)
def tyJx145de : Nat → FieldType := fun k => match k with
  | _ => .int
abbrev wsJx145de0 : List Cond := u_ws RJx145de TJx145de 0
theorem nmJx145de : ∀ a, a < 0 → ∀ b, b < 0 → a ≠ b → (TJx145de a).2.1 ≠ (TJx145de b).2.1 := by decide +kernel
theorem tyJx145de_ok : ∀ k, k < 0 → parseFieldDescriptor (TJx145de k).2.2.1 = some (tyJx145de k) := by decide +kernel
def RJx9f9b0 : String := "java/lang/CharSequence"
def TJx9f9b0 : u_T := fun k => match k with
  | _ => ("", "", "", false)
def tyJx9f9b0 : Nat → FieldType := fun k => match k with
  | _ => .int
abbrev wsJx9f9b00 : List Cond := u_ws RJx9f9b0 TJx9f9b0 0
theorem nmJx9f9b0 : ∀ a, a < 0 → ∀ b, b < 0 → a ≠ b → (TJx9f9b0 a).2.1 ≠ (TJx9f9b0 b).2.1 := by decide +kernel
theorem tyJx9f9b0_ok : ∀ k, k < 0 → parseFieldDescriptor (TJx9f9b0 k).2.2.1 = some (tyJx9f9b0 k) := by decide +kernel
def RJ11 : String := "java/lang/Character"
def TJ11 : u_T := fun k => match k with
  | _ => ("", "", "", false)
def tyJ11 : Nat → FieldType := fun k => match k with
  | _ => .int
abbrev wsJ110 : List Cond := u_ws RJ11 TJ11 0
theorem nmJ11 : ∀ a, a < 0 → ∀ b, b < 0 → a ≠ b → (TJ11 a).2.1 ≠ (TJ11 b).2.1 := by decide +kernel
theorem tyJ11_ok : ∀ k, k < 0 → parseFieldDescriptor (TJ11 k).2.2.1 = some (tyJ11 k) := by decide +kernel
abbrev cJ11_isValidCodePoint_9a6ad : ByteArray := prog_17_method_11_code
def yJ11_isValidCodePoint_9a6ad : MethodName := ⟨RJ11, "isValidCodePoint", "(I)Z"⟩
abbrev cJ11_highSurrogate_5068e : ByteArray := prog_17_method_28_code
def yJ11_highSurrogate_5068e : MethodName := ⟨RJ11, "highSurrogate", "(I)C"⟩
abbrev cJ11_lowSurrogate_5068e : ByteArray := prog_17_method_29_code
def yJ11_lowSurrogate_5068e : MethodName := ⟨RJ11, "lowSurrogate", "(I)C"⟩
def RJxb160c : String := "java/lang/Comparable"
def TJxb160c : u_T := fun k => match k with
  | _ => ("", "", "", false)
def tyJxb160c : Nat → FieldType := fun k => match k with
  | _ => .int
abbrev wsJxb160c0 : List Cond := u_ws RJxb160c TJxb160c 0
theorem nmJxb160c : ∀ a, a < 0 → ∀ b, b < 0 → a ≠ b → (TJxb160c a).2.1 ≠ (TJxb160c b).2.1 := by decide +kernel
theorem tyJxb160c_ok : ∀ k, k < 0 → parseFieldDescriptor (TJxb160c k).2.2.1 = some (tyJxb160c k) := by decide +kernel
def RJ6 : String := "java/lang/Integer"
def TJ6 : u_T := fun k => match k with
  | _ => ("", "", "", false)
def tyJ6 : Nat → FieldType := fun k => match k with
  | _ => .int
abbrev wsJ60 : List Cond := u_ws RJ6 TJ6 0
theorem nmJ6 : ∀ a, a < 0 → ∀ b, b < 0 → a ≠ b → (TJ6 a).2.1 ≠ (TJ6 b).2.1 := by decide +kernel
theorem tyJ6_ok : ∀ k, k < 0 → parseFieldDescriptor (TJ6 k).2.2.1 = some (tyJ6 k) := by decide +kernel
abbrev cJ6_compare_7cf53 : ByteArray := prog_20_method_40_code
def yJ6_compare_7cf53 : MethodName := ⟨RJ6, "compare", "(II)I"⟩
abbrev cJ6_bitCount_0f7a4 : ByteArray := prog_20_method_49_code
def yJ6_bitCount_0f7a4 : MethodName := ⟨RJ6, "bitCount", "(I)I"⟩
def RJ9 : String := "java/lang/Math"
def TJ9 : u_T := fun k => match k with
  | _ => ("", "", "", false)
def tyJ9 : Nat → FieldType := fun k => match k with
  | _ => .int
abbrev wsJ90 : List Cond := u_ws RJ9 TJ9 0
theorem nmJ9 : ∀ a, a < 0 → ∀ b, b < 0 → a ≠ b → (TJ9 a).2.1 ≠ (TJ9 b).2.1 := by decide +kernel
theorem tyJ9_ok : ∀ k, k < 0 → parseFieldDescriptor (TJ9 k).2.2.1 = some (tyJ9 k) := by decide +kernel
abbrev cJ9_max_7cf53 : ByteArray := prog_21_method_65_code
def yJ9_max_7cf53 : MethodName := ⟨RJ9, "max", "(II)I"⟩
abbrev cJ9_min_7cf53 : ByteArray := prog_21_method_69_code
def yJ9_min_7cf53 : MethodName := ⟨RJ9, "min", "(II)I"⟩
def RJ0 : String := "java/lang/String"
def TJ0 : u_T := fun k => match k with
  | _ => ("", "", "", false)
def tyJ0 : Nat → FieldType := fun k => match k with
  | _ => .int
abbrev wsJ00 : List Cond := u_ws RJ0 TJ0 0
theorem nmJ0 : ∀ a, a < 0 → ∀ b, b < 0 → a ≠ b → (TJ0 a).2.1 ≠ (TJ0 b).2.1 := by decide +kernel
theorem tyJ0_ok : ∀ k, k < 0 → parseFieldDescriptor (TJ0 k).2.2.1 = some (tyJ0 k) := by decide +kernel
abbrev cJ0_length_8abf5 : ByteArray := prog_23_method_54_code
def yJ0_length_8abf5 : MethodName := ⟨RJ0, "length", "()I"⟩
abbrev cJ0_charAt_5068e : ByteArray := prog_23_method_56_code
def yJ0_charAt_5068e : MethodName := ⟨RJ0, "charAt", "(I)C"⟩
abbrev cJ0_indexOf_0f7a4 : ByteArray := prog_23_method_79_code
def yJ0_indexOf_0f7a4 : MethodName := ⟨RJ0, "indexOf", "(I)I"⟩
abbrev cJ0_indexOf_7cf53 : ByteArray := prog_23_method_80_code
def yJ0_indexOf_7cf53 : MethodName := ⟨RJ0, "indexOf", "(II)I"⟩
abbrev cJ0_coder_7d493 : ByteArray := prog_23_method_152_code
def yJ0_coder_7d493 : MethodName := ⟨RJ0, "coder", "()B"⟩
abbrev cJ0_isLatin1_aae02 : ByteArray := prog_23_method_154_code
def yJ0_isLatin1_aae02 : MethodName := ⟨RJ0, "isLatin1", "()Z"⟩
abbrev cJ0_checkIndex_df160 : ByteArray := prog_23_method_155_code
def yJ0_checkIndex_df160 : MethodName := ⟨RJ0, "checkIndex", "(II)V"⟩
abbrev cJ0_checkBoundsBeginEnd_23922 : ByteArray := prog_23_method_158_code
def yJ0_checkBoundsBeginEnd_23922 : MethodName := ⟨RJ0, "checkBoundsBeginEnd", "(III)V"⟩
def RJ1 : String := "java/lang/StringLatin1"
def TJ1 : u_T := fun k => match k with
  | _ => ("", "", "", false)
def tyJ1 : Nat → FieldType := fun k => match k with
  | _ => .int
abbrev wsJ10 : List Cond := u_ws RJ1 TJ1 0
theorem nmJ1 : ∀ a, a < 0 → ∀ b, b < 0 → a ≠ b → (TJ1 a).2.1 ≠ (TJ1 b).2.1 := by decide +kernel
theorem tyJ1_ok : ∀ k, k < 0 → parseFieldDescriptor (TJ1 k).2.2.1 = some (tyJ1 k) := by decide +kernel
abbrev cJ1_charAt_3b067 : ByteArray := prog_24_method_2_code
def yJ1_charAt_3b067 : MethodName := ⟨RJ1, "charAt", "([BI)C"⟩
abbrev cJ1_canEncode_9a6ad : ByteArray := prog_24_method_4_code
def yJ1_canEncode_9a6ad : MethodName := ⟨RJ1, "canEncode", "(I)Z"⟩
abbrev cJ1_indexOf_4cfef : ByteArray := prog_24_method_22_code
def yJ1_indexOf_4cfef : MethodName := ⟨RJ1, "indexOf", "([BIII)I"⟩
abbrev cJ1_indexOfChar_4cfef : ByteArray := prog_24_method_23_code
def yJ1_indexOfChar_4cfef : MethodName := ⟨RJ1, "indexOfChar", "([BIII)I"⟩
def RJ2 : String := "java/lang/StringUTF16"
def TJ2 : u_T := fun k => match k with
  | _ => ("", "", "", false)
def tyJ2 : Nat → FieldType := fun k => match k with
  | _ => .int
abbrev wsJ20 : List Cond := u_ws RJ2 TJ2 0
theorem nmJ2 : ∀ a, a < 0 → ∀ b, b < 0 → a ≠ b → (TJ2 a).2.1 ≠ (TJ2 b).2.1 := by decide +kernel
theorem tyJ2_ok : ∀ k, k < 0 → parseFieldDescriptor (TJ2 k).2.2.1 = some (tyJ2 k) := by decide +kernel
abbrev cJ2_getChar_3b067 : ByteArray := prog_25_method_5_code
def yJ2_getChar_3b067 : MethodName := ⟨RJ2, "getChar", "([BI)C"⟩
abbrev cJ2_length_9d52b : ByteArray := prog_25_method_6_code
def yJ2_length_9d52b : MethodName := ⟨RJ2, "length", "([B)I"⟩
abbrev cJ2_indexOf_4cfef : ByteArray := prog_25_method_40_code
def yJ2_indexOf_4cfef : MethodName := ⟨RJ2, "indexOf", "([BIII)I"⟩
abbrev cJ2_indexOfChar_4cfef : ByteArray := prog_25_method_47_code
def yJ2_indexOfChar_4cfef : MethodName := ⟨RJ2, "indexOfChar", "([BIII)I"⟩
abbrev cJ2_indexOfCharUnsafe_4cfef : ByteArray := prog_25_method_48_code
def yJ2_indexOfCharUnsafe_4cfef : MethodName := ⟨RJ2, "indexOfCharUnsafe", "([BIII)I"⟩
abbrev cJ2_indexOfSupplementary_4cfef : ByteArray := prog_25_method_49_code
def yJ2_indexOfSupplementary_4cfef : MethodName := ⟨RJ2, "indexOfSupplementary", "([BIII)I"⟩
abbrev cJ2_charAt_3b067 : ByteArray := prog_25_method_83_code
def yJ2_charAt_3b067 : MethodName := ⟨RJ2, "charAt", "([BI)C"⟩
abbrev cJ2_checkIndex_2214a : ByteArray := prog_25_method_91_code
def yJ2_checkIndex_2214a : MethodName := ⟨RJ2, "checkIndex", "(I[B)V"⟩
abbrev cJ2_checkBoundsBeginEnd_d044e : ByteArray := prog_25_method_93_code
def yJ2_checkBoundsBeginEnd_d044e : MethodName := ⟨RJ2, "checkBoundsBeginEnd", "(II[B)V"⟩
def RJ10 : String := "java/lang/System"
def TJ10 : u_T := fun k => match k with
  | _ => ("", "", "", false)
def tyJ10 : Nat → FieldType := fun k => match k with
  | _ => .int
abbrev wsJ100 : List Cond := u_ws RJ10 TJ10 0
theorem nmJ10 : ∀ a, a < 0 → ∀ b, b < 0 → a ≠ b → (TJ10 a).2.1 ≠ (TJ10 b).2.1 := by decide +kernel
theorem tyJ10_ok : ∀ k, k < 0 → parseFieldDescriptor (TJ10 k).2.2.1 = some (tyJ10 k) := by decide +kernel
def RJxfd54e : String := "java/lang/constant/Constable"
def TJxfd54e : u_T := fun k => match k with
  | _ => ("", "", "", false)
def tyJxfd54e : Nat → FieldType := fun k => match k with
  | _ => .int
abbrev wsJxfd54e0 : List Cond := u_ws RJxfd54e TJxfd54e 0
theorem nmJxfd54e : ∀ a, a < 0 → ∀ b, b < 0 → a ≠ b → (TJxfd54e a).2.1 ≠ (TJxfd54e b).2.1 := by decide +kernel
theorem tyJxfd54e_ok : ∀ k, k < 0 → parseFieldDescriptor (TJxfd54e k).2.2.1 = some (tyJxfd54e k) := by decide +kernel
def RJx3cf43 : String := "java/lang/constant/ConstantDesc"
def TJx3cf43 : u_T := fun k => match k with
  | _ => ("", "", "", false)
def tyJx3cf43 : Nat → FieldType := fun k => match k with
  | _ => .int
abbrev wsJx3cf430 : List Cond := u_ws RJx3cf43 TJx3cf43 0
theorem nmJx3cf43 : ∀ a, a < 0 → ∀ b, b < 0 → a ≠ b → (TJx3cf43 a).2.1 ≠ (TJx3cf43 b).2.1 := by decide +kernel
theorem tyJx3cf43_ok : ∀ k, k < 0 → parseFieldDescriptor (TJx3cf43 k).2.2.1 = some (tyJx3cf43 k) := by decide +kernel
def RJ7 : String := "java/util/Arrays"
def TJ7 : u_T := fun k => match k with
  | _ => ("", "", "", false)
def tyJ7 : Nat → FieldType := fun k => match k with
  | _ => .int
abbrev wsJ70 : List Cond := u_ws RJ7 TJ7 0
theorem nmJ7 : ∀ a, a < 0 → ∀ b, b < 0 → a ≠ b → (TJ7 a).2.1 ≠ (TJ7 b).2.1 := by decide +kernel
theorem tyJ7_ok : ∀ k, k < 0 → parseFieldDescriptor (TJ7 k).2.2.1 = some (tyJ7 k) := by decide +kernel
abbrev cJ7_rangeCheck_23922 : ByteArray := prog_30_method_30_code
def yJ7_rangeCheck_23922 : MethodName := ⟨RJ7, "rangeCheck", "(III)V"⟩
abbrev cJ7_fill_bad5a : ByteArray := prog_30_method_102_code
def yJ7_fill_bad5a : MethodName := ⟨RJ7, "fill", "([JIIJ)V"⟩
abbrev cJ7_fill_53178 : ByteArray := prog_30_method_103_code
def yJ7_fill_53178 : MethodName := ⟨RJ7, "fill", "([II)V"⟩
def RJ3 : String := "jdk/internal/util/Preconditions"
def TJ3 : u_T := fun k => match k with
  | _ => ("", "", "", false)
def tyJ3 : Nat → FieldType := fun k => match k with
  | _ => .int
abbrev wsJ30 : List Cond := u_ws RJ3 TJ3 0
theorem nmJ3 : ∀ a, a < 0 → ∀ b, b < 0 → a ≠ b → (TJ3 a).2.1 ≠ (TJ3 b).2.1 := by decide +kernel
theorem tyJ3_ok : ∀ k, k < 0 → parseFieldDescriptor (TJ3 k).2.2.1 = some (tyJ3 k) := by decide +kernel
abbrev cJ3_checkIndex_8e157 : ByteArray := prog_32_method_11_code
def yJ3_checkIndex_8e157 : MethodName := ⟨RJ3, "checkIndex", "(IILjava/util/function/BiFunction;)I"⟩
abbrev cJ3_checkFromToIndex_8c36e : ByteArray := prog_32_method_12_code
def yJ3_checkFromToIndex_8c36e : MethodName := ⟨RJ3, "checkFromToIndex", "(IIILjava/util/function/BiFunction;)I"⟩
def RL : String := "WidowRowLaw"
abbrev cL_stone : ByteArray := method_3_code
def yL_stone : MethodName := ⟨RL, "stone", "(LWidowRow;II[J)I"⟩
abbrev cL_law : ByteArray := code
def yL_law : MethodName := ⟨RL, "law", "([I)Z"⟩
abbrev vwCl : List vw_C := [(RX0, TX0, 7), (RX1, TX1, 7), (RX2, TX2, 8), (RX3, TX3, 13), (RX4, TX4, 8), (RX5, TX5, 5), (RX6, TX6, 13), (RX7, TX7, 8), (RX8, TX8, 6), (RX9, TX9, 14), (RX10, TX10, 5), (RX11, TX11, 19), (RX12, TX12, 52)]
