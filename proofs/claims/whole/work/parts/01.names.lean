-- ===== PART A: goes FIRST, ahead of the names: the tables' words, and 'selects' of the private methods out of them =====
/-- a private method of a class that the tables say can be made, by its rows of tables_1 -/
def lw_okq (q : MethodName × Nat) : Prop := (q.1.cls ≠ "java/lang/invoke/MethodHandle" ∧ q.1.cls ≠ "java/lang/invoke/VarHandle") ∧ Cond.instantiable q.1.cls q.2 ∈ tables_1 ∧ Cond.privateMethod q.1 ∈ tables_1 ∧ Cond.instanceMethod q.1 ∈ tables_1
theorem lw_p0 : lw_okq (⟨"PostFrame$FrameReader", "takeClause", "(I)Z"⟩, 3) := ⟨⟨by decide +kernel, by decide +kernel⟩, List.mem_of_getElem? (i := 55) (by decide +kernel), List.mem_of_getElem? (i := 471) (by decide +kernel), List.mem_of_getElem? (i := 472) (by decide +kernel)⟩
theorem lw_p1 : lw_okq (⟨"PostFrame$FrameReader", "takeKind", "()I"⟩, 3) := ⟨⟨by decide +kernel, by decide +kernel⟩, List.mem_of_getElem? (i := 55) (by decide +kernel), List.mem_of_getElem? (i := 479) (by decide +kernel), List.mem_of_getElem? (i := 480) (by decide +kernel)⟩
theorem lw_p2 : lw_okq (⟨"PostFrame$FrameReader", "tooMany", "(II)Z"⟩, 3) := ⟨⟨by decide +kernel, by decide +kernel⟩, List.mem_of_getElem? (i := 55) (by decide +kernel), List.mem_of_getElem? (i := 548) (by decide +kernel), List.mem_of_getElem? (i := 549) (by decide +kernel)⟩
theorem lw_p3 : lw_okq (⟨"PostFrame$FrameReader", "takeShape", "()Z"⟩, 3) := ⟨⟨by decide +kernel, by decide +kernel⟩, List.mem_of_getElem? (i := 55) (by decide +kernel), List.mem_of_getElem? (i := 552) (by decide +kernel), List.mem_of_getElem? (i := 553) (by decide +kernel)⟩
theorem lw_p4 : lw_okq (⟨"PostFrame$FrameReader", "takeRoom", "()Z"⟩, 3) := ⟨⟨by decide +kernel, by decide +kernel⟩, List.mem_of_getElem? (i := 55) (by decide +kernel), List.mem_of_getElem? (i := 572) (by decide +kernel), List.mem_of_getElem? (i := 573) (by decide +kernel)⟩
theorem lw_p5 : lw_okq (⟨"PostFrame$FrameReader", "takeEntry", "()Z"⟩, 3) := ⟨⟨by decide +kernel, by decide +kernel⟩, List.mem_of_getElem? (i := 55) (by decide +kernel), List.mem_of_getElem? (i := 580) (by decide +kernel), List.mem_of_getElem? (i := 581) (by decide +kernel)⟩
theorem lw_p6 : lw_okq (⟨"PostFrame$FrameReader", "takeLetter", "()Z"⟩, 3) := ⟨⟨by decide +kernel, by decide +kernel⟩, List.mem_of_getElem? (i := 55) (by decide +kernel), List.mem_of_getElem? (i := 593) (by decide +kernel), List.mem_of_getElem? (i := 594) (by decide +kernel)⟩
theorem lw_p7 : lw_okq (⟨"PostFrame$RuleReader", "takeSum", "()Z"⟩, 7) := ⟨⟨by decide +kernel, by decide +kernel⟩, List.mem_of_getElem? (i := 195) (by decide +kernel), List.mem_of_getElem? (i := 644) (by decide +kernel), List.mem_of_getElem? (i := 645) (by decide +kernel)⟩
theorem lw_p8 : lw_okq (⟨"PostFrame$RuleReader", "takeValue", "()Z"⟩, 7) := ⟨⟨by decide +kernel, by decide +kernel⟩, List.mem_of_getElem? (i := 195) (by decide +kernel), List.mem_of_getElem? (i := 648) (by decide +kernel), List.mem_of_getElem? (i := 649) (by decide +kernel)⟩
theorem lw_p9 : lw_okq (⟨"PostFrame$RuleReader", "countPart", "(I)Z"⟩, 7) := ⟨⟨by decide +kernel, by decide +kernel⟩, List.mem_of_getElem? (i := 195) (by decide +kernel), List.mem_of_getElem? (i := 655) (by decide +kernel), List.mem_of_getElem? (i := 656) (by decide +kernel)⟩
theorem lw_p10 : lw_okq (⟨"PostFrame$RuleReader", "put", "(I)Z"⟩, 7) := ⟨⟨by decide +kernel, by decide +kernel⟩, List.mem_of_getElem? (i := 195) (by decide +kernel), List.mem_of_getElem? (i := 659) (by decide +kernel), List.mem_of_getElem? (i := 660) (by decide +kernel)⟩
theorem lw_p11 : lw_okq (⟨"PostFrame$RuleReader", "takeTest", "(I)Z"⟩, 7) := ⟨⟨by decide +kernel, by decide +kernel⟩, List.mem_of_getElem? (i := 195) (by decide +kernel), List.mem_of_getElem? (i := 681) (by decide +kernel), List.mem_of_getElem? (i := 682) (by decide +kernel)⟩
theorem lw_p12 : lw_okq (⟨"PostFrame$RuleReader", "takeFact", "(I)Z"⟩, 7) := ⟨⟨by decide +kernel, by decide +kernel⟩, List.mem_of_getElem? (i := 195) (by decide +kernel), List.mem_of_getElem? (i := 685) (by decide +kernel), List.mem_of_getElem? (i := 686) (by decide +kernel)⟩
theorem lw_p13 : lw_okq (⟨"PostFrame$RuleReader", "takeComparison", "()I"⟩, 7) := ⟨⟨by decide +kernel, by decide +kernel⟩, List.mem_of_getElem? (i := 195) (by decide +kernel), List.mem_of_getElem? (i := 691) (by decide +kernel), List.mem_of_getElem? (i := 692) (by decide +kernel)⟩
theorem lw_p14 : lw_okq (⟨"PostFrame", "hasFrame", "()Z"⟩, 14) := ⟨⟨by decide +kernel, by decide +kernel⟩, List.mem_of_getElem? (i := 22) (by decide +kernel), List.mem_of_getElem? (i := 758) (by decide +kernel), List.mem_of_getElem? (i := 759) (by decide +kernel)⟩
theorem lw_p15 : lw_okq (⟨"PostFrame", "startFromNow", "()V"⟩, 14) := ⟨⟨by decide +kernel, by decide +kernel⟩, List.mem_of_getElem? (i := 22) (by decide +kernel), List.mem_of_getElem? (i := 762) (by decide +kernel), List.mem_of_getElem? (i := 763) (by decide +kernel)⟩
def lw_privs_1 : List (MethodName × Nat) := [(⟨"PostFrame$FrameReader", "takeClause", "(I)Z"⟩, 3), (⟨"PostFrame$FrameReader", "takeKind", "()I"⟩, 3), (⟨"PostFrame$FrameReader", "tooMany", "(II)Z"⟩, 3), (⟨"PostFrame$FrameReader", "takeShape", "()Z"⟩, 3), (⟨"PostFrame$FrameReader", "takeRoom", "()Z"⟩, 3), (⟨"PostFrame$FrameReader", "takeEntry", "()Z"⟩, 3), (⟨"PostFrame$FrameReader", "takeLetter", "()Z"⟩, 3), (⟨"PostFrame$RuleReader", "takeSum", "()Z"⟩, 7), (⟨"PostFrame$RuleReader", "takeValue", "()Z"⟩, 7), (⟨"PostFrame$RuleReader", "countPart", "(I)Z"⟩, 7), (⟨"PostFrame$RuleReader", "put", "(I)Z"⟩, 7), (⟨"PostFrame$RuleReader", "takeTest", "(I)Z"⟩, 7), (⟨"PostFrame$RuleReader", "takeFact", "(I)Z"⟩, 7), (⟨"PostFrame$RuleReader", "takeComparison", "()I"⟩, 7), (⟨"PostFrame", "hasFrame", "()Z"⟩, 14), (⟨"PostFrame", "startFromNow", "()V"⟩, 14)]
theorem lw_r1 : ∀ q ∈ lw_privs_1, lw_okq q := List.forall_mem_cons.mpr ⟨lw_p0, List.forall_mem_cons.mpr ⟨lw_p1, List.forall_mem_cons.mpr ⟨lw_p2, List.forall_mem_cons.mpr ⟨lw_p3, List.forall_mem_cons.mpr ⟨lw_p4, List.forall_mem_cons.mpr ⟨lw_p5, List.forall_mem_cons.mpr ⟨lw_p6, List.forall_mem_cons.mpr ⟨lw_p7, List.forall_mem_cons.mpr ⟨lw_p8, List.forall_mem_cons.mpr ⟨lw_p9, List.forall_mem_cons.mpr ⟨lw_p10, List.forall_mem_cons.mpr ⟨lw_p11, List.forall_mem_cons.mpr ⟨lw_p12, List.forall_mem_cons.mpr ⟨lw_p13, List.forall_mem_cons.mpr ⟨lw_p14, List.forall_mem_cons.mpr ⟨lw_p15, fun _ h => absurd h List.not_mem_nil⟩⟩⟩⟩⟩⟩⟩⟩⟩⟩⟩⟩⟩⟩⟩⟩
theorem lw_p16 : lw_okq (⟨"PostFrame$Chart", "lay", "(I)V"⟩, 6) := ⟨⟨by decide +kernel, by decide +kernel⟩, List.mem_of_getElem? (i := 278) (by decide +kernel), List.mem_of_getElem? (i := 776) (by decide +kernel), List.mem_of_getElem? (i := 777) (by decide +kernel)⟩
theorem lw_p17 : lw_okq (⟨"PostFrame", "ruleInForce", "()LPostFrame$Rule;"⟩, 14) := ⟨⟨by decide +kernel, by decide +kernel⟩, List.mem_of_getElem? (i := 22) (by decide +kernel), List.mem_of_getElem? (i := 784) (by decide +kernel), List.mem_of_getElem? (i := 785) (by decide +kernel)⟩
theorem lw_p18 : lw_okq (⟨"PostFrame", "ruleAt", "(I)LPostFrame$Rule;"⟩, 14) := ⟨⟨by decide +kernel, by decide +kernel⟩, List.mem_of_getElem? (i := 22) (by decide +kernel), List.mem_of_getElem? (i := 788) (by decide +kernel), List.mem_of_getElem? (i := 789) (by decide +kernel)⟩
theorem lw_p19 : lw_okq (⟨"PostFrame$Runner", "choose", "(LPostFrame$Rule;)I"⟩, 6) := ⟨⟨by decide +kernel, by decide +kernel⟩, List.mem_of_getElem? (i := 308) (by decide +kernel), List.mem_of_getElem? (i := 796) (by decide +kernel), List.mem_of_getElem? (i := 797) (by decide +kernel)⟩
theorem lw_p20 : lw_okq (⟨"PostFrame$Runner", "describe", "(I)V"⟩, 6) := ⟨⟨by decide +kernel, by decide +kernel⟩, List.mem_of_getElem? (i := 308) (by decide +kernel), List.mem_of_getElem? (i := 801) (by decide +kernel), List.mem_of_getElem? (i := 802) (by decide +kernel)⟩
theorem lw_p21 : lw_okq (⟨"PostFrame$Rule", "run", "(II[J)J"⟩, 4) := ⟨⟨by decide +kernel, by decide +kernel⟩, List.mem_of_getElem? (i := 698) (by decide +kernel), List.mem_of_getElem? (i := 823) (by decide +kernel), List.mem_of_getElem? (i := 824) (by decide +kernel)⟩
theorem lw_p22 : lw_okq (⟨"PostFrame$Runner", "lay", "(I)V"⟩, 6) := ⟨⟨by decide +kernel, by decide +kernel⟩, List.mem_of_getElem? (i := 308) (by decide +kernel), List.mem_of_getElem? (i := 839) (by decide +kernel), List.mem_of_getElem? (i := 840) (by decide +kernel)⟩
theorem lw_p23 : lw_okq (⟨"PostFrame", "remember", "()V"⟩, 14) := ⟨⟨by decide +kernel, by decide +kernel⟩, List.mem_of_getElem? (i := 22) (by decide +kernel), List.mem_of_getElem? (i := 851) (by decide +kernel), List.mem_of_getElem? (i := 852) (by decide +kernel)⟩
theorem lw_p24 : lw_okq (⟨"PostFrame", "drawNow", "()V"⟩, 14) := ⟨⟨by decide +kernel, by decide +kernel⟩, List.mem_of_getElem? (i := 22) (by decide +kernel), List.mem_of_getElem? (i := 898) (by decide +kernel), List.mem_of_getElem? (i := 899) (by decide +kernel)⟩
theorem lw_p25 : lw_okq (⟨"PostFrame$Chart", "isMeant", "(I)Z"⟩, 6) := ⟨⟨by decide +kernel, by decide +kernel⟩, List.mem_of_getElem? (i := 278) (by decide +kernel), List.mem_of_getElem? (i := 921) (by decide +kernel), List.mem_of_getElem? (i := 922) (by decide +kernel)⟩
theorem lw_p26 : lw_okq (⟨"PostFrame$Chart", "decides", "(I)Z"⟩, 6) := ⟨⟨by decide +kernel, by decide +kernel⟩, List.mem_of_getElem? (i := 278) (by decide +kernel), List.mem_of_getElem? (i := 935) (by decide +kernel), List.mem_of_getElem? (i := 936) (by decide +kernel)⟩
theorem lw_p27 : lw_okq (⟨"PostFrame$Chart", "joinCosts", "(I)V"⟩, 6) := ⟨⟨by decide +kernel, by decide +kernel⟩, List.mem_of_getElem? (i := 278) (by decide +kernel), List.mem_of_getElem? (i := 991) (by decide +kernel), List.mem_of_getElem? (i := 992) (by decide +kernel)⟩
theorem lw_p28 : lw_okq (⟨"PostFrame$Advice", "tryAsIs", "(LPostFrame$Shape;LPostFrame$Work;)V"⟩, 14) := ⟨⟨by decide +kernel, by decide +kernel⟩, List.mem_of_getElem? (i := 341) (by decide +kernel), List.mem_of_getElem? (i := 1004) (by decide +kernel), List.mem_of_getElem? (i := 1005) (by decide +kernel)⟩
theorem lw_p29 : lw_okq (⟨"PostFrame$Advice", "tryGoals", "(LPostFrame$Shape;LPostFrame$Work;)V"⟩, 14) := ⟨⟨by decide +kernel, by decide +kernel⟩, List.mem_of_getElem? (i := 341) (by decide +kernel), List.mem_of_getElem? (i := 1009) (by decide +kernel), List.mem_of_getElem? (i := 1010) (by decide +kernel)⟩
theorem lw_p30 : lw_okq (⟨"PostFrame$Advice", "tryPrefix", "(LPostFrame$Shape;LPostFrame$Work;II)V"⟩, 14) := ⟨⟨by decide +kernel, by decide +kernel⟩, List.mem_of_getElem? (i := 341) (by decide +kernel), List.mem_of_getElem? (i := 1017) (by decide +kernel), List.mem_of_getElem? (i := 1018) (by decide +kernel)⟩
theorem lw_p31 : lw_okq (⟨"PostFrame$Advice", "sendByEntry", "(LPostFrame$Shape;LPostFrame$Work;III)Z"⟩, 14) := ⟨⟨by decide +kernel, by decide +kernel⟩, List.mem_of_getElem? (i := 341) (by decide +kernel), List.mem_of_getElem? (i := 1021) (by decide +kernel), List.mem_of_getElem? (i := 1022) (by decide +kernel)⟩
def lw_privs_2 : List (MethodName × Nat) := [(⟨"PostFrame$Chart", "lay", "(I)V"⟩, 6), (⟨"PostFrame", "ruleInForce", "()LPostFrame$Rule;"⟩, 14), (⟨"PostFrame", "ruleAt", "(I)LPostFrame$Rule;"⟩, 14), (⟨"PostFrame$Runner", "choose", "(LPostFrame$Rule;)I"⟩, 6), (⟨"PostFrame$Runner", "describe", "(I)V"⟩, 6), (⟨"PostFrame$Rule", "run", "(II[J)J"⟩, 4), (⟨"PostFrame$Runner", "lay", "(I)V"⟩, 6), (⟨"PostFrame", "remember", "()V"⟩, 14), (⟨"PostFrame", "drawNow", "()V"⟩, 14), (⟨"PostFrame$Chart", "isMeant", "(I)Z"⟩, 6), (⟨"PostFrame$Chart", "decides", "(I)Z"⟩, 6), (⟨"PostFrame$Chart", "joinCosts", "(I)V"⟩, 6), (⟨"PostFrame$Advice", "tryAsIs", "(LPostFrame$Shape;LPostFrame$Work;)V"⟩, 14), (⟨"PostFrame$Advice", "tryGoals", "(LPostFrame$Shape;LPostFrame$Work;)V"⟩, 14), (⟨"PostFrame$Advice", "tryPrefix", "(LPostFrame$Shape;LPostFrame$Work;II)V"⟩, 14), (⟨"PostFrame$Advice", "sendByEntry", "(LPostFrame$Shape;LPostFrame$Work;III)Z"⟩, 14)]
theorem lw_r2 : ∀ q ∈ lw_privs_2, lw_okq q := List.forall_mem_cons.mpr ⟨lw_p16, List.forall_mem_cons.mpr ⟨lw_p17, List.forall_mem_cons.mpr ⟨lw_p18, List.forall_mem_cons.mpr ⟨lw_p19, List.forall_mem_cons.mpr ⟨lw_p20, List.forall_mem_cons.mpr ⟨lw_p21, List.forall_mem_cons.mpr ⟨lw_p22, List.forall_mem_cons.mpr ⟨lw_p23, List.forall_mem_cons.mpr ⟨lw_p24, List.forall_mem_cons.mpr ⟨lw_p25, List.forall_mem_cons.mpr ⟨lw_p26, List.forall_mem_cons.mpr ⟨lw_p27, List.forall_mem_cons.mpr ⟨lw_p28, List.forall_mem_cons.mpr ⟨lw_p29, List.forall_mem_cons.mpr ⟨lw_p30, List.forall_mem_cons.mpr ⟨lw_p31, fun _ h => absurd h List.not_mem_nil⟩⟩⟩⟩⟩⟩⟩⟩⟩⟩⟩⟩⟩⟩⟩⟩
theorem lw_p32 : lw_okq (⟨"PostFrame$Advice", "sendChanged", "(LPostFrame$Work;II)V"⟩, 14) := ⟨⟨by decide +kernel, by decide +kernel⟩, List.mem_of_getElem? (i := 341) (by decide +kernel), List.mem_of_getElem? (i := 1038) (by decide +kernel), List.mem_of_getElem? (i := 1039) (by decide +kernel)⟩
theorem lw_p33 : lw_okq (⟨"PostFrame$Advice", "mostAlike", "(I)I"⟩, 14) := ⟨⟨by decide +kernel, by decide +kernel⟩, List.mem_of_getElem? (i := 341) (by decide +kernel), List.mem_of_getElem? (i := 1127) (by decide +kernel), List.mem_of_getElem? (i := 1128) (by decide +kernel)⟩
theorem lw_p34 : lw_okq (⟨"PostFrame$Runner", "draw", "()I"⟩, 6) := ⟨⟨by decide +kernel, by decide +kernel⟩, List.mem_of_getElem? (i := 308) (by decide +kernel), List.mem_of_getElem? (i := 1144) (by decide +kernel), List.mem_of_getElem? (i := 1145) (by decide +kernel)⟩
theorem lw_p35 : lw_okq (⟨"PostFrameModel", "four", "(I)V"⟩, 42) := ⟨⟨by decide +kernel, by decide +kernel⟩, List.mem_of_getElem? (i := 1166) (by decide +kernel), List.mem_of_getElem? (i := 1303) (by decide +kernel), List.mem_of_getElem? (i := 1304) (by decide +kernel)⟩
theorem lw_p36 : lw_okq (⟨"PostFrameModel", "readsAll", "()Z"⟩, 42) := ⟨⟨by decide +kernel, by decide +kernel⟩, List.mem_of_getElem? (i := 1166) (by decide +kernel), List.mem_of_getElem? (i := 1315) (by decide +kernel), List.mem_of_getElem? (i := 1316) (by decide +kernel)⟩
theorem lw_p37 : lw_okq (⟨"PostFrameModel", "clauseHere", "()Z"⟩, 42) := ⟨⟨by decide +kernel, by decide +kernel⟩, List.mem_of_getElem? (i := 1166) (by decide +kernel), List.mem_of_getElem? (i := 1319) (by decide +kernel), List.mem_of_getElem? (i := 1320) (by decide +kernel)⟩
theorem lw_p38 : lw_okq (⟨"PostFrameModel", "see", "()I"⟩, 42) := ⟨⟨by decide +kernel, by decide +kernel⟩, List.mem_of_getElem? (i := 1166) (by decide +kernel), List.mem_of_getElem? (i := 1323) (by decide +kernel), List.mem_of_getElem? (i := 1324) (by decide +kernel)⟩
theorem lw_p39 : lw_okq (⟨"PostFrameModel", "isFrameWord", "()Z"⟩, 42) := ⟨⟨by decide +kernel, by decide +kernel⟩, List.mem_of_getElem? (i := 1166) (by decide +kernel), List.mem_of_getElem? (i := 1327) (by decide +kernel), List.mem_of_getElem? (i := 1328) (by decide +kernel)⟩
theorem lw_p40 : lw_okq (⟨"PostFrameModel", "isWord", "(J)Z"⟩, 42) := ⟨⟨by decide +kernel, by decide +kernel⟩, List.mem_of_getElem? (i := 1166) (by decide +kernel), List.mem_of_getElem? (i := 1332) (by decide +kernel), List.mem_of_getElem? (i := 1333) (by decide +kernel)⟩
theorem lw_p41 : lw_okq (⟨"PostFrameModel", "isLetter", "(I)Z"⟩, 42) := ⟨⟨by decide +kernel, by decide +kernel⟩, List.mem_of_getElem? (i := 1166) (by decide +kernel), List.mem_of_getElem? (i := 1336) (by decide +kernel), List.mem_of_getElem? (i := 1337) (by decide +kernel)⟩
theorem lw_p42 : lw_okq (⟨"PostFrameModel", "fails", "(II)Z"⟩, 42) := ⟨⟨by decide +kernel, by decide +kernel⟩, List.mem_of_getElem? (i := 1166) (by decide +kernel), List.mem_of_getElem? (i := 1344) (by decide +kernel), List.mem_of_getElem? (i := 1345) (by decide +kernel)⟩
theorem lw_p43 : lw_okq (⟨"PostFrameModel", "frameLineHere", "(I)Z"⟩, 42) := ⟨⟨by decide +kernel, by decide +kernel⟩, List.mem_of_getElem? (i := 1166) (by decide +kernel), List.mem_of_getElem? (i := 1348) (by decide +kernel), List.mem_of_getElem? (i := 1349) (by decide +kernel)⟩
theorem lw_p44 : lw_okq (⟨"PostFrameModel", "isFrameHere", "(I)Z"⟩, 42) := ⟨⟨by decide +kernel, by decide +kernel⟩, List.mem_of_getElem? (i := 1166) (by decide +kernel), List.mem_of_getElem? (i := 1352) (by decide +kernel), List.mem_of_getElem? (i := 1353) (by decide +kernel)⟩
theorem lw_p45 : lw_okq (⟨"PostFrameModel", "passWord", "()V"⟩, 42) := ⟨⟨by decide +kernel, by decide +kernel⟩, List.mem_of_getElem? (i := 1166) (by decide +kernel), List.mem_of_getElem? (i := 1356) (by decide +kernel), List.mem_of_getElem? (i := 1357) (by decide +kernel)⟩
theorem lw_p46 : lw_okq (⟨"PostFrameModel", "cellHere", "(III)Z"⟩, 42) := ⟨⟨by decide +kernel, by decide +kernel⟩, List.mem_of_getElem? (i := 1166) (by decide +kernel), List.mem_of_getElem? (i := 1360) (by decide +kernel), List.mem_of_getElem? (i := 1361) (by decide +kernel)⟩
theorem lw_p47 : lw_okq (⟨"PostFrameModel", "numberHere", "(II)Z"⟩, 42) := ⟨⟨by decide +kernel, by decide +kernel⟩, List.mem_of_getElem? (i := 1166) (by decide +kernel), List.mem_of_getElem? (i := 1364) (by decide +kernel), List.mem_of_getElem? (i := 1365) (by decide +kernel)⟩
def lw_privs_3 : List (MethodName × Nat) := [(⟨"PostFrame$Advice", "sendChanged", "(LPostFrame$Work;II)V"⟩, 14), (⟨"PostFrame$Advice", "mostAlike", "(I)I"⟩, 14), (⟨"PostFrame$Runner", "draw", "()I"⟩, 6), (⟨"PostFrameModel", "four", "(I)V"⟩, 42), (⟨"PostFrameModel", "readsAll", "()Z"⟩, 42), (⟨"PostFrameModel", "clauseHere", "()Z"⟩, 42), (⟨"PostFrameModel", "see", "()I"⟩, 42), (⟨"PostFrameModel", "isFrameWord", "()Z"⟩, 42), (⟨"PostFrameModel", "isWord", "(J)Z"⟩, 42), (⟨"PostFrameModel", "isLetter", "(I)Z"⟩, 42), (⟨"PostFrameModel", "fails", "(II)Z"⟩, 42), (⟨"PostFrameModel", "frameLineHere", "(I)Z"⟩, 42), (⟨"PostFrameModel", "isFrameHere", "(I)Z"⟩, 42), (⟨"PostFrameModel", "passWord", "()V"⟩, 42), (⟨"PostFrameModel", "cellHere", "(III)Z"⟩, 42), (⟨"PostFrameModel", "numberHere", "(II)Z"⟩, 42)]
theorem lw_r3 : ∀ q ∈ lw_privs_3, lw_okq q := List.forall_mem_cons.mpr ⟨lw_p32, List.forall_mem_cons.mpr ⟨lw_p33, List.forall_mem_cons.mpr ⟨lw_p34, List.forall_mem_cons.mpr ⟨lw_p35, List.forall_mem_cons.mpr ⟨lw_p36, List.forall_mem_cons.mpr ⟨lw_p37, List.forall_mem_cons.mpr ⟨lw_p38, List.forall_mem_cons.mpr ⟨lw_p39, List.forall_mem_cons.mpr ⟨lw_p40, List.forall_mem_cons.mpr ⟨lw_p41, List.forall_mem_cons.mpr ⟨lw_p42, List.forall_mem_cons.mpr ⟨lw_p43, List.forall_mem_cons.mpr ⟨lw_p44, List.forall_mem_cons.mpr ⟨lw_p45, List.forall_mem_cons.mpr ⟨lw_p46, List.forall_mem_cons.mpr ⟨lw_p47, fun _ h => absurd h List.not_mem_nil⟩⟩⟩⟩⟩⟩⟩⟩⟩⟩⟩⟩⟩⟩⟩⟩
theorem lw_p48 : lw_okq (⟨"PostFrameModel", "isDigit", "(I)Z"⟩, 42) := ⟨⟨by decide +kernel, by decide +kernel⟩, List.mem_of_getElem? (i := 1166) (by decide +kernel), List.mem_of_getElem? (i := 1368) (by decide +kernel), List.mem_of_getElem? (i := 1369) (by decide +kernel)⟩
theorem lw_p49 : lw_okq (⟨"PostFrameModel", "isRoomHere", "()Z"⟩, 42) := ⟨⟨by decide +kernel, by decide +kernel⟩, List.mem_of_getElem? (i := 1166) (by decide +kernel), List.mem_of_getElem? (i := 1375) (by decide +kernel), List.mem_of_getElem? (i := 1376) (by decide +kernel)⟩
theorem lw_p50 : lw_okq (⟨"PostFrameModel", "isPlanHere", "(I)Z"⟩, 42) := ⟨⟨by decide +kernel, by decide +kernel⟩, List.mem_of_getElem? (i := 1166) (by decide +kernel), List.mem_of_getElem? (i := 1379) (by decide +kernel), List.mem_of_getElem? (i := 1380) (by decide +kernel)⟩
theorem lw_p51 : lw_okq (⟨"PostFrameModel", "isLetterToldHere", "(I)Z"⟩, 42) := ⟨⟨by decide +kernel, by decide +kernel⟩, List.mem_of_getElem? (i := 1166) (by decide +kernel), List.mem_of_getElem? (i := 1386) (by decide +kernel), List.mem_of_getElem? (i := 1387) (by decide +kernel)⟩
theorem lw_p52 : lw_okq (⟨"PostFrameModel", "isTakeHere", "()Z"⟩, 42) := ⟨⟨by decide +kernel, by decide +kernel⟩, List.mem_of_getElem? (i := 1166) (by decide +kernel), List.mem_of_getElem? (i := 1390) (by decide +kernel), List.mem_of_getElem? (i := 1391) (by decide +kernel)⟩
theorem lw_p53 : lw_okq (⟨"PostFrameModel", "sum", "()Z"⟩, 42) := ⟨⟨by decide +kernel, by decide +kernel⟩, List.mem_of_getElem? (i := 1166) (by decide +kernel), List.mem_of_getElem? (i := 1394) (by decide +kernel), List.mem_of_getElem? (i := 1395) (by decide +kernel)⟩
theorem lw_p54 : lw_okq (⟨"PostFrameModel", "term", "()Z"⟩, 42) := ⟨⟨by decide +kernel, by decide +kernel⟩, List.mem_of_getElem? (i := 1166) (by decide +kernel), List.mem_of_getElem? (i := 1398) (by decide +kernel), List.mem_of_getElem? (i := 1399) (by decide +kernel)⟩
theorem lw_p55 : lw_okq (⟨"PostFrameModel", "value", "()Z"⟩, 42) := ⟨⟨by decide +kernel, by decide +kernel⟩, List.mem_of_getElem? (i := 1166) (by decide +kernel), List.mem_of_getElem? (i := 1402) (by decide +kernel), List.mem_of_getElem? (i := 1403) (by decide +kernel)⟩
theorem lw_p56 : lw_okq (⟨"PostFrameModel", "makes", "(I)Z"⟩, 42) := ⟨⟨by decide +kernel, by decide +kernel⟩, List.mem_of_getElem? (i := 1166) (by decide +kernel), List.mem_of_getElem? (i := 1407) (by decide +kernel), List.mem_of_getElem? (i := 1408) (by decide +kernel)⟩
theorem lw_p57 : lw_okq (⟨"PostFrameModel", "puts", "(II)V"⟩, 42) := ⟨⟨by decide +kernel, by decide +kernel⟩, List.mem_of_getElem? (i := 1166) (by decide +kernel), List.mem_of_getElem? (i := 1411) (by decide +kernel), List.mem_of_getElem? (i := 1412) (by decide +kernel)⟩
theorem lw_p58 : lw_okq (⟨"PostFrameModel", "wordHere", "()I"⟩, 42) := ⟨⟨by decide +kernel, by decide +kernel⟩, List.mem_of_getElem? (i := 1166) (by decide +kernel), List.mem_of_getElem? (i := 1415) (by decide +kernel), List.mem_of_getElem? (i := 1416) (by decide +kernel)⟩
theorem lw_p59 : lw_okq (⟨"PostFrameModel", "takesWord", "(J)Z"⟩, 42) := ⟨⟨by decide +kernel, by decide +kernel⟩, List.mem_of_getElem? (i := 1166) (by decide +kernel), List.mem_of_getElem? (i := 1430) (by decide +kernel), List.mem_of_getElem? (i := 1431) (by decide +kernel)⟩
theorem lw_p60 : lw_okq (⟨"PostFrameModel", "tested", "()Z"⟩, 42) := ⟨⟨by decide +kernel, by decide +kernel⟩, List.mem_of_getElem? (i := 1166) (by decide +kernel), List.mem_of_getElem? (i := 1434) (by decide +kernel), List.mem_of_getElem? (i := 1435) (by decide +kernel)⟩
theorem lw_p61 : lw_okq (⟨"PostFrameModel", "fact", "()Z"⟩, 42) := ⟨⟨by decide +kernel, by decide +kernel⟩, List.mem_of_getElem? (i := 1166) (by decide +kernel), List.mem_of_getElem? (i := 1438) (by decide +kernel), List.mem_of_getElem? (i := 1439) (by decide +kernel)⟩
theorem lw_p62 : lw_okq (⟨"PostFrameModel", "opens", "(I)Z"⟩, 42) := ⟨⟨by decide +kernel, by decide +kernel⟩, List.mem_of_getElem? (i := 1166) (by decide +kernel), List.mem_of_getElem? (i := 1443) (by decide +kernel), List.mem_of_getElem? (i := 1444) (by decide +kernel)⟩
theorem lw_p63 : lw_okq (⟨"PostFrameModel", "compare", "()Z"⟩, 42) := ⟨⟨by decide +kernel, by decide +kernel⟩, List.mem_of_getElem? (i := 1166) (by decide +kernel), List.mem_of_getElem? (i := 1447) (by decide +kernel), List.mem_of_getElem? (i := 1448) (by decide +kernel)⟩
def lw_privs_4 : List (MethodName × Nat) := [(⟨"PostFrameModel", "isDigit", "(I)Z"⟩, 42), (⟨"PostFrameModel", "isRoomHere", "()Z"⟩, 42), (⟨"PostFrameModel", "isPlanHere", "(I)Z"⟩, 42), (⟨"PostFrameModel", "isLetterToldHere", "(I)Z"⟩, 42), (⟨"PostFrameModel", "isTakeHere", "()Z"⟩, 42), (⟨"PostFrameModel", "sum", "()Z"⟩, 42), (⟨"PostFrameModel", "term", "()Z"⟩, 42), (⟨"PostFrameModel", "value", "()Z"⟩, 42), (⟨"PostFrameModel", "makes", "(I)Z"⟩, 42), (⟨"PostFrameModel", "puts", "(II)V"⟩, 42), (⟨"PostFrameModel", "wordHere", "()I"⟩, 42), (⟨"PostFrameModel", "takesWord", "(J)Z"⟩, 42), (⟨"PostFrameModel", "tested", "()Z"⟩, 42), (⟨"PostFrameModel", "fact", "()Z"⟩, 42), (⟨"PostFrameModel", "opens", "(I)Z"⟩, 42), (⟨"PostFrameModel", "compare", "()Z"⟩, 42)]
theorem lw_r4 : ∀ q ∈ lw_privs_4, lw_okq q := List.forall_mem_cons.mpr ⟨lw_p48, List.forall_mem_cons.mpr ⟨lw_p49, List.forall_mem_cons.mpr ⟨lw_p50, List.forall_mem_cons.mpr ⟨lw_p51, List.forall_mem_cons.mpr ⟨lw_p52, List.forall_mem_cons.mpr ⟨lw_p53, List.forall_mem_cons.mpr ⟨lw_p54, List.forall_mem_cons.mpr ⟨lw_p55, List.forall_mem_cons.mpr ⟨lw_p56, List.forall_mem_cons.mpr ⟨lw_p57, List.forall_mem_cons.mpr ⟨lw_p58, List.forall_mem_cons.mpr ⟨lw_p59, List.forall_mem_cons.mpr ⟨lw_p60, List.forall_mem_cons.mpr ⟨lw_p61, List.forall_mem_cons.mpr ⟨lw_p62, List.forall_mem_cons.mpr ⟨lw_p63, fun _ h => absurd h List.not_mem_nil⟩⟩⟩⟩⟩⟩⟩⟩⟩⟩⟩⟩⟩⟩⟩⟩
theorem lw_p64 : lw_okq (⟨"PostFrameModel", "closes", "()V"⟩, 42) := ⟨⟨by decide +kernel, by decide +kernel⟩, List.mem_of_getElem? (i := 1166) (by decide +kernel), List.mem_of_getElem? (i := 1451) (by decide +kernel), List.mem_of_getElem? (i := 1452) (by decide +kernel)⟩
theorem lw_p65 : lw_okq (⟨"PostFrameModel", "layDown", "(I)V"⟩, 42) := ⟨⟨by decide +kernel, by decide +kernel⟩, List.mem_of_getElem? (i := 1166) (by decide +kernel), List.mem_of_getElem? (i := 1455) (by decide +kernel), List.mem_of_getElem? (i := 1456) (by decide +kernel)⟩
theorem lw_p66 : lw_okq (⟨"PostFrameModel", "isInside", "()Z"⟩, 42) := ⟨⟨by decide +kernel, by decide +kernel⟩, List.mem_of_getElem? (i := 1166) (by decide +kernel), List.mem_of_getElem? (i := 1462) (by decide +kernel), List.mem_of_getElem? (i := 1463) (by decide +kernel)⟩
theorem lw_p67 : lw_okq (⟨"PostFrameModel", "begins", "()V"⟩, 42) := ⟨⟨by decide +kernel, by decide +kernel⟩, List.mem_of_getElem? (i := 1166) (by decide +kernel), List.mem_of_getElem? (i := 1472) (by decide +kernel), List.mem_of_getElem? (i := 1473) (by decide +kernel)⟩
theorem lw_p68 : lw_okq (⟨"PostFrameModel", "isRule", "(I)Z"⟩, 42) := ⟨⟨by decide +kernel, by decide +kernel⟩, List.mem_of_getElem? (i := 1166) (by decide +kernel), List.mem_of_getElem? (i := 1480) (by decide +kernel), List.mem_of_getElem? (i := 1481) (by decide +kernel)⟩
theorem lw_p69 : lw_okq (⟨"PostFrameModel", "isHole", "(I)Z"⟩, 42) := ⟨⟨by decide +kernel, by decide +kernel⟩, List.mem_of_getElem? (i := 1166) (by decide +kernel), List.mem_of_getElem? (i := 1488) (by decide +kernel), List.mem_of_getElem? (i := 1489) (by decide +kernel)⟩
theorem lw_p70 : lw_okq (⟨"PostFrameModel", "isEntry", "(I)Z"⟩, 42) := ⟨⟨by decide +kernel, by decide +kernel⟩, List.mem_of_getElem? (i := 1166) (by decide +kernel), List.mem_of_getElem? (i := 1497) (by decide +kernel), List.mem_of_getElem? (i := 1498) (by decide +kernel)⟩
theorem lw_p71 : lw_okq (⟨"PostFrameModel", "isFrame", "()Z"⟩, 42) := ⟨⟨by decide +kernel, by decide +kernel⟩, List.mem_of_getElem? (i := 1166) (by decide +kernel), List.mem_of_getElem? (i := 1513) (by decide +kernel), List.mem_of_getElem? (i := 1514) (by decide +kernel)⟩
theorem lw_p72 : lw_okq (⟨"PostFrameModel", "keepsAct", "()V"⟩, 42) := ⟨⟨by decide +kernel, by decide +kernel⟩, List.mem_of_getElem? (i := 1166) (by decide +kernel), List.mem_of_getElem? (i := 1517) (by decide +kernel), List.mem_of_getElem? (i := 1518) (by decide +kernel)⟩
theorem lw_p73 : lw_okq (⟨"PostFrameModel", "passes", "()I"⟩, 42) := ⟨⟨by decide +kernel, by decide +kernel⟩, List.mem_of_getElem? (i := 1166) (by decide +kernel), List.mem_of_getElem? (i := 1521) (by decide +kernel), List.mem_of_getElem? (i := 1522) (by decide +kernel)⟩
theorem lw_p74 : lw_okq (⟨"PostFrameModel", "choice", "()I"⟩, 42) := ⟨⟨by decide +kernel, by decide +kernel⟩, List.mem_of_getElem? (i := 1166) (by decide +kernel), List.mem_of_getElem? (i := 1525) (by decide +kernel), List.mem_of_getElem? (i := 1526) (by decide +kernel)⟩
theorem lw_p75 : lw_okq (⟨"PostFrameModel", "sumOf", "(I)J"⟩, 42) := ⟨⟨by decide +kernel, by decide +kernel⟩, List.mem_of_getElem? (i := 1166) (by decide +kernel), List.mem_of_getElem? (i := 1529) (by decide +kernel), List.mem_of_getElem? (i := 1530) (by decide +kernel)⟩
theorem lw_p76 : lw_okq (⟨"PostFrameModel", "entryOf", "(I)I"⟩, 42) := ⟨⟨by decide +kernel, by decide +kernel⟩, List.mem_of_getElem? (i := 1166) (by decide +kernel), List.mem_of_getElem? (i := 1533) (by decide +kernel), List.mem_of_getElem? (i := 1534) (by decide +kernel)⟩
theorem lw_p77 : lw_okq (⟨"PostFrameModel", "prefixOf", "(II)I"⟩, 42) := ⟨⟨by decide +kernel, by decide +kernel⟩, List.mem_of_getElem? (i := 1166) (by decide +kernel), List.mem_of_getElem? (i := 1537) (by decide +kernel), List.mem_of_getElem? (i := 1538) (by decide +kernel)⟩
theorem lw_p78 : lw_okq (⟨"PostFrameModel", "holeOf", "(I)I"⟩, 42) := ⟨⟨by decide +kernel, by decide +kernel⟩, List.mem_of_getElem? (i := 1166) (by decide +kernel), List.mem_of_getElem? (i := 1541) (by decide +kernel), List.mem_of_getElem? (i := 1542) (by decide +kernel)⟩
theorem lw_p79 : lw_okq (⟨"PostFrameModel", "sumOver", "(I)I"⟩, 42) := ⟨⟨by decide +kernel, by decide +kernel⟩, List.mem_of_getElem? (i := 1166) (by decide +kernel), List.mem_of_getElem? (i := 1545) (by decide +kernel), List.mem_of_getElem? (i := 1546) (by decide +kernel)⟩
def lw_privs_5 : List (MethodName × Nat) := [(⟨"PostFrameModel", "closes", "()V"⟩, 42), (⟨"PostFrameModel", "layDown", "(I)V"⟩, 42), (⟨"PostFrameModel", "isInside", "()Z"⟩, 42), (⟨"PostFrameModel", "begins", "()V"⟩, 42), (⟨"PostFrameModel", "isRule", "(I)Z"⟩, 42), (⟨"PostFrameModel", "isHole", "(I)Z"⟩, 42), (⟨"PostFrameModel", "isEntry", "(I)Z"⟩, 42), (⟨"PostFrameModel", "isFrame", "()Z"⟩, 42), (⟨"PostFrameModel", "keepsAct", "()V"⟩, 42), (⟨"PostFrameModel", "passes", "()I"⟩, 42), (⟨"PostFrameModel", "choice", "()I"⟩, 42), (⟨"PostFrameModel", "sumOf", "(I)J"⟩, 42), (⟨"PostFrameModel", "entryOf", "(I)I"⟩, 42), (⟨"PostFrameModel", "prefixOf", "(II)I"⟩, 42), (⟨"PostFrameModel", "holeOf", "(I)I"⟩, 42), (⟨"PostFrameModel", "sumOver", "(I)I"⟩, 42)]
theorem lw_r5 : ∀ q ∈ lw_privs_5, lw_okq q := List.forall_mem_cons.mpr ⟨lw_p64, List.forall_mem_cons.mpr ⟨lw_p65, List.forall_mem_cons.mpr ⟨lw_p66, List.forall_mem_cons.mpr ⟨lw_p67, List.forall_mem_cons.mpr ⟨lw_p68, List.forall_mem_cons.mpr ⟨lw_p69, List.forall_mem_cons.mpr ⟨lw_p70, List.forall_mem_cons.mpr ⟨lw_p71, List.forall_mem_cons.mpr ⟨lw_p72, List.forall_mem_cons.mpr ⟨lw_p73, List.forall_mem_cons.mpr ⟨lw_p74, List.forall_mem_cons.mpr ⟨lw_p75, List.forall_mem_cons.mpr ⟨lw_p76, List.forall_mem_cons.mpr ⟨lw_p77, List.forall_mem_cons.mpr ⟨lw_p78, List.forall_mem_cons.mpr ⟨lw_p79, fun _ h => absurd h List.not_mem_nil⟩⟩⟩⟩⟩⟩⟩⟩⟩⟩⟩⟩⟩⟩⟩⟩
theorem lw_p80 : lw_okq (⟨"PostFrameModel", "summedBy", "(I)J"⟩, 42) := ⟨⟨by decide +kernel, by decide +kernel⟩, List.mem_of_getElem? (i := 1166) (by decide +kernel), List.mem_of_getElem? (i := 1549) (by decide +kernel), List.mem_of_getElem? (i := 1550) (by decide +kernel)⟩
theorem lw_p81 : lw_okq (⟨"PostFrameModel", "reckons", "(III)J"⟩, 42) := ⟨⟨by decide +kernel, by decide +kernel⟩, List.mem_of_getElem? (i := 1166) (by decide +kernel), List.mem_of_getElem? (i := 1553) (by decide +kernel), List.mem_of_getElem? (i := 1554) (by decide +kernel)⟩
theorem lw_p82 : lw_okq (⟨"PostFrameModel", "push", "(J)V"⟩, 42) := ⟨⟨by decide +kernel, by decide +kernel⟩, List.mem_of_getElem? (i := 1166) (by decide +kernel), List.mem_of_getElem? (i := 1557) (by decide +kernel), List.mem_of_getElem? (i := 1558) (by decide +kernel)⟩
theorem lw_p83 : lw_okq (⟨"PostFrameModel", "pop", "()J"⟩, 42) := ⟨⟨by decide +kernel, by decide +kernel⟩, List.mem_of_getElem? (i := 1166) (by decide +kernel), List.mem_of_getElem? (i := 1561) (by decide +kernel), List.mem_of_getElem? (i := 1562) (by decide +kernel)⟩
theorem lw_p84 : lw_okq (⟨"PostFrameModel", "leaves", "(I)I"⟩, 42) := ⟨⟨by decide +kernel, by decide +kernel⟩, List.mem_of_getElem? (i := 1166) (by decide +kernel), List.mem_of_getElem? (i := 1568) (by decide +kernel), List.mem_of_getElem? (i := 1569) (by decide +kernel)⟩
theorem lw_p85 : lw_okq (⟨"PostFrameModel", "sorts", "(I)V"⟩, 42) := ⟨⟨by decide +kernel, by decide +kernel⟩, List.mem_of_getElem? (i := 1166) (by decide +kernel), List.mem_of_getElem? (i := 1572) (by decide +kernel), List.mem_of_getElem? (i := 1573) (by decide +kernel)⟩
theorem lw_p86 : lw_okq (⟨"PostFrameModel", "ties", "(I)V"⟩, 42) := ⟨⟨by decide +kernel, by decide +kernel⟩, List.mem_of_getElem? (i := 1166) (by decide +kernel), List.mem_of_getElem? (i := 1576) (by decide +kernel), List.mem_of_getElem? (i := 1577) (by decide +kernel)⟩
theorem lw_p87 : lw_okq (⟨"PostFrameModel", "isCode", "(I)Z"⟩, 42) := ⟨⟨by decide +kernel, by decide +kernel⟩, List.mem_of_getElem? (i := 1166) (by decide +kernel), List.mem_of_getElem? (i := 1584) (by decide +kernel), List.mem_of_getElem? (i := 1585) (by decide +kernel)⟩
theorem lw_p88 : lw_okq (⟨"PostFrameModel", "codesMany", "()I"⟩, 42) := ⟨⟨by decide +kernel, by decide +kernel⟩, List.mem_of_getElem? (i := 1166) (by decide +kernel), List.mem_of_getElem? (i := 1588) (by decide +kernel), List.mem_of_getElem? (i := 1589) (by decide +kernel)⟩
theorem lw_p89 : lw_okq (⟨"PostFrameModel", "comes", "(I)V"⟩, 42) := ⟨⟨by decide +kernel, by decide +kernel⟩, List.mem_of_getElem? (i := 1166) (by decide +kernel), List.mem_of_getElem? (i := 1592) (by decide +kernel), List.mem_of_getElem? (i := 1593) (by decide +kernel)⟩
theorem lw_p90 : lw_okq (⟨"PostFrameModel", "canEnter", "(III)Z"⟩, 42) := ⟨⟨by decide +kernel, by decide +kernel⟩, List.mem_of_getElem? (i := 1166) (by decide +kernel), List.mem_of_getElem? (i := 1604) (by decide +kernel), List.mem_of_getElem? (i := 1605) (by decide +kernel)⟩
theorem lw_p91 : lw_okq (⟨"PostFrameModel", "numberOf", "(II)I"⟩, 42) := ⟨⟨by decide +kernel, by decide +kernel⟩, List.mem_of_getElem? (i := 1166) (by decide +kernel), List.mem_of_getElem? (i := 1608) (by decide +kernel), List.mem_of_getElem? (i := 1609) (by decide +kernel)⟩
theorem lw_p92 : lw_okq (⟨"PostFrameModel", "enters", "(III)I"⟩, 42) := ⟨⟨by decide +kernel, by decide +kernel⟩, List.mem_of_getElem? (i := 1166) (by decide +kernel), List.mem_of_getElem? (i := 1612) (by decide +kernel), List.mem_of_getElem? (i := 1613) (by decide +kernel)⟩
theorem lw_p93 : lw_okq (⟨"PostFrameModel", "isReading", "(I)Z"⟩, 42) := ⟨⟨by decide +kernel, by decide +kernel⟩, List.mem_of_getElem? (i := 1166) (by decide +kernel), List.mem_of_getElem? (i := 1628) (by decide +kernel), List.mem_of_getElem? (i := 1629) (by decide +kernel)⟩
theorem lw_p94 : lw_okq (⟨"PostFrameModel", "canMean", "(I)Z"⟩, 42) := ⟨⟨by decide +kernel, by decide +kernel⟩, List.mem_of_getElem? (i := 1166) (by decide +kernel), List.mem_of_getElem? (i := 1632) (by decide +kernel), List.mem_of_getElem? (i := 1633) (by decide +kernel)⟩
theorem lw_p95 : lw_okq (⟨"PostFrameModel", "digitOf", "(II)I"⟩, 42) := ⟨⟨by decide +kernel, by decide +kernel⟩, List.mem_of_getElem? (i := 1166) (by decide +kernel), List.mem_of_getElem? (i := 1636) (by decide +kernel), List.mem_of_getElem? (i := 1637) (by decide +kernel)⟩
def lw_privs_6 : List (MethodName × Nat) := [(⟨"PostFrameModel", "summedBy", "(I)J"⟩, 42), (⟨"PostFrameModel", "reckons", "(III)J"⟩, 42), (⟨"PostFrameModel", "push", "(J)V"⟩, 42), (⟨"PostFrameModel", "pop", "()J"⟩, 42), (⟨"PostFrameModel", "leaves", "(I)I"⟩, 42), (⟨"PostFrameModel", "sorts", "(I)V"⟩, 42), (⟨"PostFrameModel", "ties", "(I)V"⟩, 42), (⟨"PostFrameModel", "isCode", "(I)Z"⟩, 42), (⟨"PostFrameModel", "codesMany", "()I"⟩, 42), (⟨"PostFrameModel", "comes", "(I)V"⟩, 42), (⟨"PostFrameModel", "canEnter", "(III)Z"⟩, 42), (⟨"PostFrameModel", "numberOf", "(II)I"⟩, 42), (⟨"PostFrameModel", "enters", "(III)I"⟩, 42), (⟨"PostFrameModel", "isReading", "(I)Z"⟩, 42), (⟨"PostFrameModel", "canMean", "(I)Z"⟩, 42), (⟨"PostFrameModel", "digitOf", "(II)I"⟩, 42)]
theorem lw_r6 : ∀ q ∈ lw_privs_6, lw_okq q := List.forall_mem_cons.mpr ⟨lw_p80, List.forall_mem_cons.mpr ⟨lw_p81, List.forall_mem_cons.mpr ⟨lw_p82, List.forall_mem_cons.mpr ⟨lw_p83, List.forall_mem_cons.mpr ⟨lw_p84, List.forall_mem_cons.mpr ⟨lw_p85, List.forall_mem_cons.mpr ⟨lw_p86, List.forall_mem_cons.mpr ⟨lw_p87, List.forall_mem_cons.mpr ⟨lw_p88, List.forall_mem_cons.mpr ⟨lw_p89, List.forall_mem_cons.mpr ⟨lw_p90, List.forall_mem_cons.mpr ⟨lw_p91, List.forall_mem_cons.mpr ⟨lw_p92, List.forall_mem_cons.mpr ⟨lw_p93, List.forall_mem_cons.mpr ⟨lw_p94, List.forall_mem_cons.mpr ⟨lw_p95, fun _ h => absurd h List.not_mem_nil⟩⟩⟩⟩⟩⟩⟩⟩⟩⟩⟩⟩⟩⟩⟩⟩
theorem lw_p96 : lw_okq (⟨"PostFrameModel", "fillsGoes", "()V"⟩, 42) := ⟨⟨by decide +kernel, by decide +kernel⟩, List.mem_of_getElem? (i := 1166) (by decide +kernel), List.mem_of_getElem? (i := 1644) (by decide +kernel), List.mem_of_getElem? (i := 1645) (by decide +kernel)⟩
theorem lw_p97 : lw_okq (⟨"PostFrameModel", "isEnough", "(I)Z"⟩, 42) := ⟨⟨by decide +kernel, by decide +kernel⟩, List.mem_of_getElem? (i := 1166) (by decide +kernel), List.mem_of_getElem? (i := 1651) (by decide +kernel), List.mem_of_getElem? (i := 1652) (by decide +kernel)⟩
theorem lw_p98 : lw_okq (⟨"PostFrameModel", "areLike", "(III)Z"⟩, 42) := ⟨⟨by decide +kernel, by decide +kernel⟩, List.mem_of_getElem? (i := 1166) (by decide +kernel), List.mem_of_getElem? (i := 1655) (by decide +kernel), List.mem_of_getElem? (i := 1656) (by decide +kernel)⟩
theorem lw_p99 : lw_okq (⟨"PostFrameModel", "slipsOf", "(I)I"⟩, 42) := ⟨⟨by decide +kernel, by decide +kernel⟩, List.mem_of_getElem? (i := 1166) (by decide +kernel), List.mem_of_getElem? (i := 1670) (by decide +kernel), List.mem_of_getElem? (i := 1671) (by decide +kernel)⟩
theorem lw_p100 : lw_okq (⟨"PostFrameModel", "needsOfCodes", "()V"⟩, 42) := ⟨⟨by decide +kernel, by decide +kernel⟩, List.mem_of_getElem? (i := 1166) (by decide +kernel), List.mem_of_getElem? (i := 1686) (by decide +kernel), List.mem_of_getElem? (i := 1687) (by decide +kernel)⟩
theorem lw_p101 : lw_okq (⟨"PostFrameModel", "needsOf", "(I)V"⟩, 42) := ⟨⟨by decide +kernel, by decide +kernel⟩, List.mem_of_getElem? (i := 1166) (by decide +kernel), List.mem_of_getElem? (i := 1690) (by decide +kernel), List.mem_of_getElem? (i := 1691) (by decide +kernel)⟩
theorem lw_p102 : lw_okq (⟨"PostFrameModel", "needBelow", "(II)I"⟩, 42) := ⟨⟨by decide +kernel, by decide +kernel⟩, List.mem_of_getElem? (i := 1166) (by decide +kernel), List.mem_of_getElem? (i := 1694) (by decide +kernel), List.mem_of_getElem? (i := 1695) (by decide +kernel)⟩
theorem lw_p103 : lw_okq (⟨"PostFrameModel", "keeps", "()V"⟩, 42) := ⟨⟨by decide +kernel, by decide +kernel⟩, List.mem_of_getElem? (i := 1166) (by decide +kernel), List.mem_of_getElem? (i := 1703) (by decide +kernel), List.mem_of_getElem? (i := 1704) (by decide +kernel)⟩
theorem lw_p104 : lw_okq (⟨"PostFrameModel", "sortsAll", "()V"⟩, 42) := ⟨⟨by decide +kernel, by decide +kernel⟩, List.mem_of_getElem? (i := 1166) (by decide +kernel), List.mem_of_getElem? (i := 1707) (by decide +kernel), List.mem_of_getElem? (i := 1708) (by decide +kernel)⟩
theorem lw_p105 : lw_okq (⟨"PostFrameModel", "laysBack", "()V"⟩, 42) := ⟨⟨by decide +kernel, by decide +kernel⟩, List.mem_of_getElem? (i := 1166) (by decide +kernel), List.mem_of_getElem? (i := 1711) (by decide +kernel), List.mem_of_getElem? (i := 1712) (by decide +kernel)⟩
theorem lw_p106 : lw_okq (⟨"PostFrameModel", "triesEntry", "(III)V"⟩, 42) := ⟨⟨by decide +kernel, by decide +kernel⟩, List.mem_of_getElem? (i := 1166) (by decide +kernel), List.mem_of_getElem? (i := 1715) (by decide +kernel), List.mem_of_getElem? (i := 1716) (by decide +kernel)⟩
theorem lw_p107 : lw_okq (⟨"PostFrameModel", "changes", "(II)V"⟩, 42) := ⟨⟨by decide +kernel, by decide +kernel⟩, List.mem_of_getElem? (i := 1166) (by decide +kernel), List.mem_of_getElem? (i := 1723) (by decide +kernel), List.mem_of_getElem? (i := 1724) (by decide +kernel)⟩
theorem lw_p108 : lw_okq (⟨"PostFrameModel", "passesAll", "(I)V"⟩, 42) := ⟨⟨by decide +kernel, by decide +kernel⟩, List.mem_of_getElem? (i := 1166) (by decide +kernel), List.mem_of_getElem? (i := 1733) (by decide +kernel), List.mem_of_getElem? (i := 1734) (by decide +kernel)⟩
theorem lw_p109 : lw_okq (⟨"PostFrameModel", "isTiedIn", "(II)Z"⟩, 42) := ⟨⟨by decide +kernel, by decide +kernel⟩, List.mem_of_getElem? (i := 1166) (by decide +kernel), List.mem_of_getElem? (i := 1750) (by decide +kernel), List.mem_of_getElem? (i := 1751) (by decide +kernel)⟩
theorem lw_p110 : lw_okq (⟨"PostFrameModel", "fillsFits", "(I)V"⟩, 42) := ⟨⟨by decide +kernel, by decide +kernel⟩, List.mem_of_getElem? (i := 1166) (by decide +kernel), List.mem_of_getElem? (i := 1769) (by decide +kernel), List.mem_of_getElem? (i := 1770) (by decide +kernel)⟩
theorem lw_p111 : lw_okq (⟨"PostFrameModel", "areAllSo", "(II)Z"⟩, 42) := ⟨⟨by decide +kernel, by decide +kernel⟩, List.mem_of_getElem? (i := 1166) (by decide +kernel), List.mem_of_getElem? (i := 1773) (by decide +kernel), List.mem_of_getElem? (i := 1774) (by decide +kernel)⟩
def lw_privs_7 : List (MethodName × Nat) := [(⟨"PostFrameModel", "fillsGoes", "()V"⟩, 42), (⟨"PostFrameModel", "isEnough", "(I)Z"⟩, 42), (⟨"PostFrameModel", "areLike", "(III)Z"⟩, 42), (⟨"PostFrameModel", "slipsOf", "(I)I"⟩, 42), (⟨"PostFrameModel", "needsOfCodes", "()V"⟩, 42), (⟨"PostFrameModel", "needsOf", "(I)V"⟩, 42), (⟨"PostFrameModel", "needBelow", "(II)I"⟩, 42), (⟨"PostFrameModel", "keeps", "()V"⟩, 42), (⟨"PostFrameModel", "sortsAll", "()V"⟩, 42), (⟨"PostFrameModel", "laysBack", "()V"⟩, 42), (⟨"PostFrameModel", "triesEntry", "(III)V"⟩, 42), (⟨"PostFrameModel", "changes", "(II)V"⟩, 42), (⟨"PostFrameModel", "passesAll", "(I)V"⟩, 42), (⟨"PostFrameModel", "isTiedIn", "(II)Z"⟩, 42), (⟨"PostFrameModel", "fillsFits", "(I)V"⟩, 42), (⟨"PostFrameModel", "areAllSo", "(II)Z"⟩, 42)]
theorem lw_r7 : ∀ q ∈ lw_privs_7, lw_okq q := List.forall_mem_cons.mpr ⟨lw_p96, List.forall_mem_cons.mpr ⟨lw_p97, List.forall_mem_cons.mpr ⟨lw_p98, List.forall_mem_cons.mpr ⟨lw_p99, List.forall_mem_cons.mpr ⟨lw_p100, List.forall_mem_cons.mpr ⟨lw_p101, List.forall_mem_cons.mpr ⟨lw_p102, List.forall_mem_cons.mpr ⟨lw_p103, List.forall_mem_cons.mpr ⟨lw_p104, List.forall_mem_cons.mpr ⟨lw_p105, List.forall_mem_cons.mpr ⟨lw_p106, List.forall_mem_cons.mpr ⟨lw_p107, List.forall_mem_cons.mpr ⟨lw_p108, List.forall_mem_cons.mpr ⟨lw_p109, List.forall_mem_cons.mpr ⟨lw_p110, List.forall_mem_cons.mpr ⟨lw_p111, fun _ h => absurd h List.not_mem_nil⟩⟩⟩⟩⟩⟩⟩⟩⟩⟩⟩⟩⟩⟩⟩⟩
theorem lw_p112 : lw_okq (⟨"PostFrameModel", "areNotesSo", "(I)Z"⟩, 42) := ⟨⟨by decide +kernel, by decide +kernel⟩, List.mem_of_getElem? (i := 1166) (by decide +kernel), List.mem_of_getElem? (i := 1777) (by decide +kernel), List.mem_of_getElem? (i := 1778) (by decide +kernel)⟩
theorem lw_p113 : lw_okq (⟨"PostFrameModel", "alikeAt", "(I)I"⟩, 42) := ⟨⟨by decide +kernel, by decide +kernel⟩, List.mem_of_getElem? (i := 1166) (by decide +kernel), List.mem_of_getElem? (i := 1785) (by decide +kernel), List.mem_of_getElem? (i := 1786) (by decide +kernel)⟩
theorem lw_p114 : lw_okq (⟨"PostFrameModel", "fillsCanBe", "(II)V"⟩, 42) := ⟨⟨by decide +kernel, by decide +kernel⟩, List.mem_of_getElem? (i := 1166) (by decide +kernel), List.mem_of_getElem? (i := 1793) (by decide +kernel), List.mem_of_getElem? (i := 1794) (by decide +kernel)⟩
theorem lw_p115 : lw_okq (⟨"PostFrameModel", "draw", "(I)I"⟩, 42) := ⟨⟨by decide +kernel, by decide +kernel⟩, List.mem_of_getElem? (i := 1166) (by decide +kernel), List.mem_of_getElem? (i := 1810) (by decide +kernel), List.mem_of_getElem? (i := 1811) (by decide +kernel)⟩
def lw_privs_8 : List (MethodName × Nat) := [(⟨"PostFrameModel", "areNotesSo", "(I)Z"⟩, 42), (⟨"PostFrameModel", "alikeAt", "(I)I"⟩, 42), (⟨"PostFrameModel", "fillsCanBe", "(II)V"⟩, 42), (⟨"PostFrameModel", "draw", "(I)I"⟩, 42)]
theorem lw_r8 : ∀ q ∈ lw_privs_8, lw_okq q := List.forall_mem_cons.mpr ⟨lw_p112, List.forall_mem_cons.mpr ⟨lw_p113, List.forall_mem_cons.mpr ⟨lw_p114, List.forall_mem_cons.mpr ⟨lw_p115, fun _ h => absurd h List.not_mem_nil⟩⟩⟩⟩
def lw_privs : List (MethodName × Nat) := lw_privs_1 ++ (lw_privs_2 ++ (lw_privs_3 ++ (lw_privs_4 ++ (lw_privs_5 ++ (lw_privs_6 ++ (lw_privs_7 ++ (lw_privs_8)))))))
def lw_tbl : List Cond := k2_sels lw_privs ++ tables_1
theorem lw_privs_ok : ∀ q ∈ lw_privs, lw_okq q := by
  show ∀ q ∈ lw_privs_1 ++ (lw_privs_2 ++ (lw_privs_3 ++ (lw_privs_4 ++ (lw_privs_5 ++ (lw_privs_6 ++ (lw_privs_7 ++ (lw_privs_8))))))), lw_okq q
  exact List.forall_mem_append.mpr ⟨lw_r1, List.forall_mem_append.mpr ⟨lw_r2, List.forall_mem_append.mpr ⟨lw_r3, List.forall_mem_append.mpr ⟨lw_r4, List.forall_mem_append.mpr ⟨lw_r5, List.forall_mem_append.mpr ⟨lw_r6, List.forall_mem_append.mpr ⟨lw_r7, lw_r8⟩⟩⟩⟩⟩⟩⟩
-- ===== end of PART A; then your names; then what follows =====
def va_AOA (ty : FieldType) (U : State) : Prop := (Jvm.Cond.arrayOver (.array ty)).before #[] U = true
theorem va_AOA.use {ty : FieldType} {A : Array Value} {U : State} (h : va_AOA ty U) : (Jvm.Cond.arrayOver (.array ty)).before A U = true := h
/-! ===== BEGIN words of one list among another's, by their places ===== -/
theorem goodIn_r {big : List Cond} (ws : List Cond) (ps : List Nat) (hp : ws = ps.filterMap (fun i => big[i]?)) (h : ws.all goodWord = true) : GoodIn big ws := by
  intro w hw
  have h1 := List.all_eq_true.mp h w hw
  rw [hp] at hw
  obtain ⟨i, -, hi⟩ := List.mem_filterMap.mp hw
  have hm : w ∈ big := by first | exact List.mem_of_getElem? hi | exact List.getElem?_mem hi
  exact ⟨hm, good_of_word h1⟩
theorem goodIn_app {big a b : List Cond} (ha : GoodIn big a) (hb : GoodIn big b) : GoodIn big (a ++ b) := fun w h => (List.mem_append.mp h).elim (ha w) (hb w)
theorem goodIn_ca {big a b : List Cond} {c : Cond} (ha : GoodIn big (c :: a)) (hb : GoodIn big b) : GoodIn big (c :: (a ++ b)) := fun w h => (List.mem_cons.mp h).elim (fun e => ha w (List.mem_cons.mpr (Or.inl e))) (fun h => (List.mem_append.mp h).elim (fun h => ha w (List.mem_cons.mpr (Or.inr h))) (hb w))
theorem goodIn_sub {big ws : List Cond} (hm : ∀ w ∈ ws, w ∈ big) (h : ws.all goodWord = true) : GoodIn big ws := fun w hw => ⟨hm w hw, good_of_word (List.all_eq_true.mp h w hw)⟩
/-! ===== END ===== -/

/-! ===== BEGIN new T[n][m]: the outer array a place, the inner ones among the pooled ===== -/
/-- f, but v at every address of l -/
def vr_up {α : Type} (f : Nat → α) (l : List Nat) (v : α) : Nat → α := fun a => if a ∈ l then v else f a
theorem vr_up_in {α : Type} {f : Nat → α} {l : List Nat} {v : α} {a : Nat} (h : a ∈ l) : vr_up f l v a = v := if_pos h
theorem vr_up_ne {α : Type} {f : Nat → α} {l : List Nat} {v : α} {a : Nat} (h : a ∉ l) : vr_up f l v a = f a := if_neg h
theorem vr_rows {L l : List Nat} {f : Nat → va_E} {e : va_E} (h : ∀ a, a ∈ l → a ∉ L) : va_pl L f ++ l.map (fun a => (a, e)) = va_pl (L ++ l) (vr_up f l e) := by
  unfold va_pl
  rw [List.map_append]
  congr 1
  · apply List.map_congr_left
    intro a ha
    rw [vr_up_ne (fun q => h a q ha)]
  · apply List.map_congr_left
    intro a ha
    rw [vr_up_in ha]
theorem vr_lay {X rows : va_W} {x : Nat × va_E} {pl : va_W} {D : va_G} {cl : List vw_C} {H : Heap} (hP : va_P D cl (((X ++ pl) ++ [x]) ++ rows) H) : va_P D cl ((X ++ [x]) ++ (pl ++ rows)) H := by
  rw [List.append_assoc (X ++ pl)] at hP
  have h := va_P.swap hP
  rw [← List.append_assoc X] at h
  have h2 := va_P.swap h
  rw [List.append_assoc (X ++ [x])] at h2
  exact h2
theorem vr_layD {X rows : va_W} {x : Nat × va_E} {pl : va_W} {A : Nat → Prop} (hD : va_D A (((X ++ pl) ++ [x]) ++ rows)) : va_D A ((X ++ [x]) ++ (pl ++ rows)) := by
  rw [List.append_assoc (X ++ pl)] at hD
  have h := va_D.swap hD
  rw [← List.append_assoc X] at h
  have h2 := va_D.swap h
  rw [List.append_assoc (X ++ [x])] at h2
  exact h2
theorem vr_outer (c : ClassId) (N h0 : Nat) : ∀ i : Nat, Jvm.Free.Multi.outerC c N h0 i = arrV c N (fun j => va_rf (if j < i then some (h0 + 1 + j) else none))
  | 0 => by
    show ({ cls := c, slots := Array.replicate N .null, vm := .none } : Cell) = _
    rw [arrV_new]
    refine congrArg (arrV c N) (funext fun j => ?_)
    simp [va_rf]
  | i + 1 => by
    show (Jvm.Free.Multi.outerC c N h0 i).setSlot i (.ref (h0 + 1 + i)) = _
    rw [vr_outer c N h0 i, arrV_store]
    refine congrArg (arrV c N) (funext fun j => ?_)
    by_cases e : j = i
    · subst e
      simp [updV, va_rf]
    · by_cases h : j < i
      · simp [updV, e, h, Nat.lt_succ_of_lt h]
      · simp [updV, e, h, show ¬ j < i + 1 by omega]
section VGM
variable {p : Program} {l : Launch} {e : Env} {R : Room} {s : State} {m : MethodId} {args : Array Value} {below : List Frame} {meth : Method} {c : Code} {H : Heap} {locs : List Loc} {cells slots : Nat} {Q : State → Prop}
variable {cc : ByteArray} {pc : Nat} {ls : Array Slot} {rest : List Value} {D : va_G} {cl : List vw_C} {A : Nat → Prop} {a : Nat} {tys : List (ClassId × FieldType)} {ws : va_W} {H0 : Heap}
theorem va_mna {X : va_W} {L : List Nat} {f : Nat → va_E} {cc : ByteArray} (hexec : p.tables.exec = Jvm.exec) (hb : c.code = cc) {own : String} {index : Nat} {ty : FieldType} {cy : ClassId} (hown : s.vm.findClass own = some m.cls) (hclink : (Cond.classLink own index ("[" ++ (FieldType.array ty).toString)).before args s = true) (hover : va_AOA ty s) (harr : (Cond.arrayClass ty).before args s = true) (hcy : s.vm.findClass (FieldType.array ty).toString = some cy)
    (hK : va_K D cl tys s) (hP : va_P D cl (X ++ va_pl L f) H) (hD : va_D A (X ++ va_pl L f)) (hS : va_S A H0 H locs) (hA : ∀ q, H0.size ≤ q → A q) {n k : Int32} {N' K' : Nat} {z : vp_A} (hn : ¬ n < 0) (hk : ¬ k < 0) (hN : n.toNatClampNeg = N') (hM : k.toNatClampNeg = K')
    (hb1 : N' * 4 ≤ 536870912) (hb2 : K' * componentBytes ty ≤ 536870912) (hb3 : K' ≤ 536870912) (hdf : fits ty (defaultValue ty) = true) (hdd : (defaultValue ty).isDefault = true) (hcells : cells + (1 + N') ≤ R.cells) (hslots : slots + (N' + N' * K') ≤ R.slots) (hz : ∀ c : ClassId, Jvm.Free.Multi.innerC c K' (defaultValue ty) = vp_cell c z) (hdg : decode cc pc = .ok (.multianewarray index 2, 4))
    (kk : ∀ (q : Nat) (r : Nat → Nat) (cA : ClassId) (H1 : Heap), (∀ i j : Nat, i < N' → j < N' → r i = r j → i = j) → (∀ i : Nat, i < N' → r i ∉ L) → va_K D cl (tys ++ [(cA, .array ty)]) s →
      va_P D cl ((X ++ [(q, .inl (cA, N', .inr (.inr (.inr (.inr (fun i => if i < N' then some (r i) else none))))))]) ++ va_pl (L ++ (List.range N').map r) (vr_up f ((List.range N').map r) (.inl (cy, z)))) H1 → va_D A ((X ++ [(q, .inl (cA, N', .inr (.inr (.inr (.inr (fun i => if i < N' then some (r i) else none))))))]) ++ va_pl (L ++ (List.range N').map r) (vr_up f ((List.range N').map r) (.inl (cy, z)))) → va_S A H0 H1 locs →
      W p l e R s m args below meth c H1 locs (cells + 1 + N') (slots + N' + N' * K') Q (F0 m (pc + 4) ls (.ref q :: rest))) : W p l e R s m args below meth c H locs cells slots Q (F0 m pc ls (.int k :: .int n :: rest)) := by
  subst hN
  subst hM
  intro T hT Xs
  obtain ⟨vm₁, cA, comp, -, fA, fC, hO, -, X', step⟩ := Xs.multianewarray2F hexec hown hclink (va_AOA.use hover) harr (g := F0 m pc ls (.int k :: .int n :: rest)) rfl (by rw [hb]; exact hdg) rfl hn hk hb1 hb2 hb3 hdf hdd hcells hslots
  have ec : some cy = some comp := hcy.symm.trans fC
  cases ec
  generalize hF : Jvm.Free.Multi.fill (T.setVm vm₁) cA cy n.toNatClampNeg k.toNatClampNeg (defaultValue ty) n.toNatClampNeg = F at X' step
  have hTh : (T.setVm vm₁).heap = H := hT
  obtain ⟨f1, f2, -, -⟩ := Jvm.Free.Multi.fill_facts (T.setVm vm₁) cA cy n.toNatClampNeg k.toNatClampNeg (defaultValue ty) n.toNatClampNeg
  rw [hF, hTh] at f1 f2
  have hold : ∀ x : Nat, x < H.size → F.heap[x]? = H[x]? := fun x hx => by
    have := Jvm.Free.Multi.fill_old (T.setVm vm₁) cA cy n.toNatClampNeg k.toNatClampNeg (defaultValue ty) (a := x) (by rw [hTh]; exact hx) n.toNatClampNeg
    rw [hF, hTh] at this
    exact this
  have hrow : ∀ j : Nat, j < n.toNatClampNeg → F.heap[H.size + 1 + j]? = some (vp_cell cy z) := fun j hj => by
    have := Jvm.Free.Multi.fill_inner (T.setVm vm₁) cA cy n.toNatClampNeg k.toNatClampNeg (defaultValue ty) n.toNatClampNeg j hj
    rw [hF, hTh, hz] at this
    exact this
  have hout : Jvm.Free.Multi.outerC cA n.toNatClampNeg H.size n.toNatClampNeg = vp_cell cA (n.toNatClampNeg, .inr (.inr (.inr (.inr (fun i => if i < n.toNatClampNeg then some (H.size + 1 + i) else none))))) := by
    rw [vp_cell_q]
    exact vr_outer cA n.toNatClampNeg H.size n.toNatClampNeg
  rw [hout] at f2
  have hlt : ∀ a, a ∈ L → a < H.size := fun a ha => by
    obtain ⟨k9, hk9⟩ := va_pl_get (X := X) (f := f) ha
    exact (hP k9 _ hk9).lt
  have hnl : ∀ i : Nat, i < n.toNatClampNeg → H.size + 1 + i ∉ L := fun i _ h => by
    have := hlt _ h
    omega
  have hnm : ∀ a, a ∈ (List.range n.toNatClampNeg).map (fun i => H.size + 1 + i) → a ∉ L := fun a ha h => by
    obtain ⟨i, -, rfl⟩ := List.mem_map.mp ha
    have := hlt _ h
    omega
  have hP0 : va_P D cl (X ++ va_pl L f) F.heap := hP.kept (fun k9 x hx => hold x.1 ((hP k9 x hx).lt))
  have hP1 : va_P D cl ((X ++ va_pl L f) ++ [(H.size, .inl (cA, n.toNatClampNeg, .inr (.inr (.inr (.inr (fun i => if i < n.toNatClampNeg then some (H.size + 1 + i) else none))))))]) F.heap := hP0.app (fun k9 x hx => by
    have h0 : k9 < 1 := (List.getElem?_eq_some_iff.mp hx).1
    rw [show k9 = 0 by omega] at hx
    cases hx
    exact f2)
  have hP2 : va_P D cl (((X ++ va_pl L f) ++ [(H.size, .inl (cA, n.toNatClampNeg, .inr (.inr (.inr (.inr (fun i => if i < n.toNatClampNeg then some (H.size + 1 + i) else none))))))]) ++ ((List.range n.toNatClampNeg).map (fun i => H.size + 1 + i)).map (fun a => (a, .inl (cy, z)))) F.heap := hP1.app (fun k9 x hx => by
    obtain ⟨a, ha, rfl⟩ := List.mem_map.mp (List.mem_of_getElem? hx)
    obtain ⟨i, hi, rfl⟩ := List.mem_map.mp ha
    exact hrow i (List.mem_range.mp hi))
  have hD2 : va_D A (((X ++ va_pl L f) ++ [(H.size, .inl (cA, n.toNatClampNeg, .inr (.inr (.inr (.inr (fun i => if i < n.toNatClampNeg then some (H.size + 1 + i) else none))))))]) ++ ((List.range n.toNatClampNeg).map (fun i => H.size + 1 + i)).map (fun a => (a, .inl (cy, z)))) := by
    have hD1 := hD.push (e := .inl (cA, n.toNatClampNeg, .inr (.inr (.inr (.inr (fun i => if i < n.toNatClampNeg then some (H.size + 1 + i) else none)))))) hP rfl (hA _ hS.1)
    generalize hW1 : (X ++ va_pl L f) ++ [(H.size, .inl (cA, n.toNatClampNeg, .inr (.inr (.inr (.inr (fun i => if i < n.toNatClampNeg then some (H.size + 1 + i) else none))))))] = W1 at hD1 hP1 ⊢
    have hle : ∀ (k9 : Nat) (x : Nat × va_E), W1[k9]? = some x → x.1 ≤ H.size := fun k9 x hx => by
      rw [← hW1] at hx
      by_cases hl : k9 < (X ++ va_pl L f).length
      · rw [List.getElem?_append_left hl] at hx
        exact Nat.le_of_lt ((hP k9 x hx).lt)
      · rw [List.getElem?_append_right (by omega)] at hx
        have h0 : k9 - (X ++ va_pl L f).length < 1 := (List.getElem?_eq_some_iff.mp hx).1
        rw [show k9 - (X ++ va_pl L f).length = 0 by omega] at hx
        cases hx
        exact Nat.le_refl _
    have hr : ∀ (k9 : Nat) (x : Nat × va_E), (((List.range n.toNatClampNeg).map (fun i => H.size + 1 + i)).map (fun a => ((a, .inl (cy, z)) : Nat × va_E)))[k9]? = some x → x.1 = H.size + 1 + k9 := fun k9 x hx => by
      rw [List.getElem?_map, List.getElem?_map] at hx
      by_cases h9 : k9 < n.toNatClampNeg
      · rw [List.getElem?_range h9] at hx
        cases hx
        rfl
      · have hn0 : (List.range n.toNatClampNeg)[k9]? = none := List.getElem?_eq_none (by rw [List.length_range]; omega)
        rw [hn0] at hx
        cases hx
    refine ⟨fun i j x y hi hj hxy => ?_, fun k9 x hx => ?_⟩
    · by_cases h1 : i < W1.length <;> by_cases h2 : j < W1.length
      · rw [List.getElem?_append_left h1] at hi
        rw [List.getElem?_append_left h2] at hj
        exact hD1.1 i j x y hi hj hxy
      · rw [List.getElem?_append_left h1] at hi
        rw [List.getElem?_append_right (by omega)] at hj
        have := hle _ _ hi
        have := hr _ _ hj
        omega
      · rw [List.getElem?_append_right (by omega)] at hi
        rw [List.getElem?_append_left h2] at hj
        have := hle _ _ hj
        have := hr _ _ hi
        omega
      · rw [List.getElem?_append_right (by omega)] at hi hj
        have := hr _ _ hi
        have := hr _ _ hj
        omega
    · by_cases h1 : k9 < W1.length
      · rw [List.getElem?_append_left h1] at hx
        exact hD1.2 k9 x hx
      · rw [List.getElem?_append_right (by omega)] at hx
        have := hr _ _ hx
        exact hA _ (by have := hS.1; omega)
  have hAr : ArrOfT s cA (.array ty) := fun N9 z9 => by
    obtain ⟨-, k9, hk9, cm9, hkk9⟩ := (hO 0 0 0).1
    exact ⟨(fun q hq => by cases hq), k9, hk9, cm9, hkk9⟩
  have hK2 : va_K D cl (tys ++ [(cA, .array ty)]) s := ⟨hK.1, fun k9 x hx => by
    by_cases hl : k9 < tys.length
    · rw [List.getElem?_append_left hl] at hx
      exact hK.2 k9 x hx
    · rw [List.getElem?_append_right (by omega)] at hx
      have h0 : k9 - tys.length < 1 := (List.getElem?_eq_some_iff.mp hx).1
      rw [show k9 - tys.length = 0 by omega] at hx
      cases hx
      exact ⟨hAr, fA⟩⟩
  obtain ⟨t, a1, b1⟩ := kk H.size (fun i => H.size + 1 + i) cA F.heap (fun i j _ _ h => by have h9 : H.size + 1 + i = H.size + 1 + j := h; omega) hnl hK2 (by rw [← vr_rows hnm]; exact vr_lay hP2) (by rw [← vr_rows hnm]; exact vr_layD hD2) ⟨by rw [f1]; have := hS.1; omega, fun x h1 h2 => (hold x (Nat.lt_of_lt_of_le h1 hS.1)).trans (hS.2.1 x h1 h2), hS.2.2⟩ F rfl X'
  refine ⟨t, step t ?_, b1⟩
  have e : T.heap.size = H.size := by rw [hT]
  rw [e]
  exact a1
end VGM
/-! ===== END ===== -/

/-! ===== BEGIN printed: names, fields, word lists, decode rows ===== -/
def RX0 : String := "PostFrame$Advice"
def TX0 : u_T := fun k => match k with
  | 0 => ("PostFrame$Advice", "lost", "I", false)
  | 1 => ("PostFrame$Advice", "bags", "I", false)
  | 2 => ("PostFrame$Advice", "digits", "I", false)
  | 3 => ("PostFrame$Advice", "prefix", "I", false)
  | 4 => ("PostFrame$Advice", "hole", "I", false)
  | 5 => ("PostFrame$Advice", "otherHole", "I", false)
  | 6 => ("PostFrame$Advice", "sights", "I", false)
  | 7 => ("PostFrame$Advice", "alike", "I", false)
  | 8 => ("PostFrame$Advice", "chart", "LPostFrame$Chart;", true)
  | 9 => ("PostFrame$Advice", "goal", "[I", true)
  | 10 => ("PostFrame$Advice", "lying", "[I", true)
  | 11 => ("PostFrame$Advice", "sight", "[[I", true)
  | 12 => ("PostFrame$Advice", "trialLost", "I", false)
  | _ => ("PostFrame$Advice", "trialBags", "I", false)
def tyX0 : Nat → FieldType := fun k => match k with
  | 0 => .int
  | 1 => .int
  | 2 => .int
  | 3 => .int
  | 4 => .int
  | 5 => .int
  | 6 => .int
  | 7 => .int
  | 8 => .object "PostFrame$Chart"
  | 9 => .array .int
  | 10 => .array .int
  | 11 => .array (.array .int)
  | 12 => .int
  | _ => .int
abbrev wsX00 : List Cond := u_ws RX0 TX0 14
theorem nmX0 : ∀ a, a < 14 → ∀ b, b < 14 → a ≠ b → (TX0 a).2.1 ≠ (TX0 b).2.1 := by decide +kernel
theorem tyX0_ok : ∀ k, k < 14 → parseFieldDescriptor (TX0 k).2.2.1 = some (tyX0 k) := by decide +kernel
abbrev cX0_init : ByteArray := prog_2_method_1_code
def yX0_init : MethodName := ⟨RX0, "<init>", "(LPostFrame$Chart;)V"⟩
abbrev cX0_tryGoals : ByteArray := prog_2_method_2_code
def yX0_tryGoals : MethodName := ⟨RX0, "tryGoals", "(LPostFrame$Shape;LPostFrame$Work;)V"⟩
abbrev cX0_tryAsIs : ByteArray := prog_2_method_3_code
def yX0_tryAsIs : MethodName := ⟨RX0, "tryAsIs", "(LPostFrame$Shape;LPostFrame$Work;)V"⟩
abbrev cX0_seekEntry : ByteArray := prog_2_method_4_code
def yX0_seekEntry : MethodName := ⟨RX0, "seekEntry", "(LPostFrame$Shape;LPostFrame$Work;)V"⟩
abbrev cX0_tryPrefix : ByteArray := prog_2_method_5_code
def yX0_tryPrefix : MethodName := ⟨RX0, "tryPrefix", "(LPostFrame$Shape;LPostFrame$Work;II)V"⟩
abbrev cX0_sendByEntry : ByteArray := prog_2_method_6_code
def yX0_sendByEntry : MethodName := ⟨RX0, "sendByEntry", "(LPostFrame$Shape;LPostFrame$Work;III)Z"⟩
abbrev cX0_seekChange : ByteArray := prog_2_method_7_code
def yX0_seekChange : MethodName := ⟨RX0, "seekChange", "(LPostFrame$Shape;LPostFrame$Work;)V"⟩
abbrev cX0_sendChanged : ByteArray := prog_2_method_8_code
def yX0_sendChanged : MethodName := ⟨RX0, "sendChanged", "(LPostFrame$Work;II)V"⟩
abbrev cX0_addSight : ByteArray := prog_2_method_9_code
def yX0_addSight : MethodName := ⟨RX0, "addSight", "([I)V"⟩
abbrev cX0_seekSight : ByteArray := prog_2_method_10_code
def yX0_seekSight : MethodName := ⟨RX0, "seekSight", "(I)V"⟩
abbrev cX0_mostAlike : ByteArray := prog_2_method_11_code
def yX0_mostAlike : MethodName := ⟨RX0, "mostAlike", "(I)I"⟩
def RX1 : String := "PostFrame$Chart"
def TX1 : u_T := fun k => match k with
  | 0 => ("PostFrame$Chart", "shape", "LPostFrame$Shape;", false)
  | 1 => ("PostFrame$Chart", "plan", "LPostFrame$Plan;", false)
  | 2 => ("PostFrame$Chart", "entryOf", "[I", true)
  | 3 => ("PostFrame$Chart", "mark", "[I", true)
  | 4 => ("PostFrame$Chart", "cost", "[I", true)
  | _ => ("PostFrame$Chart", "costKept", "[I", true)
def tyX1 : Nat → FieldType := fun k => match k with
  | 0 => .object "PostFrame$Shape"
  | 1 => .object "PostFrame$Plan"
  | 2 => .array .int
  | 3 => .array .int
  | 4 => .array .int
  | _ => .array .int
abbrev wsX10 : List Cond := u_ws RX1 TX1 6
theorem nmX1 : ∀ a, a < 6 → ∀ b, b < 6 → a ≠ b → (TX1 a).2.1 ≠ (TX1 b).2.1 := by decide +kernel
theorem tyX1_ok : ∀ k, k < 6 → parseFieldDescriptor (TX1 k).2.2.1 = some (tyX1 k) := by decide +kernel
abbrev cX1_init : ByteArray := prog_3_method_1_code
def yX1_init : MethodName := ⟨RX1, "<init>", "()V"⟩
abbrev cX1_draw : ByteArray := prog_3_method_2_code
def yX1_draw : MethodName := ⟨RX1, "draw", "(LPostFrame$Shape;LPostFrame$Plan;)V"⟩
abbrev cX1_lay : ByteArray := prog_3_method_3_code
def yX1_lay : MethodName := ⟨RX1, "lay", "(I)V"⟩
abbrev cX1_entryFor : ByteArray := prog_3_method_4_code
def yX1_entryFor : MethodName := ⟨RX1, "entryFor", "(I)I"⟩
abbrev cX1_holeFor : ByteArray := prog_3_method_5_code
def yX1_holeFor : MethodName := ⟨RX1, "holeFor", "(I)I"⟩
abbrev cX1_digitsFor : ByteArray := prog_3_method_6_code
def yX1_digitsFor : MethodName := ⟨RX1, "digitsFor", "(I)I"⟩
abbrev cX1_howManyTo : ByteArray := prog_3_method_7_code
def yX1_howManyTo : MethodName := ⟨RX1, "howManyTo", "(I)I"⟩
abbrev cX1_leastTo : ByteArray := prog_3_method_8_code
def yX1_leastTo : MethodName := ⟨RX1, "leastTo", "(I)I"⟩
abbrev cX1_takeReading : ByteArray := prog_3_method_9_code
def yX1_takeReading : MethodName := ⟨RX1, "takeReading", "(I)Z"⟩
abbrev cX1_isMeant : ByteArray := prog_3_method_10_code
def yX1_isMeant : MethodName := ⟨RX1, "isMeant", "(I)Z"⟩
abbrev cX1_meantHoles : ByteArray := prog_3_method_11_code
def yX1_meantHoles : MethodName := ⟨RX1, "meantHoles", "()I"⟩
abbrev cX1_setToRead : ByteArray := prog_3_method_12_code
def yX1_setToRead : MethodName := ⟨RX1, "setToRead", "()I"⟩
abbrev cX1_decides : ByteArray := prog_3_method_13_code
def yX1_decides : MethodName := ⟨RX1, "decides", "(I)Z"⟩
abbrev cX1_slipsOf : ByteArray := prog_3_method_14_code
def yX1_slipsOf : MethodName := ⟨RX1, "slipsOf", "(I)I"⟩
abbrev cX1_mostSlipping : ByteArray := prog_3_method_15_code
def yX1_mostSlipping : MethodName := ⟨RX1, "mostSlipping", "()I"⟩
abbrev cX1_idleEntries : ByteArray := prog_3_method_16_code
def yX1_idleEntries : MethodName := ⟨RX1, "idleEntries", "()I"⟩
abbrev cX1_fewestEntries : ByteArray := prog_3_method_17_code
def yX1_fewestEntries : MethodName := ⟨RX1, "fewestEntries", "()I"⟩
abbrev cX1_joinCosts : ByteArray := prog_3_method_18_code
def yX1_joinCosts : MethodName := ⟨RX1, "joinCosts", "(I)V"⟩
def RX2 : String := "PostFrame$Desk"
def TX2 : u_T := fun k => match k with
  | 0 => ("PostFrame$Desk", "shape", "LPostFrame$Shape;", true)
  | 1 => ("PostFrame$Desk", "begin", "LPostFrame$Work;", true)
  | 2 => ("PostFrame$Desk", "now", "LPostFrame$Work;", true)
  | 3 => ("PostFrame$Desk", "inForce", "I", false)
  | 4 => ("PostFrame$Desk", "seed", "I", false)
  | 5 => ("PostFrame$Desk", "notes", "I", false)
  | 6 => ("PostFrame$Desk", "noteTurn", "[I", true)
  | 7 => ("PostFrame$Desk", "noteHole", "[I", true)
  | _ => ("PostFrame$Desk", "noteMany", "[I", true)
def tyX2 : Nat → FieldType := fun k => match k with
  | 0 => .object "PostFrame$Shape"
  | 1 => .object "PostFrame$Work"
  | 2 => .object "PostFrame$Work"
  | 3 => .int
  | 4 => .int
  | 5 => .int
  | 6 => .array .int
  | 7 => .array .int
  | _ => .array .int
abbrev wsX20 : List Cond := u_ws RX2 TX2 9
theorem nmX2 : ∀ a, a < 9 → ∀ b, b < 9 → a ≠ b → (TX2 a).2.1 ≠ (TX2 b).2.1 := by decide +kernel
theorem tyX2_ok : ∀ k, k < 9 → parseFieldDescriptor (TX2 k).2.2.1 = some (tyX2 k) := by decide +kernel
abbrev cX2_init : ByteArray := prog_4_method_1_code
def yX2_init : MethodName := ⟨RX2, "<init>", "()V"⟩
abbrev cX2_take : ByteArray := prog_4_method_2_code
def yX2_take : MethodName := ⟨RX2, "take", "(LPostFrame$Shape;LPostFrame$Work;)V"⟩
abbrev cX2_copyFrom : ByteArray := prog_4_method_3_code
def yX2_copyFrom : MethodName := ⟨RX2, "copyFrom", "(LPostFrame$Desk;)V"⟩
abbrev cX2_addNote : ByteArray := prog_4_method_4_code
def yX2_addNote : MethodName := ⟨RX2, "addNote", "(III)V"⟩
abbrev cX2_lastNotedTurn : ByteArray := prog_4_method_5_code
def yX2_lastNotedTurn : MethodName := ⟨RX2, "lastNotedTurn", "()I"⟩
abbrev cX2_notesHold : ByteArray := prog_4_method_6_code
def yX2_notesHold : MethodName := ⟨RX2, "notesHold", "(II[I)Z"⟩
def RX3 : String := "PostFrame$FrameReader"
def TX3 : u_T := fun k => match k with
  | 0 => ("PostFrame$FrameReader", "tape", "LPostFrame$Tape;", true)
  | 1 => ("PostFrame$FrameReader", "shape", "LPostFrame$Shape;", true)
  | _ => ("PostFrame$FrameReader", "begin", "LPostFrame$Work;", true)
def tyX3 : Nat → FieldType := fun k => match k with
  | 0 => .object "PostFrame$Tape"
  | 1 => .object "PostFrame$Shape"
  | _ => .object "PostFrame$Work"
abbrev wsX30 : List Cond := u_ws RX3 TX3 3
theorem nmX3 : ∀ a, a < 3 → ∀ b, b < 3 → a ≠ b → (TX3 a).2.1 ≠ (TX3 b).2.1 := by decide +kernel
theorem tyX3_ok : ∀ k, k < 3 → parseFieldDescriptor (TX3 k).2.2.1 = some (tyX3 k) := by decide +kernel
abbrev cX3_init : ByteArray := prog_5_method_1_code
def yX3_init : MethodName := ⟨RX3, "<init>", "(LPostFrame$Tape;)V"⟩
abbrev cX3_parse : ByteArray := prog_5_method_2_code
def yX3_parse : MethodName := ⟨RX3, "parse", "()I"⟩
abbrev cX3_takeClause : ByteArray := prog_5_method_3_code
def yX3_takeClause : MethodName := ⟨RX3, "takeClause", "(I)Z"⟩
abbrev cX3_takeKind : ByteArray := prog_5_method_4_code
def yX3_takeKind : MethodName := ⟨RX3, "takeKind", "()I"⟩
abbrev cX3_tooMany : ByteArray := prog_5_method_5_code
def yX3_tooMany : MethodName := ⟨RX3, "tooMany", "(II)Z"⟩
abbrev cX3_takeShape : ByteArray := prog_5_method_6_code
def yX3_takeShape : MethodName := ⟨RX3, "takeShape", "()Z"⟩
abbrev cX3_takeRoom : ByteArray := prog_5_method_7_code
def yX3_takeRoom : MethodName := ⟨RX3, "takeRoom", "()Z"⟩
abbrev cX3_takeEntry : ByteArray := prog_5_method_8_code
def yX3_takeEntry : MethodName := ⟨RX3, "takeEntry", "()Z"⟩
abbrev cX3_takeLetter : ByteArray := prog_5_method_9_code
def yX3_takeLetter : MethodName := ⟨RX3, "takeLetter", "()Z"⟩
def RX4 : String := "PostFrame$Plan"
def TX4 : u_T := fun k => match k with
  | 0 => ("PostFrame$Plan", "size", "I", false)
  | 1 => ("PostFrame$Plan", "digits", "[I", true)
  | 2 => ("PostFrame$Plan", "prefix", "[I", true)
  | _ => ("PostFrame$Plan", "hole", "[I", true)
def tyX4 : Nat → FieldType := fun k => match k with
  | 0 => .int
  | 1 => .array .int
  | 2 => .array .int
  | _ => .array .int
abbrev wsX40 : List Cond := u_ws RX4 TX4 4
theorem nmX4 : ∀ a, a < 4 → ∀ b, b < 4 → a ≠ b → (TX4 a).2.1 ≠ (TX4 b).2.1 := by decide +kernel
theorem tyX4_ok : ∀ k, k < 4 → parseFieldDescriptor (TX4 k).2.2.1 = some (tyX4 k) := by decide +kernel
abbrev cX4_init : ByteArray := prog_6_method_1_code
def yX4_init : MethodName := ⟨RX4, "<init>", "()V"⟩
abbrev cX4_copyFrom : ByteArray := prog_6_method_2_code
def yX4_copyFrom : MethodName := ⟨RX4, "copyFrom", "(LPostFrame$Plan;)V"⟩
abbrev cX4_has : ByteArray := prog_6_method_3_code
def yX4_has : MethodName := ⟨RX4, "has", "(I)Z"⟩
abbrev cX4_find : ByteArray := prog_6_method_4_code
def yX4_find : MethodName := ⟨RX4, "find", "(II)I"⟩
abbrev cX4_canTake : ByteArray := prog_6_method_5_code
def yX4_canTake : MethodName := ⟨RX4, "canTake", "(II)Z"⟩
abbrev cX4_put : ByteArray := prog_6_method_6_code
def yX4_put : MethodName := ⟨RX4, "put", "(III)I"⟩
abbrev cX4_drop : ByteArray := prog_6_method_7_code
def yX4_drop : MethodName := ⟨RX4, "drop", "(I)V"⟩
def RX5 : String := "PostFrame$Rule"
def TX5 : u_T := fun k => match k with
  | 0 => ("PostFrame$Rule", "steps", "[I", true)
  | 1 => ("PostFrame$Rule", "sumEnd", "[I", true)
  | 2 => ("PostFrame$Rule", "testEnd", "[I", true)
  | _ => ("PostFrame$Rule", "stack", "[J", true)
def tyX5 : Nat → FieldType := fun k => match k with
  | 0 => .array .int
  | 1 => .array .int
  | 2 => .array .int
  | _ => .array .long
abbrev wsX50 : List Cond := u_ws RX5 TX5 4
theorem nmX5 : ∀ a, a < 4 → ∀ b, b < 4 → a ≠ b → (TX5 a).2.1 ≠ (TX5 b).2.1 := by decide +kernel
theorem tyX5_ok : ∀ k, k < 4 → parseFieldDescriptor (TX5 k).2.2.1 = some (tyX5 k) := by decide +kernel
abbrev cX5_init : ByteArray := prog_7_method_1_code
def yX5_init : MethodName := ⟨RX5, "<init>", "(LPostFrame$RuleReader;)V"⟩
abbrev cX5_worth : ByteArray := prog_7_method_2_code
def yX5_worth : MethodName := ⟨RX5, "worth", "([J)J"⟩
abbrev cX5_run : ByteArray := prog_7_method_3_code
def yX5_run : MethodName := ⟨RX5, "run", "(II[J)J"⟩
abbrev cX5_join : ByteArray := prog_7_method_4_code
def yX5_join : MethodName := ⟨RX5, "join", "(IJJ)J"⟩
def RX6 : String := "PostFrame$RuleReader"
def TX6 : u_T := fun k => match k with
  | 0 => ("PostFrame$RuleReader", "tape", "LPostFrame$Tape;", true)
  | 1 => ("PostFrame$RuleReader", "steps", "[I", true)
  | 2 => ("PostFrame$RuleReader", "size", "I", false)
  | 3 => ("PostFrame$RuleReader", "sumEnd", "[I", true)
  | 4 => ("PostFrame$RuleReader", "testEnd", "[I", true)
  | 5 => ("PostFrame$RuleReader", "clauses", "I", false)
  | _ => ("PostFrame$RuleReader", "parts", "I", false)
def tyX6 : Nat → FieldType := fun k => match k with
  | 0 => .object "PostFrame$Tape"
  | 1 => .array .int
  | 2 => .int
  | 3 => .array .int
  | 4 => .array .int
  | 5 => .int
  | _ => .int
abbrev wsX60 : List Cond := u_ws RX6 TX6 7
theorem nmX6 : ∀ a, a < 7 → ∀ b, b < 7 → a ≠ b → (TX6 a).2.1 ≠ (TX6 b).2.1 := by decide +kernel
theorem tyX6_ok : ∀ k, k < 7 → parseFieldDescriptor (TX6 k).2.2.1 = some (tyX6 k) := by decide +kernel
abbrev cX6_init : ByteArray := prog_8_method_1_code
def yX6_init : MethodName := ⟨RX6, "<init>", "(LPostFrame$Tape;)V"⟩
abbrev cX6_parse : ByteArray := prog_8_method_2_code
def yX6_parse : MethodName := ⟨RX6, "parse", "()I"⟩
abbrev cX6_takeTest : ByteArray := prog_8_method_3_code
def yX6_takeTest : MethodName := ⟨RX6, "takeTest", "(I)Z"⟩
abbrev cX6_takeFact : ByteArray := prog_8_method_4_code
def yX6_takeFact : MethodName := ⟨RX6, "takeFact", "(I)Z"⟩
abbrev cX6_takeComparison : ByteArray := prog_8_method_5_code
def yX6_takeComparison : MethodName := ⟨RX6, "takeComparison", "()I"⟩
abbrev cX6_takeSum : ByteArray := prog_8_method_6_code
def yX6_takeSum : MethodName := ⟨RX6, "takeSum", "()Z"⟩
abbrev cX6_takeValue : ByteArray := prog_8_method_7_code
def yX6_takeValue : MethodName := ⟨RX6, "takeValue", "()Z"⟩
abbrev cX6_countPart : ByteArray := prog_8_method_8_code
def yX6_countPart : MethodName := ⟨RX6, "countPart", "(I)Z"⟩
abbrev cX6_put : ByteArray := prog_8_method_9_code
def yX6_put : MethodName := ⟨RX6, "put", "(I)Z"⟩
abbrev cX6_joinOf : ByteArray := prog_8_method_10_code
def yX6_joinOf : MethodName := ⟨RX6, "joinOf", "(I)I"⟩
abbrev cX6_textOf : ByteArray := prog_8_method_11_code
def yX6_textOf : MethodName := ⟨RX6, "textOf", "(I)Ljava/lang/String;"⟩
def RX7 : String := "PostFrame$Runner"
def TX7 : u_T := fun k => match k with
  | 0 => ("PostFrame$Runner", "shape", "LPostFrame$Shape;", true)
  | 1 => ("PostFrame$Runner", "work", "LPostFrame$Work;", true)
  | 2 => ("PostFrame$Runner", "seed", "I", false)
  | 3 => ("PostFrame$Runner", "chart", "LPostFrame$Chart;", true)
  | 4 => ("PostFrame$Runner", "words", "[J", true)
  | _ => ("PostFrame$Runner", "justTied", "I", false)
def tyX7 : Nat → FieldType := fun k => match k with
  | 0 => .object "PostFrame$Shape"
  | 1 => .object "PostFrame$Work"
  | 2 => .int
  | 3 => .object "PostFrame$Chart"
  | 4 => .array .long
  | _ => .int
abbrev wsX70 : List Cond := u_ws RX7 TX7 6
theorem nmX7 : ∀ a, a < 6 → ∀ b, b < 6 → a ≠ b → (TX7 a).2.1 ≠ (TX7 b).2.1 := by decide +kernel
theorem tyX7_ok : ∀ k, k < 6 → parseFieldDescriptor (TX7 k).2.2.1 = some (tyX7 k) := by decide +kernel
abbrev cX7_init : ByteArray := prog_9_method_1_code
def yX7_init : MethodName := ⟨RX7, "<init>", "(LPostFrame$Chart;)V"⟩
abbrev cX7_start : ByteArray := prog_9_method_2_code
def yX7_start : MethodName := ⟨RX7, "start", "(LPostFrame$Shape;LPostFrame$Work;)V"⟩
abbrev cX7_step : ByteArray := prog_9_method_3_code
def yX7_step : MethodName := ⟨RX7, "step", "(LPostFrame$Rule;)I"⟩
abbrev cX7_lay : ByteArray := prog_9_method_4_code
def yX7_lay : MethodName := ⟨RX7, "lay", "(I)V"⟩
abbrev cX7_choose : ByteArray := prog_9_method_5_code
def yX7_choose : MethodName := ⟨RX7, "choose", "(LPostFrame$Rule;)I"⟩
abbrev cX7_describe : ByteArray := prog_9_method_6_code
def yX7_describe : MethodName := ⟨RX7, "describe", "(I)V"⟩
abbrev cX7_steps : ByteArray := prog_9_method_7_code
def yX7_steps : MethodName := ⟨RX7, "steps", "(LPostFrame$Rule;I)V"⟩
abbrev cX7_turnOfSorting : ByteArray := prog_9_method_8_code
def yX7_turnOfSorting : MethodName := ⟨RX7, "turnOfSorting", "(LPostFrame$Rule;)I"⟩
abbrev cX7_turnOfTying : ByteArray := prog_9_method_9_code
def yX7_turnOfTying : MethodName := ⟨RX7, "turnOfTying", "(LPostFrame$Rule;II)I"⟩
abbrev cX7_agrees : ByteArray := prog_9_method_10_code
def yX7_agrees : MethodName := ⟨RX7, "agrees", "(LPostFrame$Desk;LPostFrame$Rule;)Z"⟩
abbrev cX7_stepsWithPosts : ByteArray := prog_9_method_11_code
def yX7_stepsWithPosts : MethodName := ⟨RX7, "stepsWithPosts", "(LPostFrame$Rule;II)V"⟩
abbrev cX7_draw : ByteArray := prog_9_method_12_code
def yX7_draw : MethodName := ⟨RX7, "draw", "()I"⟩
def RX8 : String := "PostFrame$Shape"
def TX8 : u_T := fun k => match k with
  | 0 => ("PostFrame$Shape", "radix", "I", false)
  | 1 => ("PostFrame$Shape", "digits", "I", false)
  | 2 => ("PostFrame$Shape", "holes", "I", false)
  | 3 => ("PostFrame$Shape", "codes", "I", false)
  | 4 => ("PostFrame$Shape", "power", "[I", true)
  | _ => ("PostFrame$Shape", "room", "[I", true)
def tyX8 : Nat → FieldType := fun k => match k with
  | 0 => .int
  | 1 => .int
  | 2 => .int
  | 3 => .int
  | 4 => .array .int
  | _ => .array .int
abbrev wsX80 : List Cond := u_ws RX8 TX8 6
theorem nmX8 : ∀ a, a < 6 → ∀ b, b < 6 → a ≠ b → (TX8 a).2.1 ≠ (TX8 b).2.1 := by decide +kernel
theorem tyX8_ok : ∀ k, k < 6 → parseFieldDescriptor (TX8 k).2.2.1 = some (tyX8 k) := by decide +kernel
abbrev cX8_init : ByteArray := prog_10_method_1_code
def yX8_init : MethodName := ⟨RX8, "<init>", "()V"⟩
abbrev cX8_lay : ByteArray := prog_10_method_2_code
def yX8_lay : MethodName := ⟨RX8, "lay", "(III)V"⟩
abbrev cX8_copyFrom : ByteArray := prog_10_method_3_code
def yX8_copyFrom : MethodName := ⟨RX8, "copyFrom", "(LPostFrame$Shape;)V"⟩
abbrev cX8_hasHole : ByteArray := prog_10_method_4_code
def yX8_hasHole : MethodName := ⟨RX8, "hasHole", "(I)Z"⟩
abbrev cX8_hasCode : ByteArray := prog_10_method_5_code
def yX8_hasCode : MethodName := ⟨RX8, "hasCode", "(I)Z"⟩
abbrev cX8_hasPrefix : ByteArray := prog_10_method_6_code
def yX8_hasPrefix : MethodName := ⟨RX8, "hasPrefix", "(II)Z"⟩
abbrev cX8_prefixesOf : ByteArray := prog_10_method_7_code
def yX8_prefixesOf : MethodName := ⟨RX8, "prefixesOf", "(I)I"⟩
abbrev cX8_spanOf : ByteArray := prog_10_method_8_code
def yX8_spanOf : MethodName := ⟨RX8, "spanOf", "(I)I"⟩
abbrev cX8_prefixOf : ByteArray := prog_10_method_9_code
def yX8_prefixOf : MethodName := ⟨RX8, "prefixOf", "(II)I"⟩
abbrev cX8_digitOf : ByteArray := prog_10_method_10_code
def yX8_digitOf : MethodName := ⟨RX8, "digitOf", "(II)I"⟩
def RX9 : String := "PostFrame$Tape"
def TX9 : u_T := fun k => match k with
  | 0 => ("PostFrame$Tape", "bytes", "[I", true)
  | 1 => ("PostFrame$Tape", "size", "I", false)
  | 2 => ("PostFrame$Tape", "at", "I", false)
  | _ => ("PostFrame$Tape", "fault", "I", false)
def tyX9 : Nat → FieldType := fun k => match k with
  | 0 => .array .int
  | 1 => .int
  | 2 => .int
  | _ => .int
abbrev wsX90 : List Cond := u_ws RX9 TX9 4
theorem nmX9 : ∀ a, a < 4 → ∀ b, b < 4 → a ≠ b → (TX9 a).2.1 ≠ (TX9 b).2.1 := by decide +kernel
theorem tyX9_ok : ∀ k, k < 4 → parseFieldDescriptor (TX9 k).2.2.1 = some (tyX9 k) := by decide +kernel
abbrev cX9_init : ByteArray := prog_11_method_1_code
def yX9_init : MethodName := ⟨RX9, "<init>", "()V"⟩
abbrev cX9_add : ByteArray := prog_11_method_2_code
def yX9_add : MethodName := ⟨RX9, "add", "(I)V"⟩
abbrev cX9_rewind : ByteArray := prog_11_method_3_code
def yX9_rewind : MethodName := ⟨RX9, "rewind", "()V"⟩
abbrev cX9_fail : ByteArray := prog_11_method_4_code
def yX9_fail : MethodName := ⟨RX9, "fail", "(II)Z"⟩
abbrev cX9_byteAt : ByteArray := prog_11_method_5_code
def yX9_byteAt : MethodName := ⟨RX9, "byteAt", "(I)I"⟩
abbrev cX9_next : ByteArray := prog_11_method_6_code
def yX9_next : MethodName := ⟨RX9, "next", "()I"⟩
abbrev cX9_takeByte : ByteArray := prog_11_method_7_code
def yX9_takeByte : MethodName := ⟨RX9, "takeByte", "(I)Z"⟩
abbrev cX9_takeWord : ByteArray := prog_11_method_8_code
def yX9_takeWord : MethodName := ⟨RX9, "takeWord", "(Ljava/lang/String;)Z"⟩
abbrev cX9_takeNumber : ByteArray := prog_11_method_9_code
def yX9_takeNumber : MethodName := ⟨RX9, "takeNumber", "(II)I"⟩
abbrev cX9_takeSemicolon : ByteArray := prog_11_method_10_code
def yX9_takeSemicolon : MethodName := ⟨RX9, "takeSemicolon", "()Z"⟩
abbrev cX9_isDigit : ByteArray := prog_11_method_11_code
def yX9_isDigit : MethodName := ⟨RX9, "isDigit", "(I)Z"⟩
def RX10 : String := "PostFrame$Work"
def TX10 : u_T := fun k => match k with
  | 0 => ("PostFrame$Work", "plan", "LPostFrame$Plan;", true)
  | 1 => ("PostFrame$Work", "waiting", "I", false)
  | 2 => ("PostFrame$Work", "row", "[I", true)
  | 3 => ("PostFrame$Work", "lying", "[I", true)
  | 4 => ("PostFrame$Work", "bags", "[I", true)
  | 5 => ("PostFrame$Work", "lost", "I", false)
  | _ => ("PostFrame$Work", "turn", "I", false)
def tyX10 : Nat → FieldType := fun k => match k with
  | 0 => .object "PostFrame$Plan"
  | 1 => .int
  | 2 => .array .int
  | 3 => .array .int
  | 4 => .array .int
  | 5 => .int
  | _ => .int
abbrev wsX100 : List Cond := u_ws RX10 TX10 7
theorem nmX10 : ∀ a, a < 7 → ∀ b, b < 7 → a ≠ b → (TX10 a).2.1 ≠ (TX10 b).2.1 := by decide +kernel
theorem tyX10_ok : ∀ k, k < 7 → parseFieldDescriptor (TX10 k).2.2.1 = some (tyX10 k) := by decide +kernel
abbrev cX10_init : ByteArray := prog_12_method_1_code
def yX10_init : MethodName := ⟨RX10, "<init>", "()V"⟩
abbrev cX10_clear : ByteArray := prog_12_method_2_code
def yX10_clear : MethodName := ⟨RX10, "clear", "()V"⟩
abbrev cX10_copyFrom : ByteArray := prog_12_method_3_code
def yX10_copyFrom : MethodName := ⟨RX10, "copyFrom", "(LPostFrame$Work;)V"⟩
abbrev cX10_queue : ByteArray := prog_12_method_4_code
def yX10_queue : MethodName := ⟨RX10, "queue", "(I)V"⟩
abbrev cX10_takeOut : ByteArray := prog_12_method_5_code
def yX10_takeOut : MethodName := ⟨RX10, "takeOut", "(I)I"⟩
abbrev cX10_bagUp : ByteArray := prog_12_method_6_code
def yX10_bagUp : MethodName := ⟨RX10, "bagUp", "(I)V"⟩
abbrev cX10_lyingInAll : ByteArray := prog_12_method_7_code
def yX10_lyingInAll : MethodName := ⟨RX10, "lyingInAll", "()I"⟩
abbrev cX10_bagsOfAll : ByteArray := prog_12_method_8_code
def yX10_bagsOfAll : MethodName := ⟨RX10, "bagsOfAll", "()I"⟩
abbrev cX10_shareOf : ByteArray := prog_12_method_9_code
def yX10_shareOf : MethodName := ⟨RX10, "shareOf", "(II)I"⟩
abbrev cX10_sumOf : ByteArray := prog_12_method_10_code
def yX10_sumOf : MethodName := ⟨RX10, "sumOf", "([I)I"⟩
def RX11 : String := "PostFrame"
def TX11 : u_T := fun k => match k with
  | 0 => ("PostFrame", "tape", "LPostFrame$Tape;", true)
  | 1 => ("PostFrame", "frameReader", "LPostFrame$FrameReader;", true)
  | 2 => ("PostFrame", "ruleReader", "LPostFrame$RuleReader;", true)
  | 3 => ("PostFrame", "rules", "[LPostFrame$Rule;", true)
  | 4 => ("PostFrame", "ruleCount", "I", false)
  | 5 => ("PostFrame", "desk", "LPostFrame$Desk;", true)
  | 6 => ("PostFrame", "images", "[LPostFrame$Desk;", true)
  | 7 => ("PostFrame", "imageMade", "[Z", true)
  | 8 => ("PostFrame", "past", "[LPostFrame$Work;", true)
  | 9 => ("PostFrame", "pastNext", "I", false)
  | 10 => ("PostFrame", "pastCount", "I", false)
  | 11 => ("PostFrame", "chart", "LPostFrame$Chart;", true)
  | 12 => ("PostFrame", "runner", "LPostFrame$Runner;", true)
  | _ => ("PostFrame", "advice", "LPostFrame$Advice;", true)
def tyX11 : Nat → FieldType := fun k => match k with
  | 0 => .object "PostFrame$Tape"
  | 1 => .object "PostFrame$FrameReader"
  | 2 => .object "PostFrame$RuleReader"
  | 3 => .array (.object "PostFrame$Rule")
  | 4 => .int
  | 5 => .object "PostFrame$Desk"
  | 6 => .array (.object "PostFrame$Desk")
  | 7 => .array .boolean
  | 8 => .array (.object "PostFrame$Work")
  | 9 => .int
  | 10 => .int
  | 11 => .object "PostFrame$Chart"
  | 12 => .object "PostFrame$Runner"
  | _ => .object "PostFrame$Advice"
abbrev wsX110 : List Cond := u_ws RX11 TX11 14
theorem nmX11 : ∀ a, a < 14 → ∀ b, b < 14 → a ≠ b → (TX11 a).2.1 ≠ (TX11 b).2.1 := by decide +kernel
theorem tyX11_ok : ∀ k, k < 14 → parseFieldDescriptor (TX11 k).2.2.1 = some (tyX11 k) := by decide +kernel
abbrev cX11_init : ByteArray := prog_1_method_1_code
def yX11_init : MethodName := ⟨RX11, "<init>", "()V"⟩
abbrev cX11_feed : ByteArray := prog_1_method_2_code
def yX11_feed : MethodName := ⟨RX11, "feed", "(IIIII)I"⟩
abbrev cX11_end : ByteArray := prog_1_method_3_code
def yX11_end : MethodName := ⟨RX11, "end", "(I)I"⟩
abbrev cX11_frame : ByteArray := prog_1_method_4_code
def yX11_frame : MethodName := ⟨RX11, "frame", "()I"⟩
abbrev cX11_rule : ByteArray := prog_1_method_5_code
def yX11_rule : MethodName := ⟨RX11, "rule", "()I"⟩
abbrev cX11_force : ByteArray := prog_1_method_6_code
def yX11_force : MethodName := ⟨RX11, "force", "(I)I"⟩
abbrev cX11_hole : ByteArray := prog_1_method_7_code
def yX11_hole : MethodName := ⟨RX11, "hole", "(II)I"⟩
abbrev cX11_entry : ByteArray := prog_1_method_8_code
def yX11_entry : MethodName := ⟨RX11, "entry", "(II)I"⟩
abbrev cX11_waits : ByteArray := prog_1_method_9_code
def yX11_waits : MethodName := ⟨RX11, "waits", "(I)I"⟩
abbrev cX11_count : ByteArray := prog_1_method_10_code
def yX11_count : MethodName := ⟨RX11, "count", "(I)I"⟩
abbrev cX11_turn : ByteArray := prog_1_method_11_code
def yX11_turn : MethodName := ⟨RX11, "turn", "()I"⟩
abbrev cX11_post : ByteArray := prog_1_method_12_code
def yX11_post : MethodName := ⟨RX11, "post", "(I)I"⟩
abbrev cX11_tie : ByteArray := prog_1_method_13_code
def yX11_tie : MethodName := ⟨RX11, "tie", "(I)I"⟩
abbrev cX11_enter : ByteArray := prog_1_method_14_code
def yX11_enter : MethodName := ⟨RX11, "enter", "(III)I"⟩
abbrev cX11_strike : ByteArray := prog_1_method_15_code
def yX11_strike : MethodName := ⟨RX11, "strike", "(I)I"⟩
abbrev cX11_undo : ByteArray := prog_1_method_16_code
def yX11_undo : MethodName := ⟨RX11, "undo", "()I"⟩
abbrev cX11_where : ByteArray := prog_1_method_17_code
def yX11_where : MethodName := ⟨RX11, "where", "(II)I"⟩
abbrev cX11_may : ByteArray := prog_1_method_18_code
def yX11_may : MethodName := ⟨RX11, "may", "(I)I"⟩
abbrev cX11_read : ByteArray := prog_1_method_19_code
def yX11_read : MethodName := ⟨RX11, "read", "(II)I"⟩
abbrev cX11_codes : ByteArray := prog_1_method_20_code
def yX11_codes : MethodName := ⟨RX11, "codes", "(II)I"⟩
abbrev cX11_slips : ByteArray := prog_1_method_21_code
def yX11_slips : MethodName := ⟨RX11, "slips", "(I)I"⟩
abbrev cX11_worst : ByteArray := prog_1_method_22_code
def yX11_worst : MethodName := ⟨RX11, "worst", "(I)I"⟩
abbrev cX11_idle : ByteArray := prog_1_method_23_code
def yX11_idle : MethodName := ⟨RX11, "idle", "()I"⟩
abbrev cX11_least : ByteArray := prog_1_method_24_code
def yX11_least : MethodName := ⟨RX11, "least", "()I"⟩
abbrev cX11_one : ByteArray := prog_1_method_25_code
def yX11_one : MethodName := ⟨RX11, "one", "(I)I"⟩
abbrev cX11_change : ByteArray := prog_1_method_26_code
def yX11_change : MethodName := ⟨RX11, "change", "(I)I"⟩
abbrev cX11_ahead : ByteArray := prog_1_method_27_code
def yX11_ahead : MethodName := ⟨RX11, "ahead", "(III)I"⟩
abbrev cX11_sorted : ByteArray := prog_1_method_28_code
def yX11_sorted : MethodName := ⟨RX11, "sorted", "()I"⟩
abbrev cX11_tied : ByteArray := prog_1_method_29_code
def yX11_tied : MethodName := ⟨RX11, "tied", "(I)I"⟩
abbrev cX11_enough : ByteArray := prog_1_method_30_code
def yX11_enough : MethodName := ⟨RX11, "enough", "(II)I"⟩
abbrev cX11_said : ByteArray := prog_1_method_31_code
def yX11_said : MethodName := ⟨RX11, "said", "(II)I"⟩
abbrev cX11_sent : ByteArray := prog_1_method_32_code
def yX11_sent : MethodName := ⟨RX11, "sent", "(I)I"⟩
abbrev cX11_pence : ByteArray := prog_1_method_33_code
def yX11_pence : MethodName := ⟨RX11, "pence", "(II)I"⟩
abbrev cX11_note : ByteArray := prog_1_method_34_code
def yX11_note : MethodName := ⟨RX11, "note", "(III)I"⟩
abbrev cX11_ruled : ByteArray := prog_1_method_35_code
def yX11_ruled : MethodName := ⟨RX11, "ruled", "(I)I"⟩
abbrev cX11_look : ByteArray := prog_1_method_36_code
def yX11_look : MethodName := ⟨RX11, "look", "(II)I"⟩
abbrev cX11_seed : ByteArray := prog_1_method_37_code
def yX11_seed : MethodName := ⟨RX11, "seed", "(I)I"⟩
abbrev cX11_posts : ByteArray := prog_1_method_38_code
def yX11_posts : MethodName := ⟨RX11, "posts", "(IIII)I"⟩
abbrev cX11_image : ByteArray := prog_1_method_39_code
def yX11_image : MethodName := ⟨RX11, "image", "(I)I"⟩
abbrev cX11_back : ByteArray := prog_1_method_40_code
def yX11_back : MethodName := ⟨RX11, "back", "(I)I"⟩
abbrev cX11_hasFrame : ByteArray := prog_1_method_41_code
def yX11_hasFrame : MethodName := ⟨RX11, "hasFrame", "()Z"⟩
abbrev cX11_ruleAt : ByteArray := prog_1_method_42_code
def yX11_ruleAt : MethodName := ⟨RX11, "ruleAt", "(I)LPostFrame$Rule;"⟩
abbrev cX11_ruleInForce : ByteArray := prog_1_method_43_code
def yX11_ruleInForce : MethodName := ⟨RX11, "ruleInForce", "()LPostFrame$Rule;"⟩
abbrev cX11_remember : ByteArray := prog_1_method_44_code
def yX11_remember : MethodName := ⟨RX11, "remember", "()V"⟩
abbrev cX11_drawNow : ByteArray := prog_1_method_45_code
def yX11_drawNow : MethodName := ⟨RX11, "drawNow", "()V"⟩
abbrev cX11_startFromNow : ByteArray := prog_1_method_46_code
def yX11_startFromNow : MethodName := ⟨RX11, "startFromNow", "()V"⟩
def RX12 : String := "PostFrameModel"
def TX12 : u_T := fun k => match k with
  | 0 => ("PostFrameModel", "tape", "[B", true)
  | 1 => ("PostFrameModel", "taped", "I", false)
  | 2 => ("PostFrameModel", "rules", "I", false)
  | 3 => ("PostFrameModel", "sign", "[I", true)
  | 4 => ("PostFrameModel", "length", "[I", true)
  | 5 => ("PostFrameModel", "clause", "[I", true)
  | 6 => ("PostFrameModel", "clauses", "[I", true)
  | 7 => ("PostFrameModel", "told", "[I", true)
  | 8 => ("PostFrameModel", "next", "I", false)
  | 9 => ("PostFrameModel", "wrong", "I", false)
  | 10 => ("PostFrameModel", "number", "I", false)
  | 11 => ("PostFrameModel", "text", "I", false)
  | 12 => ("PostFrameModel", "made", "I", false)
  | 13 => ("PostFrameModel", "deep", "I", false)
  | 14 => ("PostFrameModel", "lines", "I", false)
  | 15 => ("PostFrameModel", "open", "[I", true)
  | 16 => ("PostFrameModel", "opened", "I", false)
  | 17 => ("PostFrameModel", "stack", "[J", true)
  | 18 => ("PostFrameModel", "top", "I", false)
  | 19 => ("PostFrameModel", "word", "[J", true)
  | 20 => ("PostFrameModel", "said", "[I", true)
  | 21 => ("PostFrameModel", "force", "I", false)
  | 22 => ("PostFrameModel", "x", "I", false)
  | 23 => ("PostFrameModel", "tiedLast", "I", false)
  | 24 => ("PostFrameModel", "wasSaid", "[I", true)
  | 25 => ("PostFrameModel", "undone", "I", false)
  | 26 => ("PostFrameModel", "digit", "[I", true)
  | 27 => ("PostFrameModel", "goes", "[I", true)
  | 28 => ("PostFrameModel", "needs", "[I", true)
  | 29 => ("PostFrameModel", "needsBelow", "[I", true)
  | 30 => ("PostFrameModel", "kept", "[I", true)
  | 31 => ("PostFrameModel", "lostMore", "I", false)
  | 32 => ("PostFrameModel", "tiedMore", "I", false)
  | 33 => ("PostFrameModel", "best", "[I", true)
  | 34 => ("PostFrameModel", "isFit", "[Z", true)
  | 35 => ("PostFrameModel", "lyingThen", "[I", true)
  | 36 => ("PostFrameModel", "canBe", "[Z", true)
  | 37 => ("PostFrameModel", "drawX", "J", false)
  | 38 => ("PostFrameModel", "images", "[I", true)
  | 39 => ("PostFrameModel", "imageForce", "[I", true)
  | 40 => ("PostFrameModel", "imageX", "[I", true)
  | _ => ("PostFrameModel", "isMade", "[Z", true)
def tyX12 : Nat → FieldType := fun k => match k with
  | 0 => .array .byte
  | 1 => .int
  | 2 => .int
  | 3 => .array .int
  | 4 => .array .int
  | 5 => .array .int
  | 6 => .array .int
  | 7 => .array .int
  | 8 => .int
  | 9 => .int
  | 10 => .int
  | 11 => .int
  | 12 => .int
  | 13 => .int
  | 14 => .int
  | 15 => .array .int
  | 16 => .int
  | 17 => .array .long
  | 18 => .int
  | 19 => .array .long
  | 20 => .array .int
  | 21 => .int
  | 22 => .int
  | 23 => .int
  | 24 => .array .int
  | 25 => .int
  | 26 => .array .int
  | 27 => .array .int
  | 28 => .array .int
  | 29 => .array .int
  | 30 => .array .int
  | 31 => .int
  | 32 => .int
  | 33 => .array .int
  | 34 => .array .boolean
  | 35 => .array .int
  | 36 => .array .boolean
  | 37 => .long
  | 38 => .array .int
  | 39 => .array .int
  | 40 => .array .int
  | _ => .array .boolean
abbrev wsX120 : List Cond := u_ws RX12 TX12 42
theorem nmX12 : ∀ a, a < 42 → ∀ b, b < 42 → a ≠ b → (TX12 a).2.1 ≠ (TX12 b).2.1 := by decide +kernel
theorem tyX12_ok : ∀ k, k < 42 → parseFieldDescriptor (TX12 k).2.2.1 = some (tyX12 k) := by decide +kernel
abbrev cX12_init : ByteArray := prog_14_method_1_code
def yX12_init : MethodName := ⟨RX12, "<init>", "()V"⟩
abbrev cX12_in : ByteArray := prog_14_method_2_code
def yX12_in : MethodName := ⟨RX12, "in", "(JJJ)Z"⟩
abbrev cX12_isOf : ByteArray := prog_14_method_3_code
def yX12_isOf : MethodName := ⟨RX12, "isOf", "(II)Z"⟩
abbrev cX12_bits : ByteArray := prog_14_method_4_code
def yX12_bits : MethodName := ⟨RX12, "bits", "(I)I"⟩
abbrev cX12_power : ByteArray := prog_14_method_5_code
def yX12_power : MethodName := ⟨RX12, "power", "(II)I"⟩
abbrev cX12_four : ByteArray := prog_14_method_6_code
def yX12_four : MethodName := ⟨RX12, "four", "(I)V"⟩
abbrev cX12_feed : ByteArray := prog_14_method_7_code
def yX12_feed : MethodName := ⟨RX12, "feed", "(IIIII)I"⟩
abbrev cX12_end : ByteArray := prog_14_method_8_code
def yX12_end : MethodName := ⟨RX12, "end", "(I)I"⟩
abbrev cX12_fails : ByteArray := prog_14_method_9_code
def yX12_fails : MethodName := ⟨RX12, "fails", "(II)Z"⟩
abbrev cX12_see : ByteArray := prog_14_method_10_code
def yX12_see : MethodName := ⟨RX12, "see", "()I"⟩
abbrev cX12_isDigit : ByteArray := prog_14_method_11_code
def yX12_isDigit : MethodName := ⟨RX12, "isDigit", "(I)Z"⟩
abbrev cX12_isLetter : ByteArray := prog_14_method_12_code
def yX12_isLetter : MethodName := ⟨RX12, "isLetter", "(I)Z"⟩
abbrev cX12_isWord : ByteArray := prog_14_method_13_code
def yX12_isWord : MethodName := ⟨RX12, "isWord", "(J)Z"⟩
abbrev cX12_passWord : ByteArray := prog_14_method_14_code
def yX12_passWord : MethodName := ⟨RX12, "passWord", "()V"⟩
abbrev cX12_takesWord : ByteArray := prog_14_method_15_code
def yX12_takesWord : MethodName := ⟨RX12, "takesWord", "(J)Z"⟩
abbrev cX12_numberHere : ByteArray := prog_14_method_16_code
def yX12_numberHere : MethodName := ⟨RX12, "numberHere", "(II)Z"⟩
abbrev cX12_wordHere : ByteArray := prog_14_method_17_code
def yX12_wordHere : MethodName := ⟨RX12, "wordHere", "()I"⟩
abbrev cX12_puts : ByteArray := prog_14_method_18_code
def yX12_puts : MethodName := ⟨RX12, "puts", "(II)V"⟩
abbrev cX12_makes : ByteArray := prog_14_method_19_code
def yX12_makes : MethodName := ⟨RX12, "makes", "(I)Z"⟩
abbrev cX12_opens : ByteArray := prog_14_method_20_code
def yX12_opens : MethodName := ⟨RX12, "opens", "(I)Z"⟩
abbrev cX12_strength : ByteArray := prog_14_method_21_code
def yX12_strength : MethodName := ⟨RX12, "strength", "(I)I"⟩
abbrev cX12_layDown : ByteArray := prog_14_method_22_code
def yX12_layDown : MethodName := ⟨RX12, "layDown", "(I)V"⟩
abbrev cX12_value : ByteArray := prog_14_method_23_code
def yX12_value : MethodName := ⟨RX12, "value", "()Z"⟩
abbrev cX12_term : ByteArray := prog_14_method_24_code
def yX12_term : MethodName := ⟨RX12, "term", "()Z"⟩
abbrev cX12_sum : ByteArray := prog_14_method_25_code
def yX12_sum : MethodName := ⟨RX12, "sum", "()Z"⟩
abbrev cX12_compare : ByteArray := prog_14_method_26_code
def yX12_compare : MethodName := ⟨RX12, "compare", "()Z"⟩
abbrev cX12_fact : ByteArray := prog_14_method_27_code
def yX12_fact : MethodName := ⟨RX12, "fact", "()Z"⟩
abbrev cX12_isInside : ByteArray := prog_14_method_28_code
def yX12_isInside : MethodName := ⟨RX12, "isInside", "()Z"⟩
abbrev cX12_closes : ByteArray := prog_14_method_29_code
def yX12_closes : MethodName := ⟨RX12, "closes", "()V"⟩
abbrev cX12_tested : ByteArray := prog_14_method_30_code
def yX12_tested : MethodName := ⟨RX12, "tested", "()Z"⟩
abbrev cX12_isTakeHere : ByteArray := prog_14_method_31_code
def yX12_isTakeHere : MethodName := ⟨RX12, "isTakeHere", "()Z"⟩
abbrev cX12_cellHere : ByteArray := prog_14_method_32_code
def yX12_cellHere : MethodName := ⟨RX12, "cellHere", "(III)Z"⟩
abbrev cX12_isFrameHere : ByteArray := prog_14_method_33_code
def yX12_isFrameHere : MethodName := ⟨RX12, "isFrameHere", "(I)Z"⟩
abbrev cX12_isRoomHere : ByteArray := prog_14_method_34_code
def yX12_isRoomHere : MethodName := ⟨RX12, "isRoomHere", "()Z"⟩
abbrev cX12_isPlanHere : ByteArray := prog_14_method_35_code
def yX12_isPlanHere : MethodName := ⟨RX12, "isPlanHere", "(I)Z"⟩
abbrev cX12_isLetterToldHere : ByteArray := prog_14_method_36_code
def yX12_isLetterToldHere : MethodName := ⟨RX12, "isLetterToldHere", "(I)Z"⟩
abbrev cX12_frameLineHere : ByteArray := prog_14_method_37_code
def yX12_frameLineHere : MethodName := ⟨RX12, "frameLineHere", "(I)Z"⟩
abbrev cX12_isFrameWord : ByteArray := prog_14_method_38_code
def yX12_isFrameWord : MethodName := ⟨RX12, "isFrameWord", "()Z"⟩
abbrev cX12_clauseHere : ByteArray := prog_14_method_39_code
def yX12_clauseHere : MethodName := ⟨RX12, "clauseHere", "()Z"⟩
abbrev cX12_readsAll : ByteArray := prog_14_method_40_code
def yX12_readsAll : MethodName := ⟨RX12, "readsAll", "()Z"⟩
abbrev cX12_rule : ByteArray := prog_14_method_41_code
def yX12_rule : MethodName := ⟨RX12, "rule", "()I"⟩
abbrev cX12_frame : ByteArray := prog_14_method_42_code
def yX12_frame : MethodName := ⟨RX12, "frame", "()I"⟩
abbrev cX12_isRule : ByteArray := prog_14_method_43_code
def yX12_isRule : MethodName := ⟨RX12, "isRule", "(I)Z"⟩
abbrev cX12_push : ByteArray := prog_14_method_44_code
def yX12_push : MethodName := ⟨RX12, "push", "(J)V"⟩
abbrev cX12_pop : ByteArray := prog_14_method_45_code
def yX12_pop : MethodName := ⟨RX12, "pop", "()J"⟩
abbrev cX12_sumOfTwo : ByteArray := prog_14_method_46_code
def yX12_sumOfTwo : MethodName := ⟨RX12, "sumOfTwo", "(IJJ)J"⟩
abbrev cX12_reckons : ByteArray := prog_14_method_47_code
def yX12_reckons : MethodName := ⟨RX12, "reckons", "(III)J"⟩
abbrev cX12_isFrame : ByteArray := prog_14_method_48_code
def yX12_isFrame : MethodName := ⟨RX12, "isFrame", "()Z"⟩
abbrev cX12_codesMany : ByteArray := prog_14_method_49_code
def yX12_codesMany : MethodName := ⟨RX12, "codesMany", "()I"⟩
abbrev cX12_isHole : ByteArray := prog_14_method_50_code
def yX12_isHole : MethodName := ⟨RX12, "isHole", "(I)Z"⟩
abbrev cX12_isEntry : ByteArray := prog_14_method_51_code
def yX12_isEntry : MethodName := ⟨RX12, "isEntry", "(I)Z"⟩
abbrev cX12_isCode : ByteArray := prog_14_method_52_code
def yX12_isCode : MethodName := ⟨RX12, "isCode", "(I)Z"⟩
abbrev cX12_prefixOf : ByteArray := prog_14_method_53_code
def yX12_prefixOf : MethodName := ⟨RX12, "prefixOf", "(II)I"⟩
abbrev cX12_entryOf : ByteArray := prog_14_method_54_code
def yX12_entryOf : MethodName := ⟨RX12, "entryOf", "(I)I"⟩
abbrev cX12_holeOf : ByteArray := prog_14_method_55_code
def yX12_holeOf : MethodName := ⟨RX12, "holeOf", "(I)I"⟩
abbrev cX12_sumOver : ByteArray := prog_14_method_56_code
def yX12_sumOver : MethodName := ⟨RX12, "sumOver", "(I)I"⟩
abbrev cX12_begins : ByteArray := prog_14_method_57_code
def yX12_begins : MethodName := ⟨RX12, "begins", "()V"⟩
abbrev cX12_force : ByteArray := prog_14_method_58_code
def yX12_force : MethodName := ⟨RX12, "force", "(I)I"⟩
abbrev cX12_hole : ByteArray := prog_14_method_59_code
def yX12_hole : MethodName := ⟨RX12, "hole", "(II)I"⟩
abbrev cX12_entry : ByteArray := prog_14_method_60_code
def yX12_entry : MethodName := ⟨RX12, "entry", "(II)I"⟩
abbrev cX12_waits : ByteArray := prog_14_method_61_code
def yX12_waits : MethodName := ⟨RX12, "waits", "(I)I"⟩
abbrev cX12_summedBy : ByteArray := prog_14_method_62_code
def yX12_summedBy : MethodName := ⟨RX12, "summedBy", "(I)J"⟩
abbrev cX12_sumOf : ByteArray := prog_14_method_63_code
def yX12_sumOf : MethodName := ⟨RX12, "sumOf", "(I)J"⟩
abbrev cX12_choice : ByteArray := prog_14_method_64_code
def yX12_choice : MethodName := ⟨RX12, "choice", "()I"⟩
abbrev cX12_ties : ByteArray := prog_14_method_65_code
def yX12_ties : MethodName := ⟨RX12, "ties", "(I)V"⟩
abbrev cX12_sorts : ByteArray := prog_14_method_66_code
def yX12_sorts : MethodName := ⟨RX12, "sorts", "(I)V"⟩
abbrev cX12_leaves : ByteArray := prog_14_method_67_code
def yX12_leaves : MethodName := ⟨RX12, "leaves", "(I)I"⟩
abbrev cX12_passes : ByteArray := prog_14_method_68_code
def yX12_passes : MethodName := ⟨RX12, "passes", "()I"⟩
abbrev cX12_passesAll : ByteArray := prog_14_method_69_code
def yX12_passesAll : MethodName := ⟨RX12, "passesAll", "(I)V"⟩
abbrev cX12_keepsAct : ByteArray := prog_14_method_70_code
def yX12_keepsAct : MethodName := ⟨RX12, "keepsAct", "()V"⟩
abbrev cX12_undo : ByteArray := prog_14_method_71_code
def yX12_undo : MethodName := ⟨RX12, "undo", "()I"⟩
abbrev cX12_turn : ByteArray := prog_14_method_72_code
def yX12_turn : MethodName := ⟨RX12, "turn", "()I"⟩
abbrev cX12_comes : ByteArray := prog_14_method_73_code
def yX12_comes : MethodName := ⟨RX12, "comes", "(I)V"⟩
abbrev cX12_post : ByteArray := prog_14_method_74_code
def yX12_post : MethodName := ⟨RX12, "post", "(I)I"⟩
abbrev cX12_tie : ByteArray := prog_14_method_75_code
def yX12_tie : MethodName := ⟨RX12, "tie", "(I)I"⟩
abbrev cX12_numberOf : ByteArray := prog_14_method_76_code
def yX12_numberOf : MethodName := ⟨RX12, "numberOf", "(II)I"⟩
abbrev cX12_canEnter : ByteArray := prog_14_method_77_code
def yX12_canEnter : MethodName := ⟨RX12, "canEnter", "(III)Z"⟩
abbrev cX12_enters : ByteArray := prog_14_method_78_code
def yX12_enters : MethodName := ⟨RX12, "enters", "(III)I"⟩
abbrev cX12_enter : ByteArray := prog_14_method_79_code
def yX12_enter : MethodName := ⟨RX12, "enter", "(III)I"⟩
abbrev cX12_strike : ByteArray := prog_14_method_80_code
def yX12_strike : MethodName := ⟨RX12, "strike", "(I)I"⟩
abbrev cX12_where : ByteArray := prog_14_method_81_code
def yX12_where : MethodName := ⟨RX12, "where", "(II)I"⟩
abbrev cX12_isReading : ByteArray := prog_14_method_82_code
def yX12_isReading : MethodName := ⟨RX12, "isReading", "(I)Z"⟩
abbrev cX12_digitOf : ByteArray := prog_14_method_83_code
def yX12_digitOf : MethodName := ⟨RX12, "digitOf", "(II)I"⟩
abbrev cX12_canMean : ByteArray := prog_14_method_84_code
def yX12_canMean : MethodName := ⟨RX12, "canMean", "(I)Z"⟩
abbrev cX12_may : ByteArray := prog_14_method_85_code
def yX12_may : MethodName := ⟨RX12, "may", "(I)I"⟩
abbrev cX12_areLike : ByteArray := prog_14_method_86_code
def yX12_areLike : MethodName := ⟨RX12, "areLike", "(III)Z"⟩
abbrev cX12_isEnough : ByteArray := prog_14_method_87_code
def yX12_isEnough : MethodName := ⟨RX12, "isEnough", "(I)Z"⟩
abbrev cX12_fillsGoes : ByteArray := prog_14_method_88_code
def yX12_fillsGoes : MethodName := ⟨RX12, "fillsGoes", "()V"⟩
abbrev cX12_read : ByteArray := prog_14_method_89_code
def yX12_read : MethodName := ⟨RX12, "read", "(II)I"⟩
abbrev cX12_codes : ByteArray := prog_14_method_90_code
def yX12_codes : MethodName := ⟨RX12, "codes", "(II)I"⟩
abbrev cX12_slipsOf : ByteArray := prog_14_method_91_code
def yX12_slipsOf : MethodName := ⟨RX12, "slipsOf", "(I)I"⟩
abbrev cX12_slips : ByteArray := prog_14_method_92_code
def yX12_slips : MethodName := ⟨RX12, "slips", "(I)I"⟩
abbrev cX12_worst : ByteArray := prog_14_method_93_code
def yX12_worst : MethodName := ⟨RX12, "worst", "(I)I"⟩
abbrev cX12_idle : ByteArray := prog_14_method_94_code
def yX12_idle : MethodName := ⟨RX12, "idle", "()I"⟩
abbrev cX12_needsOfCodes : ByteArray := prog_14_method_95_code
def yX12_needsOfCodes : MethodName := ⟨RX12, "needsOfCodes", "()V"⟩
abbrev cX12_needBelow : ByteArray := prog_14_method_96_code
def yX12_needBelow : MethodName := ⟨RX12, "needBelow", "(II)I"⟩
abbrev cX12_needsOf : ByteArray := prog_14_method_97_code
def yX12_needsOf : MethodName := ⟨RX12, "needsOf", "(I)V"⟩
abbrev cX12_least : ByteArray := prog_14_method_98_code
def yX12_least : MethodName := ⟨RX12, "least", "()I"⟩
abbrev cX12_keeps : ByteArray := prog_14_method_99_code
def yX12_keeps : MethodName := ⟨RX12, "keeps", "()V"⟩
abbrev cX12_laysBack : ByteArray := prog_14_method_100_code
def yX12_laysBack : MethodName := ⟨RX12, "laysBack", "()V"⟩
abbrev cX12_sortsAll : ByteArray := prog_14_method_101_code
def yX12_sortsAll : MethodName := ⟨RX12, "sortsAll", "()V"⟩
abbrev cX12_triesEntry : ByteArray := prog_14_method_102_code
def yX12_triesEntry : MethodName := ⟨RX12, "triesEntry", "(III)V"⟩
abbrev cX12_one : ByteArray := prog_14_method_103_code
def yX12_one : MethodName := ⟨RX12, "one", "(I)I"⟩
abbrev cX12_changes : ByteArray := prog_14_method_104_code
def yX12_changes : MethodName := ⟨RX12, "changes", "(II)V"⟩
abbrev cX12_change : ByteArray := prog_14_method_105_code
def yX12_change : MethodName := ⟨RX12, "change", "(I)I"⟩
abbrev cX12_ahead : ByteArray := prog_14_method_106_code
def yX12_ahead : MethodName := ⟨RX12, "ahead", "(III)I"⟩
abbrev cX12_sorted : ByteArray := prog_14_method_107_code
def yX12_sorted : MethodName := ⟨RX12, "sorted", "()I"⟩
abbrev cX12_tied : ByteArray := prog_14_method_108_code
def yX12_tied : MethodName := ⟨RX12, "tied", "(I)I"⟩
abbrev cX12_isTiedIn : ByteArray := prog_14_method_109_code
def yX12_isTiedIn : MethodName := ⟨RX12, "isTiedIn", "(II)Z"⟩
abbrev cX12_enough : ByteArray := prog_14_method_110_code
def yX12_enough : MethodName := ⟨RX12, "enough", "(II)I"⟩
abbrev cX12_pence : ByteArray := prog_14_method_111_code
def yX12_pence : MethodName := ⟨RX12, "pence", "(II)I"⟩
abbrev cX12_note : ByteArray := prog_14_method_112_code
def yX12_note : MethodName := ⟨RX12, "note", "(III)I"⟩
abbrev cX12_areNotesSo : ByteArray := prog_14_method_113_code
def yX12_areNotesSo : MethodName := ⟨RX12, "areNotesSo", "(I)Z"⟩
abbrev cX12_areAllSo : ByteArray := prog_14_method_114_code
def yX12_areAllSo : MethodName := ⟨RX12, "areAllSo", "(II)Z"⟩
abbrev cX12_fillsFits : ByteArray := prog_14_method_115_code
def yX12_fillsFits : MethodName := ⟨RX12, "fillsFits", "(I)V"⟩
abbrev cX12_ruled : ByteArray := prog_14_method_116_code
def yX12_ruled : MethodName := ⟨RX12, "ruled", "(I)I"⟩
abbrev cX12_alikeAt : ByteArray := prog_14_method_117_code
def yX12_alikeAt : MethodName := ⟨RX12, "alikeAt", "(I)I"⟩
abbrev cX12_look : ByteArray := prog_14_method_118_code
def yX12_look : MethodName := ⟨RX12, "look", "(II)I"⟩
abbrev cX12_fillsCanBe : ByteArray := prog_14_method_119_code
def yX12_fillsCanBe : MethodName := ⟨RX12, "fillsCanBe", "(II)V"⟩
abbrev cX12_said : ByteArray := prog_14_method_120_code
def yX12_said : MethodName := ⟨RX12, "said", "(II)I"⟩
abbrev cX12_sent : ByteArray := prog_14_method_121_code
def yX12_sent : MethodName := ⟨RX12, "sent", "(I)I"⟩
abbrev cX12_seed : ByteArray := prog_14_method_122_code
def yX12_seed : MethodName := ⟨RX12, "seed", "(I)I"⟩
abbrev cX12_draw : ByteArray := prog_14_method_123_code
def yX12_draw : MethodName := ⟨RX12, "draw", "(I)I"⟩
abbrev cX12_posts : ByteArray := prog_14_method_124_code
def yX12_posts : MethodName := ⟨RX12, "posts", "(IIII)I"⟩
abbrev cX12_count : ByteArray := prog_14_method_125_code
def yX12_count : MethodName := ⟨RX12, "count", "(I)I"⟩
abbrev cX12_image : ByteArray := prog_14_method_126_code
def yX12_image : MethodName := ⟨RX12, "image", "(I)I"⟩
abbrev cX12_back : ByteArray := prog_14_method_127_code
def yX12_back : MethodName := ⟨RX12, "back", "(I)I"⟩
def RJ6 : String := "java/lang/Integer"
def TJ6 : u_T := fun k => match k with
  | _ => ("", "", "", false)
def tyJ6 : Nat → FieldType := fun k => match k with
  | _ => .int
abbrev wsJ60 : List Cond := u_ws RJ6 TJ6 0
theorem nmJ6 : ∀ a, a < 0 → ∀ b, b < 0 → a ≠ b → (TJ6 a).2.1 ≠ (TJ6 b).2.1 := by decide +kernel
theorem tyJ6_ok : ∀ k, k < 0 → parseFieldDescriptor (TJ6 k).2.2.1 = some (tyJ6 k) := by decide +kernel
abbrev cJ6_bitCount_0f7a4 : ByteArray := prog_15_method_49_code
def yJ6_bitCount_0f7a4 : MethodName := ⟨RJ6, "bitCount", "(I)I"⟩
def RJ9 : String := "java/lang/Math"
def TJ9 : u_T := fun k => match k with
  | _ => ("", "", "", false)
def tyJ9 : Nat → FieldType := fun k => match k with
  | _ => .int
abbrev wsJ90 : List Cond := u_ws RJ9 TJ9 0
theorem nmJ9 : ∀ a, a < 0 → ∀ b, b < 0 → a ≠ b → (TJ9 a).2.1 ≠ (TJ9 b).2.1 := by decide +kernel
theorem tyJ9_ok : ∀ k, k < 0 → parseFieldDescriptor (TJ9 k).2.2.1 = some (tyJ9 k) := by decide +kernel
abbrev cJ9_max_7cf53 : ByteArray := prog_16_method_65_code
def yJ9_max_7cf53 : MethodName := ⟨RJ9, "max", "(II)I"⟩
abbrev cJ9_min_7cf53 : ByteArray := prog_16_method_69_code
def yJ9_min_7cf53 : MethodName := ⟨RJ9, "min", "(II)I"⟩
def RJ0 : String := "java/lang/String"
def TJ0 : u_T := fun k => match k with
  | _ => ("", "", "", false)
def tyJ0 : Nat → FieldType := fun k => match k with
  | _ => .int
abbrev wsJ00 : List Cond := u_ws RJ0 TJ0 0
theorem nmJ0 : ∀ a, a < 0 → ∀ b, b < 0 → a ≠ b → (TJ0 a).2.1 ≠ (TJ0 b).2.1 := by decide +kernel
theorem tyJ0_ok : ∀ k, k < 0 → parseFieldDescriptor (TJ0 k).2.2.1 = some (tyJ0 k) := by decide +kernel
abbrev cJ0_length_8abf5 : ByteArray := prog_17_method_54_code
def yJ0_length_8abf5 : MethodName := ⟨RJ0, "length", "()I"⟩
abbrev cJ0_charAt_5068e : ByteArray := prog_17_method_56_code
def yJ0_charAt_5068e : MethodName := ⟨RJ0, "charAt", "(I)C"⟩
abbrev cJ0_coder_7d493 : ByteArray := prog_17_method_152_code
def yJ0_coder_7d493 : MethodName := ⟨RJ0, "coder", "()B"⟩
abbrev cJ0_isLatin1_aae02 : ByteArray := prog_17_method_154_code
def yJ0_isLatin1_aae02 : MethodName := ⟨RJ0, "isLatin1", "()Z"⟩
abbrev cJ0_checkIndex_df160 : ByteArray := prog_17_method_155_code
def yJ0_checkIndex_df160 : MethodName := ⟨RJ0, "checkIndex", "(II)V"⟩
def RJ1 : String := "java/lang/StringLatin1"
def TJ1 : u_T := fun k => match k with
  | _ => ("", "", "", false)
def tyJ1 : Nat → FieldType := fun k => match k with
  | _ => .int
abbrev wsJ10 : List Cond := u_ws RJ1 TJ1 0
theorem nmJ1 : ∀ a, a < 0 → ∀ b, b < 0 → a ≠ b → (TJ1 a).2.1 ≠ (TJ1 b).2.1 := by decide +kernel
theorem tyJ1_ok : ∀ k, k < 0 → parseFieldDescriptor (TJ1 k).2.2.1 = some (tyJ1 k) := by decide +kernel
abbrev cJ1_charAt_3b067 : ByteArray := prog_18_method_2_code
def yJ1_charAt_3b067 : MethodName := ⟨RJ1, "charAt", "([BI)C"⟩
def RJ2 : String := "java/lang/StringUTF16"
def TJ2 : u_T := fun k => match k with
  | _ => ("", "", "", false)
def tyJ2 : Nat → FieldType := fun k => match k with
  | _ => .int
abbrev wsJ20 : List Cond := u_ws RJ2 TJ2 0
theorem nmJ2 : ∀ a, a < 0 → ∀ b, b < 0 → a ≠ b → (TJ2 a).2.1 ≠ (TJ2 b).2.1 := by decide +kernel
theorem tyJ2_ok : ∀ k, k < 0 → parseFieldDescriptor (TJ2 k).2.2.1 = some (tyJ2 k) := by decide +kernel
abbrev cJ2_getChar_3b067 : ByteArray := prog_19_method_5_code
def yJ2_getChar_3b067 : MethodName := ⟨RJ2, "getChar", "([BI)C"⟩
abbrev cJ2_length_9d52b : ByteArray := prog_19_method_6_code
def yJ2_length_9d52b : MethodName := ⟨RJ2, "length", "([B)I"⟩
abbrev cJ2_charAt_3b067 : ByteArray := prog_19_method_83_code
def yJ2_charAt_3b067 : MethodName := ⟨RJ2, "charAt", "([BI)C"⟩
abbrev cJ2_checkIndex_2214a : ByteArray := prog_19_method_91_code
def yJ2_checkIndex_2214a : MethodName := ⟨RJ2, "checkIndex", "(I[B)V"⟩
def RJ10 : String := "java/lang/System"
def TJ10 : u_T := fun k => match k with
  | _ => ("", "", "", false)
def tyJ10 : Nat → FieldType := fun k => match k with
  | _ => .int
abbrev wsJ100 : List Cond := u_ws RJ10 TJ10 0
theorem nmJ10 : ∀ a, a < 0 → ∀ b, b < 0 → a ≠ b → (TJ10 a).2.1 ≠ (TJ10 b).2.1 := by decide +kernel
theorem tyJ10_ok : ∀ k, k < 0 → parseFieldDescriptor (TJ10 k).2.2.1 = some (tyJ10 k) := by decide +kernel
def RJ3 : String := "jdk/internal/util/Preconditions"
def TJ3 : u_T := fun k => match k with
  | _ => ("", "", "", false)
def tyJ3 : Nat → FieldType := fun k => match k with
  | _ => .int
abbrev wsJ30 : List Cond := u_ws RJ3 TJ3 0
theorem nmJ3 : ∀ a, a < 0 → ∀ b, b < 0 → a ≠ b → (TJ3 a).2.1 ≠ (TJ3 b).2.1 := by decide +kernel
theorem tyJ3_ok : ∀ k, k < 0 → parseFieldDescriptor (TJ3 k).2.2.1 = some (tyJ3 k) := by decide +kernel
abbrev cJ3_checkIndex_8e157 : ByteArray := prog_21_method_11_code
def yJ3_checkIndex_8e157 : MethodName := ⟨RJ3, "checkIndex", "(IILjava/util/function/BiFunction;)I"⟩
def RL : String := "PostFrameLaw"
abbrev cL_law : ByteArray := code
def yL_law : MethodName := ⟨RL, "law", "([I)Z"⟩
abbrev vwCl : List vw_C := [(RX0, TX0, 14), (RX1, TX1, 6), (RX2, TX2, 9), (RX3, TX3, 3), (RX4, TX4, 4), (RX5, TX5, 4), (RX6, TX6, 7), (RX7, TX7, 6), (RX8, TX8, 6), (RX9, TX9, 4), (RX10, TX10, 7), (RX11, TX11, 14), (RX12, TX12, 42)]
theorem inX0 : ∀ w ∈ wsX00, w ∈ lw_tbl := by decide +kernel
theorem inX1 : ∀ w ∈ wsX10, w ∈ lw_tbl := by decide +kernel
theorem inX2 : ∀ w ∈ wsX20, w ∈ lw_tbl := by decide +kernel
theorem inX3 : ∀ w ∈ wsX30, w ∈ lw_tbl := by decide +kernel
theorem inX4 : ∀ w ∈ wsX40, w ∈ lw_tbl := by decide +kernel
theorem inX5 : ∀ w ∈ wsX50, w ∈ lw_tbl := by decide +kernel
theorem inX6 : ∀ w ∈ wsX60, w ∈ lw_tbl := by decide +kernel
theorem inX7 : ∀ w ∈ wsX70, w ∈ lw_tbl := by decide +kernel
theorem inX8 : ∀ w ∈ wsX80, w ∈ lw_tbl := by decide +kernel
theorem inX9 : ∀ w ∈ wsX90, w ∈ lw_tbl := by decide +kernel
theorem inX10 : ∀ w ∈ wsX100, w ∈ lw_tbl := by decide +kernel
theorem inX11 : ∀ w ∈ wsX110, w ∈ lw_tbl := by decide +kernel
theorem inX12 : ∀ w ∈ wsX120, w ∈ lw_tbl := by decide +kernel
def tb_w : List Jvm.Cond := lw_tbl.filter goodWord
theorem tb_good : GoodIn lw_tbl tb_w := fun w h => ⟨(List.mem_filter.mp h).1, good_of_word (List.mem_filter.mp h).2⟩
