section
-- ===== PART A: goes FIRST, ahead of the names: the tables' words, and 'selects' of the private methods out of them =====
/-- a private method of a class that the tables say can be made, by its rows of tables_1 -/
def lw_okq (q : MethodName × Nat) : Prop := (q.1.cls ≠ "java/lang/invoke/MethodHandle" ∧ q.1.cls ≠ "java/lang/invoke/VarHandle") ∧ Cond.instantiable q.1.cls q.2 ∈ tables_1 ∧ Cond.privateMethod q.1 ∈ tables_1 ∧ Cond.instanceMethod q.1 ∈ tables_1
theorem lw_p0 : lw_okq (⟨"FiveTouch", "hindrance", "(IIIIIZ)I"⟩, 13) := ⟨⟨by decide +kernel, by decide +kernel⟩, List.mem_of_getElem? (i := 21) (by decide +kernel), List.mem_of_getElem? (i := 324) (by decide +kernel), List.mem_of_getElem? (i := 325) (by decide +kernel)⟩
theorem lw_p1 : lw_okq (⟨"FiveTouch", "refuse", "(I)I"⟩, 13) := ⟨⟨by decide +kernel, by decide +kernel⟩, List.mem_of_getElem? (i := 21) (by decide +kernel), List.mem_of_getElem? (i := 352) (by decide +kernel), List.mem_of_getElem? (i := 353) (by decide +kernel)⟩
theorem lw_p2 : lw_okq (⟨"FiveTouch$Wall", "lay", "(IIIIII)V"⟩, 8) := ⟨⟨by decide +kernel, by decide +kernel⟩, List.mem_of_getElem? (i := 29) (by decide +kernel), List.mem_of_getElem? (i := 360) (by decide +kernel), List.mem_of_getElem? (i := 361) (by decide +kernel)⟩
theorem lw_p3 : lw_okq (⟨"FiveTouch", "accept", "(I)I"⟩, 13) := ⟨⟨by decide +kernel, by decide +kernel⟩, List.mem_of_getElem? (i := 21) (by decide +kernel), List.mem_of_getElem? (i := 368) (by decide +kernel), List.mem_of_getElem? (i := 369) (by decide +kernel)⟩
theorem lw_p4 : lw_okq (⟨"FiveTouch", "addFromTape", "(I)Z"⟩, 13) := ⟨⟨by decide +kernel, by decide +kernel⟩, List.mem_of_getElem? (i := 21) (by decide +kernel), List.mem_of_getElem? (i := 420) (by decide +kernel), List.mem_of_getElem? (i := 421) (by decide +kernel)⟩
theorem lw_p5 : lw_okq (⟨"FiveTouch$Reader", "advance", "()V"⟩, 10) := ⟨⟨by decide +kernel, by decide +kernel⟩, List.mem_of_getElem? (i := 87) (by decide +kernel), List.mem_of_getElem? (i := 440) (by decide +kernel), List.mem_of_getElem? (i := 441) (by decide +kernel)⟩
theorem lw_p6 : lw_okq (⟨"FiveTouch$Reader", "readClause", "()Z"⟩, 10) := ⟨⟨by decide +kernel, by decide +kernel⟩, List.mem_of_getElem? (i := 87) (by decide +kernel), List.mem_of_getElem? (i := 451) (by decide +kernel), List.mem_of_getElem? (i := 452) (by decide +kernel)⟩
theorem lw_p7 : lw_okq (⟨"FiveTouch$Reader", "mark", "()V"⟩, 10) := ⟨⟨by decide +kernel, by decide +kernel⟩, List.mem_of_getElem? (i := 87) (by decide +kernel), List.mem_of_getElem? (i := 455) (by decide +kernel), List.mem_of_getElem? (i := 456) (by decide +kernel)⟩
theorem lw_p8 : lw_okq (⟨"FiveTouch$Reader", "is", "(Ljava/lang/String;)Z"⟩, 10) := ⟨⟨by decide +kernel, by decide +kernel⟩, List.mem_of_getElem? (i := 87) (by decide +kernel), List.mem_of_getElem? (i := 461) (by decide +kernel), List.mem_of_getElem? (i := 462) (by decide +kernel)⟩
theorem lw_p9 : lw_okq (⟨"FiveTouch$Reader", "readSum", "(I)Z"⟩, 10) := ⟨⟨by decide +kernel, by decide +kernel⟩, List.mem_of_getElem? (i := 87) (by decide +kernel), List.mem_of_getElem? (i := 514) (by decide +kernel), List.mem_of_getElem? (i := 515) (by decide +kernel)⟩
theorem lw_p10 : lw_okq (⟨"FiveTouch$Reader", "readTerm", "(I)Z"⟩, 10) := ⟨⟨by decide +kernel, by decide +kernel⟩, List.mem_of_getElem? (i := 87) (by decide +kernel), List.mem_of_getElem? (i := 518) (by decide +kernel), List.mem_of_getElem? (i := 519) (by decide +kernel)⟩
theorem lw_p11 : lw_okq (⟨"FiveTouch$Reader", "readPart", "(I)Z"⟩, 10) := ⟨⟨by decide +kernel, by decide +kernel⟩, List.mem_of_getElem? (i := 87) (by decide +kernel), List.mem_of_getElem? (i := 522) (by decide +kernel), List.mem_of_getElem? (i := 523) (by decide +kernel)⟩
theorem lw_p12 : lw_okq (⟨"FiveTouch$Reader", "readBracketed", "(IZLjava/lang/String;)Z"⟩, 10) := ⟨⟨by decide +kernel, by decide +kernel⟩, List.mem_of_getElem? (i := 87) (by decide +kernel), List.mem_of_getElem? (i := 528) (by decide +kernel), List.mem_of_getElem? (i := 529) (by decide +kernel)⟩
theorem lw_p13 : lw_okq (⟨"FiveTouch$Reader", "readTest", "(I)Z"⟩, 10) := ⟨⟨by decide +kernel, by decide +kernel⟩, List.mem_of_getElem? (i := 87) (by decide +kernel), List.mem_of_getElem? (i := 532) (by decide +kernel), List.mem_of_getElem? (i := 533) (by decide +kernel)⟩
theorem lw_p14 : lw_okq (⟨"FiveTouch$Reader", "readBoth", "(I)Z"⟩, 10) := ⟨⟨by decide +kernel, by decide +kernel⟩, List.mem_of_getElem? (i := 87) (by decide +kernel), List.mem_of_getElem? (i := 536) (by decide +kernel), List.mem_of_getElem? (i := 537) (by decide +kernel)⟩
theorem lw_p15 : lw_okq (⟨"FiveTouch$Reader", "readPlain", "(I)Z"⟩, 10) := ⟨⟨by decide +kernel, by decide +kernel⟩, List.mem_of_getElem? (i := 87) (by decide +kernel), List.mem_of_getElem? (i := 540) (by decide +kernel), List.mem_of_getElem? (i := 541) (by decide +kernel)⟩
def lw_privs_1 : List (MethodName × Nat) := [(⟨"FiveTouch", "hindrance", "(IIIIIZ)I"⟩, 13), (⟨"FiveTouch", "refuse", "(I)I"⟩, 13), (⟨"FiveTouch$Wall", "lay", "(IIIIII)V"⟩, 8), (⟨"FiveTouch", "accept", "(I)I"⟩, 13), (⟨"FiveTouch", "addFromTape", "(I)Z"⟩, 13), (⟨"FiveTouch$Reader", "advance", "()V"⟩, 10), (⟨"FiveTouch$Reader", "readClause", "()Z"⟩, 10), (⟨"FiveTouch$Reader", "mark", "()V"⟩, 10), (⟨"FiveTouch$Reader", "is", "(Ljava/lang/String;)Z"⟩, 10), (⟨"FiveTouch$Reader", "readSum", "(I)Z"⟩, 10), (⟨"FiveTouch$Reader", "readTerm", "(I)Z"⟩, 10), (⟨"FiveTouch$Reader", "readPart", "(I)Z"⟩, 10), (⟨"FiveTouch$Reader", "readBracketed", "(IZLjava/lang/String;)Z"⟩, 10), (⟨"FiveTouch$Reader", "readTest", "(I)Z"⟩, 10), (⟨"FiveTouch$Reader", "readBoth", "(I)Z"⟩, 10), (⟨"FiveTouch$Reader", "readPlain", "(I)Z"⟩, 10)]
theorem lw_r1 : ∀ q ∈ lw_privs_1, lw_okq q := List.forall_mem_cons.mpr ⟨lw_p0, List.forall_mem_cons.mpr ⟨lw_p1, List.forall_mem_cons.mpr ⟨lw_p2, List.forall_mem_cons.mpr ⟨lw_p3, List.forall_mem_cons.mpr ⟨lw_p4, List.forall_mem_cons.mpr ⟨lw_p5, List.forall_mem_cons.mpr ⟨lw_p6, List.forall_mem_cons.mpr ⟨lw_p7, List.forall_mem_cons.mpr ⟨lw_p8, List.forall_mem_cons.mpr ⟨lw_p9, List.forall_mem_cons.mpr ⟨lw_p10, List.forall_mem_cons.mpr ⟨lw_p11, List.forall_mem_cons.mpr ⟨lw_p12, List.forall_mem_cons.mpr ⟨lw_p13, List.forall_mem_cons.mpr ⟨lw_p14, List.forall_mem_cons.mpr ⟨lw_p15, fun _ h => absurd h List.not_mem_nil⟩⟩⟩⟩⟩⟩⟩⟩⟩⟩⟩⟩⟩⟩⟩⟩
theorem lw_p16 : lw_okq (⟨"FiveTouch$Reader", "readCompared", "(I)Z"⟩, 10) := ⟨⟨by decide +kernel, by decide +kernel⟩, List.mem_of_getElem? (i := 87) (by decide +kernel), List.mem_of_getElem? (i := 547) (by decide +kernel), List.mem_of_getElem? (i := 548) (by decide +kernel)⟩
theorem lw_p17 : lw_okq (⟨"FiveTouch$Reader", "addStep", "(II)I"⟩, 10) := ⟨⟨by decide +kernel, by decide +kernel⟩, List.mem_of_getElem? (i := 87) (by decide +kernel), List.mem_of_getElem? (i := 554) (by decide +kernel), List.mem_of_getElem? (i := 555) (by decide +kernel)⟩
theorem lw_p18 : lw_okq (⟨"FiveTouch$Reader", "aimHere", "(I)V"⟩, 10) := ⟨⟨by decide +kernel, by decide +kernel⟩, List.mem_of_getElem? (i := 87) (by decide +kernel), List.mem_of_getElem? (i := 559) (by decide +kernel), List.mem_of_getElem? (i := 560) (by decide +kernel)⟩
theorem lw_p19 : lw_okq (⟨"FiveTouch$Reader", "namedFact", "()I"⟩, 10) := ⟨⟨by decide +kernel, by decide +kernel⟩, List.mem_of_getElem? (i := 87) (by decide +kernel), List.mem_of_getElem? (i := 564) (by decide +kernel), List.mem_of_getElem? (i := 565) (by decide +kernel)⟩
theorem lw_p20 : lw_okq (⟨"FiveTouch$Reader", "numberTold", "()I"⟩, 10) := ⟨⟨by decide +kernel, by decide +kernel⟩, List.mem_of_getElem? (i := 87) (by decide +kernel), List.mem_of_getElem? (i := 576) (by decide +kernel), List.mem_of_getElem? (i := 577) (by decide +kernel)⟩
theorem lw_p21 : lw_okq (⟨"FiveTouch", "refresh", "()V"⟩, 13) := ⟨⟨by decide +kernel, by decide +kernel⟩, List.mem_of_getElem? (i := 21) (by decide +kernel), List.mem_of_getElem? (i := 628) (by decide +kernel), List.mem_of_getElem? (i := 629) (by decide +kernel)⟩
theorem lw_p22 : lw_okq (⟨"FiveTouch$Asker", "isSo", "(LFiveTouch$Law;ILFiveTouch$Wall;I)Z"⟩, 3) := ⟨⟨by decide +kernel, by decide +kernel⟩, List.mem_of_getElem? (i := 131) (by decide +kernel), List.mem_of_getElem? (i := 662) (by decide +kernel), List.mem_of_getElem? (i := 663) (by decide +kernel)⟩
theorem lw_p23 : lw_okq (⟨"FiveTouch$Asker", "value", "(LFiveTouch$Law;ILFiveTouch$Wall;I)J"⟩, 3) := ⟨⟨by decide +kernel, by decide +kernel⟩, List.mem_of_getElem? (i := 131) (by decide +kernel), List.mem_of_getElem? (i := 666) (by decide +kernel), List.mem_of_getElem? (i := 667) (by decide +kernel)⟩
theorem lw_p24 : lw_okq (⟨"FiveTouch$Asker", "push", "(J)V"⟩, 3) := ⟨⟨by decide +kernel, by decide +kernel⟩, List.mem_of_getElem? (i := 131) (by decide +kernel), List.mem_of_getElem? (i := 675) (by decide +kernel), List.mem_of_getElem? (i := 676) (by decide +kernel)⟩
theorem lw_p25 : lw_okq (⟨"FiveTouch$Asker", "pop", "()J"⟩, 3) := ⟨⟨by decide +kernel, by decide +kernel⟩, List.mem_of_getElem? (i := 131) (by decide +kernel), List.mem_of_getElem? (i := 680) (by decide +kernel), List.mem_of_getElem? (i := 681) (by decide +kernel)⟩
theorem lw_p26 : lw_okq (⟨"FiveTouch$Asker", "joined", "(IJJ)J"⟩, 3) := ⟨⟨by decide +kernel, by decide +kernel⟩, List.mem_of_getElem? (i := 131) (by decide +kernel), List.mem_of_getElem? (i := 685) (by decide +kernel), List.mem_of_getElem? (i := 686) (by decide +kernel)⟩
theorem lw_p27 : lw_okq (⟨"FiveTouch$Thieves", "isDue", "(I)Z"⟩, 14) := ⟨⟨by decide +kernel, by decide +kernel⟩, List.mem_of_getElem? (i := 167) (by decide +kernel), List.mem_of_getElem? (i := 796) (by decide +kernel), List.mem_of_getElem? (i := 797) (by decide +kernel)⟩
theorem lw_p28 : lw_okq (⟨"FiveTouch$Thieves", "findLawful", "()V"⟩, 14) := ⟨⟨by decide +kernel, by decide +kernel⟩, List.mem_of_getElem? (i := 167) (by decide +kernel), List.mem_of_getElem? (i := 800) (by decide +kernel), List.mem_of_getElem? (i := 801) (by decide +kernel)⟩
theorem lw_p29 : lw_okq (⟨"FiveTouch$Thieves", "findStepSets", "()V"⟩, 14) := ⟨⟨by decide +kernel, by decide +kernel⟩, List.mem_of_getElem? (i := 167) (by decide +kernel), List.mem_of_getElem? (i := 849) (by decide +kernel), List.mem_of_getElem? (i := 850) (by decide +kernel)⟩
theorem lw_p30 : lw_okq (⟨"FiveTouch$Thieves", "findOrder", "(I)V"⟩, 14) := ⟨⟨by decide +kernel, by decide +kernel⟩, List.mem_of_getElem? (i := 167) (by decide +kernel), List.mem_of_getElem? (i := 858) (by decide +kernel), List.mem_of_getElem? (i := 859) (by decide +kernel)⟩
theorem lw_p31 : lw_okq (⟨"FiveTouch$Thieves", "lowestMarked", "(II)I"⟩, 14) := ⟨⟨by decide +kernel, by decide +kernel⟩, List.mem_of_getElem? (i := 167) (by decide +kernel), List.mem_of_getElem? (i := 866) (by decide +kernel), List.mem_of_getElem? (i := 867) (by decide +kernel)⟩
def lw_privs_2 : List (MethodName × Nat) := [(⟨"FiveTouch$Reader", "readCompared", "(I)Z"⟩, 10), (⟨"FiveTouch$Reader", "addStep", "(II)I"⟩, 10), (⟨"FiveTouch$Reader", "aimHere", "(I)V"⟩, 10), (⟨"FiveTouch$Reader", "namedFact", "()I"⟩, 10), (⟨"FiveTouch$Reader", "numberTold", "()I"⟩, 10), (⟨"FiveTouch", "refresh", "()V"⟩, 13), (⟨"FiveTouch$Asker", "isSo", "(LFiveTouch$Law;ILFiveTouch$Wall;I)Z"⟩, 3), (⟨"FiveTouch$Asker", "value", "(LFiveTouch$Law;ILFiveTouch$Wall;I)J"⟩, 3), (⟨"FiveTouch$Asker", "push", "(J)V"⟩, 3), (⟨"FiveTouch$Asker", "pop", "()J"⟩, 3), (⟨"FiveTouch$Asker", "joined", "(IJJ)J"⟩, 3), (⟨"FiveTouch$Thieves", "isDue", "(I)Z"⟩, 14), (⟨"FiveTouch$Thieves", "findLawful", "()V"⟩, 14), (⟨"FiveTouch$Thieves", "findStepSets", "()V"⟩, 14), (⟨"FiveTouch$Thieves", "findOrder", "(I)V"⟩, 14), (⟨"FiveTouch$Thieves", "lowestMarked", "(II)I"⟩, 14)]
theorem lw_r2 : ∀ q ∈ lw_privs_2, lw_okq q := List.forall_mem_cons.mpr ⟨lw_p16, List.forall_mem_cons.mpr ⟨lw_p17, List.forall_mem_cons.mpr ⟨lw_p18, List.forall_mem_cons.mpr ⟨lw_p19, List.forall_mem_cons.mpr ⟨lw_p20, List.forall_mem_cons.mpr ⟨lw_p21, List.forall_mem_cons.mpr ⟨lw_p22, List.forall_mem_cons.mpr ⟨lw_p23, List.forall_mem_cons.mpr ⟨lw_p24, List.forall_mem_cons.mpr ⟨lw_p25, List.forall_mem_cons.mpr ⟨lw_p26, List.forall_mem_cons.mpr ⟨lw_p27, List.forall_mem_cons.mpr ⟨lw_p28, List.forall_mem_cons.mpr ⟨lw_p29, List.forall_mem_cons.mpr ⟨lw_p30, List.forall_mem_cons.mpr ⟨lw_p31, fun _ h => absurd h List.not_mem_nil⟩⟩⟩⟩⟩⟩⟩⟩⟩⟩⟩⟩⟩⟩⟩⟩
theorem lw_p32 : lw_okq (⟨"FiveTouch$Thieves", "winningIn", "(I)I"⟩, 14) := ⟨⟨by decide +kernel, by decide +kernel⟩, List.mem_of_getElem? (i := 167) (by decide +kernel), List.mem_of_getElem? (i := 921) (by decide +kernel), List.mem_of_getElem? (i := 922) (by decide +kernel)⟩
theorem lw_p33 : lw_okq (⟨"FiveTouch$Seasons", "frozen", "(LFiveTouch$Wall;I)I"⟩, 3) := ⟨⟨by decide +kernel, by decide +kernel⟩, List.mem_of_getElem? (i := 264) (by decide +kernel), List.mem_of_getElem? (i := 948) (by decide +kernel), List.mem_of_getElem? (i := 949) (by decide +kernel)⟩
theorem lw_p34 : lw_okq (⟨"FiveTouch$Seasons", "draw", "(I)I"⟩, 3) := ⟨⟨by decide +kernel, by decide +kernel⟩, List.mem_of_getElem? (i := 264) (by decide +kernel), List.mem_of_getElem? (i := 952) (by decide +kernel), List.mem_of_getElem? (i := 953) (by decide +kernel)⟩
theorem lw_p35 : lw_okq (⟨"FiveTouchModel", "refuses", "(I)I"⟩, 39) := ⟨⟨by decide +kernel, by decide +kernel⟩, List.mem_of_getElem? (i := 997) (by decide +kernel), List.mem_of_getElem? (i := 1128) (by decide +kernel), List.mem_of_getElem? (i := 1129) (by decide +kernel)⟩
theorem lw_p36 : lw_okq (⟨"FiveTouchModel", "good", "(I)I"⟩, 39) := ⟨⟨by decide +kernel, by decide +kernel⟩, List.mem_of_getElem? (i := 997) (by decide +kernel), List.mem_of_getElem? (i := 1132) (by decide +kernel), List.mem_of_getElem? (i := 1133) (by decide +kernel)⟩
theorem lw_p37 : lw_okq (⟨"FiveTouchModel", "isFree", "(IIII)Z"⟩, 39) := ⟨⟨by decide +kernel, by decide +kernel⟩, List.mem_of_getElem? (i := 997) (by decide +kernel), List.mem_of_getElem? (i := 1147) (by decide +kernel), List.mem_of_getElem? (i := 1148) (by decide +kernel)⟩
theorem lw_p38 : lw_okq (⟨"FiveTouchModel", "isItem", "(I)Z"⟩, 39) := ⟨⟨by decide +kernel, by decide +kernel⟩, List.mem_of_getElem? (i := 997) (by decide +kernel), List.mem_of_getElem? (i := 1151) (by decide +kernel), List.mem_of_getElem? (i := 1152) (by decide +kernel)⟩
theorem lw_p39 : lw_okq (⟨"FiveTouchModel", "isStone", "(I)Z"⟩, 39) := ⟨⟨by decide +kernel, by decide +kernel⟩, List.mem_of_getElem? (i := 997) (by decide +kernel), List.mem_of_getElem? (i := 1155) (by decide +kernel), List.mem_of_getElem? (i := 1156) (by decide +kernel)⟩
theorem lw_p40 : lw_okq (⟨"FiveTouchModel", "stones", "()I"⟩, 39) := ⟨⟨by decide +kernel, by decide +kernel⟩, List.mem_of_getElem? (i := 997) (by decide +kernel), List.mem_of_getElem? (i := 1159) (by decide +kernel), List.mem_of_getElem? (i := 1160) (by decide +kernel)⟩
theorem lw_p41 : lw_okq (⟨"FiveTouchModel", "spares", "()I"⟩, 39) := ⟨⟨by decide +kernel, by decide +kernel⟩, List.mem_of_getElem? (i := 997) (by decide +kernel), List.mem_of_getElem? (i := 1163) (by decide +kernel), List.mem_of_getElem? (i := 1164) (by decide +kernel)⟩
theorem lw_p42 : lw_okq (⟨"FiveTouchModel", "covers", "(III)Z"⟩, 39) := ⟨⟨by decide +kernel, by decide +kernel⟩, List.mem_of_getElem? (i := 997) (by decide +kernel), List.mem_of_getElem? (i := 1167) (by decide +kernel), List.mem_of_getElem? (i := 1168) (by decide +kernel)⟩
theorem lw_p43 : lw_okq (⟨"FiveTouchModel", "factOf", "(II)I"⟩, 39) := ⟨⟨by decide +kernel, by decide +kernel⟩, List.mem_of_getElem? (i := 997) (by decide +kernel), List.mem_of_getElem? (i := 1171) (by decide +kernel), List.mem_of_getElem? (i := 1172) (by decide +kernel)⟩
theorem lw_p44 : lw_okq (⟨"FiveTouchModel", "adds", "(IIIII)I"⟩, 39) := ⟨⟨by decide +kernel, by decide +kernel⟩, List.mem_of_getElem? (i := 997) (by decide +kernel), List.mem_of_getElem? (i := 1175) (by decide +kernel), List.mem_of_getElem? (i := 1176) (by decide +kernel)⟩
theorem lw_p45 : lw_okq (⟨"FiveTouchModel", "lays", "(IIIIII)V"⟩, 39) := ⟨⟨by decide +kernel, by decide +kernel⟩, List.mem_of_getElem? (i := 997) (by decide +kernel), List.mem_of_getElem? (i := 1179) (by decide +kernel), List.mem_of_getElem? (i := 1180) (by decide +kernel)⟩
theorem lw_p46 : lw_okq (⟨"FiveTouchModel", "reads", "()Z"⟩, 39) := ⟨⟨by decide +kernel, by decide +kernel⟩, List.mem_of_getElem? (i := 997) (by decide +kernel), List.mem_of_getElem? (i := 1219) (by decide +kernel), List.mem_of_getElem? (i := 1220) (by decide +kernel)⟩
theorem lw_p47 : lw_okq (⟨"FiveTouchModel", "splits", "(I)V"⟩, 39) := ⟨⟨by decide +kernel, by decide +kernel⟩, List.mem_of_getElem? (i := 997) (by decide +kernel), List.mem_of_getElem? (i := 1223) (by decide +kernel), List.mem_of_getElem? (i := 1224) (by decide +kernel)⟩
def lw_privs_3 : List (MethodName × Nat) := [(⟨"FiveTouch$Thieves", "winningIn", "(I)I"⟩, 14), (⟨"FiveTouch$Seasons", "frozen", "(LFiveTouch$Wall;I)I"⟩, 3), (⟨"FiveTouch$Seasons", "draw", "(I)I"⟩, 3), (⟨"FiveTouchModel", "refuses", "(I)I"⟩, 39), (⟨"FiveTouchModel", "good", "(I)I"⟩, 39), (⟨"FiveTouchModel", "isFree", "(IIII)Z"⟩, 39), (⟨"FiveTouchModel", "isItem", "(I)Z"⟩, 39), (⟨"FiveTouchModel", "isStone", "(I)Z"⟩, 39), (⟨"FiveTouchModel", "stones", "()I"⟩, 39), (⟨"FiveTouchModel", "spares", "()I"⟩, 39), (⟨"FiveTouchModel", "covers", "(III)Z"⟩, 39), (⟨"FiveTouchModel", "factOf", "(II)I"⟩, 39), (⟨"FiveTouchModel", "adds", "(IIIII)I"⟩, 39), (⟨"FiveTouchModel", "lays", "(IIIIII)V"⟩, 39), (⟨"FiveTouchModel", "reads", "()Z"⟩, 39), (⟨"FiveTouchModel", "splits", "(I)V"⟩, 39)]
theorem lw_r3 : ∀ q ∈ lw_privs_3, lw_okq q := List.forall_mem_cons.mpr ⟨lw_p32, List.forall_mem_cons.mpr ⟨lw_p33, List.forall_mem_cons.mpr ⟨lw_p34, List.forall_mem_cons.mpr ⟨lw_p35, List.forall_mem_cons.mpr ⟨lw_p36, List.forall_mem_cons.mpr ⟨lw_p37, List.forall_mem_cons.mpr ⟨lw_p38, List.forall_mem_cons.mpr ⟨lw_p39, List.forall_mem_cons.mpr ⟨lw_p40, List.forall_mem_cons.mpr ⟨lw_p41, List.forall_mem_cons.mpr ⟨lw_p42, List.forall_mem_cons.mpr ⟨lw_p43, List.forall_mem_cons.mpr ⟨lw_p44, List.forall_mem_cons.mpr ⟨lw_p45, List.forall_mem_cons.mpr ⟨lw_p46, List.forall_mem_cons.mpr ⟨lw_p47, fun _ h => absurd h List.not_mem_nil⟩⟩⟩⟩⟩⟩⟩⟩⟩⟩⟩⟩⟩⟩⟩⟩
theorem lw_p48 : lw_okq (⟨"FiveTouchModel", "wordOf", "(II)I"⟩, 39) := ⟨⟨by decide +kernel, by decide +kernel⟩, List.mem_of_getElem? (i := 997) (by decide +kernel), List.mem_of_getElem? (i := 1233) (by decide +kernel), List.mem_of_getElem? (i := 1234) (by decide +kernel)⟩
theorem lw_p49 : lw_okq (⟨"FiveTouchModel", "readClause", "()V"⟩, 39) := ⟨⟨by decide +kernel, by decide +kernel⟩, List.mem_of_getElem? (i := 997) (by decide +kernel), List.mem_of_getElem? (i := 1238) (by decide +kernel), List.mem_of_getElem? (i := 1239) (by decide +kernel)⟩
theorem lw_p50 : lw_okq (⟨"FiveTouchModel", "takes0", "(I)Z"⟩, 39) := ⟨⟨by decide +kernel, by decide +kernel⟩, List.mem_of_getElem? (i := 997) (by decide +kernel), List.mem_of_getElem? (i := 1242) (by decide +kernel), List.mem_of_getElem? (i := 1243) (by decide +kernel)⟩
theorem lw_p51 : lw_okq (⟨"FiveTouchModel", "fine", "()Z"⟩, 39) := ⟨⟨by decide +kernel, by decide +kernel⟩, List.mem_of_getElem? (i := 997) (by decide +kernel), List.mem_of_getElem? (i := 1246) (by decide +kernel), List.mem_of_getElem? (i := 1247) (by decide +kernel)⟩
theorem lw_p52 : lw_okq (⟨"FiveTouchModel", "readSum", "(I)V"⟩, 39) := ⟨⟨by decide +kernel, by decide +kernel⟩, List.mem_of_getElem? (i := 997) (by decide +kernel), List.mem_of_getElem? (i := 1250) (by decide +kernel), List.mem_of_getElem? (i := 1251) (by decide +kernel)⟩
theorem lw_p53 : lw_okq (⟨"FiveTouchModel", "readTerm", "(I)V"⟩, 39) := ⟨⟨by decide +kernel, by decide +kernel⟩, List.mem_of_getElem? (i := 997) (by decide +kernel), List.mem_of_getElem? (i := 1254) (by decide +kernel), List.mem_of_getElem? (i := 1255) (by decide +kernel)⟩
theorem lw_p54 : lw_okq (⟨"FiveTouchModel", "readPart", "(I)V"⟩, 39) := ⟨⟨by decide +kernel, by decide +kernel⟩, List.mem_of_getElem? (i := 997) (by decide +kernel), List.mem_of_getElem? (i := 1258) (by decide +kernel), List.mem_of_getElem? (i := 1259) (by decide +kernel)⟩
theorem lw_p55 : lw_okq (⟨"FiveTouchModel", "faults", "()V"⟩, 39) := ⟨⟨by decide +kernel, by decide +kernel⟩, List.mem_of_getElem? (i := 997) (by decide +kernel), List.mem_of_getElem? (i := 1265) (by decide +kernel), List.mem_of_getElem? (i := 1266) (by decide +kernel)⟩
theorem lw_p56 : lw_okq (⟨"FiveTouchModel", "must", "(I)V"⟩, 39) := ⟨⟨by decide +kernel, by decide +kernel⟩, List.mem_of_getElem? (i := 997) (by decide +kernel), List.mem_of_getElem? (i := 1269) (by decide +kernel), List.mem_of_getElem? (i := 1270) (by decide +kernel)⟩
theorem lw_p57 : lw_okq (⟨"FiveTouchModel", "leaf", "()V"⟩, 39) := ⟨⟨by decide +kernel, by decide +kernel⟩, List.mem_of_getElem? (i := 997) (by decide +kernel), List.mem_of_getElem? (i := 1273) (by decide +kernel), List.mem_of_getElem? (i := 1274) (by decide +kernel)⟩
theorem lw_p58 : lw_okq (⟨"FiveTouchModel", "readTest", "(I)V"⟩, 39) := ⟨⟨by decide +kernel, by decide +kernel⟩, List.mem_of_getElem? (i := 997) (by decide +kernel), List.mem_of_getElem? (i := 1277) (by decide +kernel), List.mem_of_getElem? (i := 1278) (by decide +kernel)⟩
theorem lw_p59 : lw_okq (⟨"FiveTouchModel", "readBoth", "(I)V"⟩, 39) := ⟨⟨by decide +kernel, by decide +kernel⟩, List.mem_of_getElem? (i := 997) (by decide +kernel), List.mem_of_getElem? (i := 1281) (by decide +kernel), List.mem_of_getElem? (i := 1282) (by decide +kernel)⟩
theorem lw_p60 : lw_okq (⟨"FiveTouchModel", "readPlain", "(I)V"⟩, 39) := ⟨⟨by decide +kernel, by decide +kernel⟩, List.mem_of_getElem? (i := 997) (by decide +kernel), List.mem_of_getElem? (i := 1285) (by decide +kernel), List.mem_of_getElem? (i := 1286) (by decide +kernel)⟩
theorem lw_p61 : lw_okq (⟨"FiveTouchModel", "looks", "()V"⟩, 39) := ⟨⟨by decide +kernel, by decide +kernel⟩, List.mem_of_getElem? (i := 997) (by decide +kernel), List.mem_of_getElem? (i := 1308) (by decide +kernel), List.mem_of_getElem? (i := 1309) (by decide +kernel)⟩
theorem lw_p62 : lw_okq (⟨"FiveTouchModel", "asksOf", "(I)V"⟩, 39) := ⟨⟨by decide +kernel, by decide +kernel⟩, List.mem_of_getElem? (i := 997) (by decide +kernel), List.mem_of_getElem? (i := 1312) (by decide +kernel), List.mem_of_getElem? (i := 1313) (by decide +kernel)⟩
theorem lw_p63 : lw_okq (⟨"FiveTouchModel", "codeAt", "(I)I"⟩, 39) := ⟨⟨by decide +kernel, by decide +kernel⟩, List.mem_of_getElem? (i := 997) (by decide +kernel), List.mem_of_getElem? (i := 1316) (by decide +kernel), List.mem_of_getElem? (i := 1317) (by decide +kernel)⟩
def lw_privs_4 : List (MethodName × Nat) := [(⟨"FiveTouchModel", "wordOf", "(II)I"⟩, 39), (⟨"FiveTouchModel", "readClause", "()V"⟩, 39), (⟨"FiveTouchModel", "takes0", "(I)Z"⟩, 39), (⟨"FiveTouchModel", "fine", "()Z"⟩, 39), (⟨"FiveTouchModel", "readSum", "(I)V"⟩, 39), (⟨"FiveTouchModel", "readTerm", "(I)V"⟩, 39), (⟨"FiveTouchModel", "readPart", "(I)V"⟩, 39), (⟨"FiveTouchModel", "faults", "()V"⟩, 39), (⟨"FiveTouchModel", "must", "(I)V"⟩, 39), (⟨"FiveTouchModel", "leaf", "()V"⟩, 39), (⟨"FiveTouchModel", "readTest", "(I)V"⟩, 39), (⟨"FiveTouchModel", "readBoth", "(I)V"⟩, 39), (⟨"FiveTouchModel", "readPlain", "(I)V"⟩, 39), (⟨"FiveTouchModel", "looks", "()V"⟩, 39), (⟨"FiveTouchModel", "asksOf", "(I)V"⟩, 39), (⟨"FiveTouchModel", "codeAt", "(I)I"⟩, 39)]
theorem lw_r4 : ∀ q ∈ lw_privs_4, lw_okq q := List.forall_mem_cons.mpr ⟨lw_p48, List.forall_mem_cons.mpr ⟨lw_p49, List.forall_mem_cons.mpr ⟨lw_p50, List.forall_mem_cons.mpr ⟨lw_p51, List.forall_mem_cons.mpr ⟨lw_p52, List.forall_mem_cons.mpr ⟨lw_p53, List.forall_mem_cons.mpr ⟨lw_p54, List.forall_mem_cons.mpr ⟨lw_p55, List.forall_mem_cons.mpr ⟨lw_p56, List.forall_mem_cons.mpr ⟨lw_p57, List.forall_mem_cons.mpr ⟨lw_p58, List.forall_mem_cons.mpr ⟨lw_p59, List.forall_mem_cons.mpr ⟨lw_p60, List.forall_mem_cons.mpr ⟨lw_p61, List.forall_mem_cons.mpr ⟨lw_p62, List.forall_mem_cons.mpr ⟨lw_p63, fun _ h => absurd h List.not_mem_nil⟩⟩⟩⟩⟩⟩⟩⟩⟩⟩⟩⟩⟩⟩⟩⟩
theorem lw_p64 : lw_okq (⟨"FiveTouchModel", "sumOf", "(Z)J"⟩, 39) := ⟨⟨by decide +kernel, by decide +kernel⟩, List.mem_of_getElem? (i := 997) (by decide +kernel), List.mem_of_getElem? (i := 1320) (by decide +kernel), List.mem_of_getElem? (i := 1321) (by decide +kernel)⟩
theorem lw_p65 : lw_okq (⟨"FiveTouchModel", "termOf", "(Z)J"⟩, 39) := ⟨⟨by decide +kernel, by decide +kernel⟩, List.mem_of_getElem? (i := 997) (by decide +kernel), List.mem_of_getElem? (i := 1324) (by decide +kernel), List.mem_of_getElem? (i := 1325) (by decide +kernel)⟩
theorem lw_p66 : lw_okq (⟨"FiveTouchModel", "partOf", "(Z)J"⟩, 39) := ⟨⟨by decide +kernel, by decide +kernel⟩, List.mem_of_getElem? (i := 997) (by decide +kernel), List.mem_of_getElem? (i := 1328) (by decide +kernel), List.mem_of_getElem? (i := 1329) (by decide +kernel)⟩
theorem lw_p67 : lw_okq (⟨"FiveTouchModel", "passes0", "(I)Z"⟩, 39) := ⟨⟨by decide +kernel, by decide +kernel⟩, List.mem_of_getElem? (i := 997) (by decide +kernel), List.mem_of_getElem? (i := 1332) (by decide +kernel), List.mem_of_getElem? (i := 1333) (by decide +kernel)⟩
theorem lw_p68 : lw_okq (⟨"FiveTouchModel", "bounded", "(JZ)J"⟩, 39) := ⟨⟨by decide +kernel, by decide +kernel⟩, List.mem_of_getElem? (i := 997) (by decide +kernel), List.mem_of_getElem? (i := 1336) (by decide +kernel), List.mem_of_getElem? (i := 1337) (by decide +kernel)⟩
theorem lw_p69 : lw_okq (⟨"FiveTouchModel", "testOf", "(Z)Z"⟩, 39) := ⟨⟨by decide +kernel, by decide +kernel⟩, List.mem_of_getElem? (i := 997) (by decide +kernel), List.mem_of_getElem? (i := 1342) (by decide +kernel), List.mem_of_getElem? (i := 1343) (by decide +kernel)⟩
theorem lw_p70 : lw_okq (⟨"FiveTouchModel", "bothOf", "(Z)Z"⟩, 39) := ⟨⟨by decide +kernel, by decide +kernel⟩, List.mem_of_getElem? (i := 997) (by decide +kernel), List.mem_of_getElem? (i := 1346) (by decide +kernel), List.mem_of_getElem? (i := 1347) (by decide +kernel)⟩
theorem lw_p71 : lw_okq (⟨"FiveTouchModel", "plainOf", "(Z)Z"⟩, 39) := ⟨⟨by decide +kernel, by decide +kernel⟩, List.mem_of_getElem? (i := 997) (by decide +kernel), List.mem_of_getElem? (i := 1350) (by decide +kernel), List.mem_of_getElem? (i := 1351) (by decide +kernel)⟩
theorem lw_p72 : lw_okq (⟨"FiveTouchModel", "positiveOf", "(Z)Z"⟩, 39) := ⟨⟨by decide +kernel, by decide +kernel⟩, List.mem_of_getElem? (i := 997) (by decide +kernel), List.mem_of_getElem? (i := 1354) (by decide +kernel), List.mem_of_getElem? (i := 1355) (by decide +kernel)⟩
theorem lw_p73 : lw_okq (⟨"FiveTouchModel", "touch", "(II)Z"⟩, 39) := ⟨⟨by decide +kernel, by decide +kernel⟩, List.mem_of_getElem? (i := 997) (by decide +kernel), List.mem_of_getElem? (i := 1359) (by decide +kernel), List.mem_of_getElem? (i := 1360) (by decide +kernel)⟩
theorem lw_p74 : lw_okq (⟨"FiveTouchModel", "loose", "(I)I"⟩, 39) := ⟨⟨by decide +kernel, by decide +kernel⟩, List.mem_of_getElem? (i := 997) (by decide +kernel), List.mem_of_getElem? (i := 1370) (by decide +kernel), List.mem_of_getElem? (i := 1371) (by decide +kernel)⟩
theorem lw_p75 : lw_okq (⟨"FiveTouchModel", "stands", "(II)Z"⟩, 39) := ⟨⟨by decide +kernel, by decide +kernel⟩, List.mem_of_getElem? (i := 997) (by decide +kernel), List.mem_of_getElem? (i := 1374) (by decide +kernel), List.mem_of_getElem? (i := 1375) (by decide +kernel)⟩
theorem lw_p76 : lw_okq (⟨"FiveTouchModel", "areThere", "(I)Z"⟩, 39) := ⟨⟨by decide +kernel, by decide +kernel⟩, List.mem_of_getElem? (i := 997) (by decide +kernel), List.mem_of_getElem? (i := 1390) (by decide +kernel), List.mem_of_getElem? (i := 1391) (by decide +kernel)⟩
theorem lw_p77 : lw_okq (⟨"FiveTouchModel", "weightOf", "(I)I"⟩, 39) := ⟨⟨by decide +kernel, by decide +kernel⟩, List.mem_of_getElem? (i := 997) (by decide +kernel), List.mem_of_getElem? (i := 1394) (by decide +kernel), List.mem_of_getElem? (i := 1395) (by decide +kernel)⟩
theorem lw_p78 : lw_okq (⟨"FiveTouchModel", "fall", "(I)I"⟩, 39) := ⟨⟨by decide +kernel, by decide +kernel⟩, List.mem_of_getElem? (i := 997) (by decide +kernel), List.mem_of_getElem? (i := 1406) (by decide +kernel), List.mem_of_getElem? (i := 1407) (by decide +kernel)⟩
theorem lw_p79 : lw_okq (⟨"FiveTouchModel", "takesMost", "(Z)V"⟩, 39) := ⟨⟨by decide +kernel, by decide +kernel⟩, List.mem_of_getElem? (i := 997) (by decide +kernel), List.mem_of_getElem? (i := 1418) (by decide +kernel), List.mem_of_getElem? (i := 1419) (by decide +kernel)⟩
def lw_privs_5 : List (MethodName × Nat) := [(⟨"FiveTouchModel", "sumOf", "(Z)J"⟩, 39), (⟨"FiveTouchModel", "termOf", "(Z)J"⟩, 39), (⟨"FiveTouchModel", "partOf", "(Z)J"⟩, 39), (⟨"FiveTouchModel", "passes0", "(I)Z"⟩, 39), (⟨"FiveTouchModel", "bounded", "(JZ)J"⟩, 39), (⟨"FiveTouchModel", "testOf", "(Z)Z"⟩, 39), (⟨"FiveTouchModel", "bothOf", "(Z)Z"⟩, 39), (⟨"FiveTouchModel", "plainOf", "(Z)Z"⟩, 39), (⟨"FiveTouchModel", "positiveOf", "(Z)Z"⟩, 39), (⟨"FiveTouchModel", "touch", "(II)Z"⟩, 39), (⟨"FiveTouchModel", "loose", "(I)I"⟩, 39), (⟨"FiveTouchModel", "stands", "(II)Z"⟩, 39), (⟨"FiveTouchModel", "areThere", "(I)Z"⟩, 39), (⟨"FiveTouchModel", "weightOf", "(I)I"⟩, 39), (⟨"FiveTouchModel", "fall", "(I)I"⟩, 39), (⟨"FiveTouchModel", "takesMost", "(Z)V"⟩, 39)]
theorem lw_r5 : ∀ q ∈ lw_privs_5, lw_okq q := List.forall_mem_cons.mpr ⟨lw_p64, List.forall_mem_cons.mpr ⟨lw_p65, List.forall_mem_cons.mpr ⟨lw_p66, List.forall_mem_cons.mpr ⟨lw_p67, List.forall_mem_cons.mpr ⟨lw_p68, List.forall_mem_cons.mpr ⟨lw_p69, List.forall_mem_cons.mpr ⟨lw_p70, List.forall_mem_cons.mpr ⟨lw_p71, List.forall_mem_cons.mpr ⟨lw_p72, List.forall_mem_cons.mpr ⟨lw_p73, List.forall_mem_cons.mpr ⟨lw_p74, List.forall_mem_cons.mpr ⟨lw_p75, List.forall_mem_cons.mpr ⟨lw_p76, List.forall_mem_cons.mpr ⟨lw_p77, List.forall_mem_cons.mpr ⟨lw_p78, List.forall_mem_cons.mpr ⟨lw_p79, fun _ h => absurd h List.not_mem_nil⟩⟩⟩⟩⟩⟩⟩⟩⟩⟩⟩⟩⟩⟩⟩⟩
theorem lw_p80 : lw_okq (⟨"FiveTouchModel", "sets", "()V"⟩, 39) := ⟨⟨by decide +kernel, by decide +kernel⟩, List.mem_of_getElem? (i := 997) (by decide +kernel), List.mem_of_getElem? (i := 1422) (by decide +kernel), List.mem_of_getElem? (i := 1423) (by decide +kernel)⟩
theorem lw_p81 : lw_okq (⟨"FiveTouchModel", "isBetter", "(II)Z"⟩, 39) := ⟨⟨by decide +kernel, by decide +kernel⟩, List.mem_of_getElem? (i := 997) (by decide +kernel), List.mem_of_getElem? (i := 1426) (by decide +kernel), List.mem_of_getElem? (i := 1427) (by decide +kernel)⟩
theorem lw_p82 : lw_okq (⟨"FiveTouchModel", "told", "(I)I"⟩, 39) := ⟨⟨by decide +kernel, by decide +kernel⟩, List.mem_of_getElem? (i := 997) (by decide +kernel), List.mem_of_getElem? (i := 1430) (by decide +kernel), List.mem_of_getElem? (i := 1431) (by decide +kernel)⟩
theorem lw_p83 : lw_okq (⟨"FiveTouchModel", "draws", "(I)I"⟩, 39) := ⟨⟨by decide +kernel, by decide +kernel⟩, List.mem_of_getElem? (i := 997) (by decide +kernel), List.mem_of_getElem? (i := 1466) (by decide +kernel), List.mem_of_getElem? (i := 1467) (by decide +kernel)⟩
def lw_privs_6 : List (MethodName × Nat) := [(⟨"FiveTouchModel", "sets", "()V"⟩, 39), (⟨"FiveTouchModel", "isBetter", "(II)Z"⟩, 39), (⟨"FiveTouchModel", "told", "(I)I"⟩, 39), (⟨"FiveTouchModel", "draws", "(I)I"⟩, 39)]
theorem lw_r6 : ∀ q ∈ lw_privs_6, lw_okq q := List.forall_mem_cons.mpr ⟨lw_p80, List.forall_mem_cons.mpr ⟨lw_p81, List.forall_mem_cons.mpr ⟨lw_p82, List.forall_mem_cons.mpr ⟨lw_p83, fun _ h => absurd h List.not_mem_nil⟩⟩⟩⟩
def lw_privs : List (MethodName × Nat) := lw_privs_1 ++ (lw_privs_2 ++ (lw_privs_3 ++ (lw_privs_4 ++ (lw_privs_5 ++ (lw_privs_6)))))
def lw_tbl : List Cond := k2_sels lw_privs ++ tables_1
theorem lw_privs_ok : ∀ q ∈ lw_privs, lw_okq q := by
  show ∀ q ∈ lw_privs_1 ++ (lw_privs_2 ++ (lw_privs_3 ++ (lw_privs_4 ++ (lw_privs_5 ++ (lw_privs_6))))), lw_okq q
  exact List.forall_mem_append.mpr ⟨lw_r1, List.forall_mem_append.mpr ⟨lw_r2, List.forall_mem_append.mpr ⟨lw_r3, List.forall_mem_append.mpr ⟨lw_r4, List.forall_mem_append.mpr ⟨lw_r5, lw_r6⟩⟩⟩⟩⟩
end
section
/-! ===== BEGIN words of one list among another's, by their places ===== -/
theorem goodIn_r {big : List Cond} (ws : List Cond) (ps : List Nat) (hp : ws = ps.filterMap (fun i => big[i]?)) (h : ws.all goodWord = true) : GoodIn big ws := by
  intro w hw
  have h1 := List.all_eq_true.mp h w hw
  rw [hp] at hw
  obtain ⟨i, -, hi⟩ := List.mem_filterMap.mp hw
  have hm : w ∈ big := by first | exact List.mem_of_getElem? hi | exact List.getElem?_mem hi
  exact ⟨hm, good_of_word h1⟩
theorem goodIn_app {big a b : List Cond} (ha : GoodIn big a) (hb : GoodIn big b) : GoodIn big (a ++ b) := fun w h => (List.mem_append.mp h).elim (ha w) (hb w)
theorem goodIn_ca {big a b : List Cond} {c : Cond} (ha : GoodIn big (c :: a)) (hb : GoodIn big b) : GoodIn big (c :: (a ++ b)) := fun w h => (List.mem_cons.mp h).elim (fun e => ha w (List.mem_cons.mpr (Or.inl e))) (fun h => (List.mem_append.mp h).elim (fun h => ha w (List.mem_cons.mpr (Or.inr h))) (hb w))
theorem goodIn_sub {big ws : List Cond} (hm : ∀ w ∈ ws, w ∈ big) (h : ws.all goodWord = true) : GoodIn big ws := fun w hw => ⟨hm w hw, good_of_word (List.all_eq_true.mp h w hw)⟩
/-! ===== END ===== -/

/-! ===== BEGIN printed: names, fields, word lists, decode rows ===== -/
def RX0 : String := "FiveTouch$Asker"
def TX0 : u_T := fun k => match k with
  | 0 => ("FiveTouch$Asker", "stack", "[J", true)
  | 1 => ("FiveTouch$Asker", "height", "I", false)
  | _ => ("FiveTouch$Asker", "broken", "Z", false)
def tyX0 : Nat → FieldType := fun k => match k with
  | 0 => .array .long
  | 1 => .int
  | _ => .boolean
abbrev wsX00 : List Cond := u_ws RX0 TX0 3
theorem nmX0 : ∀ a, a < 3 → ∀ b, b < 3 → a ≠ b → (TX0 a).2.1 ≠ (TX0 b).2.1 := by decide +kernel
theorem tyX0_ok : ∀ k, k < 3 → parseFieldDescriptor (TX0 k).2.2.1 = some (tyX0 k) := by decide +kernel
abbrev cX0_init : ByteArray := prog_2_method_1_code
def yX0_init : MethodName := ⟨RX0, "<init>", "()V"⟩
abbrev cX0_need : ByteArray := prog_2_method_2_code
def yX0_need : MethodName := ⟨RX0, "need", "(LFiveTouch$Law;LFiveTouch$Wall;II)I"⟩
abbrev cX0_isBound : ByteArray := prog_2_method_3_code
def yX0_isBound : MethodName := ⟨RX0, "isBound", "(LFiveTouch$Law;LFiveTouch$Wall;I)Z"⟩
abbrev cX0_isSo : ByteArray := prog_2_method_4_code
def yX0_isSo : MethodName := ⟨RX0, "isSo", "(LFiveTouch$Law;ILFiveTouch$Wall;I)Z"⟩
abbrev cX0_value : ByteArray := prog_2_method_5_code
def yX0_value : MethodName := ⟨RX0, "value", "(LFiveTouch$Law;ILFiveTouch$Wall;I)J"⟩
abbrev cX0_joined : ByteArray := prog_2_method_6_code
def yX0_joined : MethodName := ⟨RX0, "joined", "(IJJ)J"⟩
abbrev cX0_push : ByteArray := prog_2_method_7_code
def yX0_push : MethodName := ⟨RX0, "push", "(J)V"⟩
abbrev cX0_pop : ByteArray := prog_2_method_8_code
def yX0_pop : MethodName := ⟨RX0, "pop", "()J"⟩
def RX1 : String := "FiveTouch$Fewest"
def TX1 : u_T := fun k => match k with
  | 0 => ("FiveTouch$Fewest", "many", "I", false)
  | 1 => ("FiveTouch$Fewest", "which", "I", false)
  | _ => ("FiveTouch$Fewest", "ways", "I", false)
def tyX1 : Nat → FieldType := fun k => match k with
  | 0 => .int
  | 1 => .int
  | _ => .int
abbrev wsX10 : List Cond := u_ws RX1 TX1 3
theorem nmX1 : ∀ a, a < 3 → ∀ b, b < 3 → a ≠ b → (TX1 a).2.1 ≠ (TX1 b).2.1 := by decide +kernel
theorem tyX1_ok : ∀ k, k < 3 → parseFieldDescriptor (TX1 k).2.2.1 = some (tyX1 k) := by decide +kernel
abbrev cX1_init : ByteArray := prog_3_method_1_code
def yX1_init : MethodName := ⟨RX1, "<init>", "()V"⟩
abbrev cX1_clear : ByteArray := prog_3_method_2_code
def yX1_clear : MethodName := ⟨RX1, "clear", "()V"⟩
abbrev cX1_offer : ByteArray := prog_3_method_3_code
def yX1_offer : MethodName := ⟨RX1, "offer", "(I)V"⟩
abbrev cX1_told : ByteArray := prog_3_method_4_code
def yX1_told : MethodName := ⟨RX1, "told", "(I)I"⟩
def RX2 : String := "FiveTouch$Frame"
def TX2 : u_T := fun k => match k with
  | 0 => ("FiveTouch$Frame", "asker", "LFiveTouch$Asker;", true)
  | 1 => ("FiveTouch$Frame", "beside", "[I", true)
  | 2 => ("FiveTouch$Frame", "needs", "[I", true)
  | 3 => ("FiveTouch$Frame", "held", "[I", true)
  | 4 => ("FiveTouch$Frame", "lack", "[I", true)
  | _ => ("FiveTouch$Frame", "bound", "I", false)
def tyX2 : Nat → FieldType := fun k => match k with
  | 0 => .object "FiveTouch$Asker"
  | 1 => .array .int
  | 2 => .array .int
  | 3 => .array .int
  | 4 => .array .int
  | _ => .int
abbrev wsX20 : List Cond := u_ws RX2 TX2 6
theorem nmX2 : ∀ a, a < 6 → ∀ b, b < 6 → a ≠ b → (TX2 a).2.1 ≠ (TX2 b).2.1 := by decide +kernel
theorem tyX2_ok : ∀ k, k < 6 → parseFieldDescriptor (TX2 k).2.2.1 = some (tyX2 k) := by decide +kernel
abbrev cX2_init : ByteArray := prog_4_method_1_code
def yX2_init : MethodName := ⟨RX2, "<init>", "()V"⟩
abbrev cX2_renew : ByteArray := prog_4_method_2_code
def yX2_renew : MethodName := ⟨RX2, "renew", "(LFiveTouch$Wall;)V"⟩
abbrev cX2_neighbours : ByteArray := prog_4_method_3_code
def yX2_neighbours : MethodName := ⟨RX2, "neighbours", "(LFiveTouch$Wall;I)I"⟩
abbrev cX2_heldOf : ByteArray := prog_4_method_4_code
def yX2_heldOf : MethodName := ⟨RX2, "heldOf", "(LFiveTouch$Wall;I)I"⟩
abbrev cX2_needOf : ByteArray := prog_4_method_5_code
def yX2_needOf : MethodName := ⟨RX2, "needOf", "(I)I"⟩
abbrev cX2_besideOf : ByteArray := prog_4_method_6_code
def yX2_besideOf : MethodName := ⟨RX2, "besideOf", "(I)I"⟩
abbrev cX2_isBound : ByteArray := prog_4_method_7_code
def yX2_isBound : MethodName := ⟨RX2, "isBound", "(I)Z"⟩
abbrev cX2_touchesOf : ByteArray := prog_4_method_8_code
def yX2_touchesOf : MethodName := ⟨RX2, "touchesOf", "(II)I"⟩
abbrev cX2_isLawful : ByteArray := prog_4_method_9_code
def yX2_isLawful : MethodName := ⟨RX2, "isLawful", "(I)Z"⟩
abbrev cX2_unsteady : ByteArray := prog_4_method_10_code
def yX2_unsteady : MethodName := ⟨RX2, "unsteady", "(I)I"⟩
abbrev cX2_settled : ByteArray := prog_4_method_11_code
def yX2_settled : MethodName := ⟨RX2, "settled", "(I)I"⟩
abbrev cX2_rounds : ByteArray := prog_4_method_12_code
def yX2_rounds : MethodName := ⟨RX2, "rounds", "(I)I"⟩
abbrev cX2_roundOf : ByteArray := prog_4_method_13_code
def yX2_roundOf : MethodName := ⟨RX2, "roundOf", "(II)I"⟩
abbrev cX2_singles : ByteArray := prog_4_method_14_code
def yX2_singles : MethodName := ⟨RX2, "singles", "(IIZ)I"⟩
abbrev cX2_pairs : ByteArray := prog_4_method_15_code
def yX2_pairs : MethodName := ⟨RX2, "pairs", "(IIZ)I"⟩
def RX3 : String := "FiveTouch$Law"
def TX3 : u_T := fun k => match k with
  | 0 => ("FiveTouch$Law", "steps", "[I", true)
  | 1 => ("FiveTouch$Law", "starts", "[I", true)
  | _ => ("FiveTouch$Law", "clauses", "I", true)
def tyX3 : Nat → FieldType := fun k => match k with
  | 0 => .array .int
  | 1 => .array .int
  | _ => .int
abbrev wsX30 : List Cond := u_ws RX3 TX3 3
theorem nmX3 : ∀ a, a < 3 → ∀ b, b < 3 → a ≠ b → (TX3 a).2.1 ≠ (TX3 b).2.1 := by decide +kernel
theorem tyX3_ok : ∀ k, k < 3 → parseFieldDescriptor (TX3 k).2.2.1 = some (tyX3 k) := by decide +kernel
abbrev cX3_init : ByteArray := prog_5_method_1_code
def yX3_init : MethodName := ⟨RX3, "<init>", "([II[II)V"⟩
abbrev cX3_stepAt : ByteArray := prog_5_method_2_code
def yX3_stepAt : MethodName := ⟨RX3, "stepAt", "(I)I"⟩
abbrev cX3_startOf : ByteArray := prog_5_method_3_code
def yX3_startOf : MethodName := ⟨RX3, "startOf", "(I)I"⟩
abbrev cX3_isEmptyPart : ByteArray := prog_5_method_4_code
def yX3_isEmptyPart : MethodName := ⟨RX3, "isEmptyPart", "(I)Z"⟩
def RX4 : String := "FiveTouch$Most"
def TX4 : u_T := fun k => match k with
  | 0 => ("FiveTouch$Most", "many", "I", false)
  | 1 => ("FiveTouch$Most", "weight", "I", false)
  | 2 => ("FiveTouch$Most", "which", "I", false)
  | _ => ("FiveTouch$Most", "sets", "I", false)
def tyX4 : Nat → FieldType := fun k => match k with
  | 0 => .int
  | 1 => .int
  | 2 => .int
  | _ => .int
abbrev wsX40 : List Cond := u_ws RX4 TX4 4
theorem nmX4 : ∀ a, a < 4 → ∀ b, b < 4 → a ≠ b → (TX4 a).2.1 ≠ (TX4 b).2.1 := by decide +kernel
theorem tyX4_ok : ∀ k, k < 4 → parseFieldDescriptor (TX4 k).2.2.1 = some (tyX4 k) := by decide +kernel
abbrev cX4_init : ByteArray := prog_6_method_1_code
def yX4_init : MethodName := ⟨RX4, "<init>", "()V"⟩
abbrev cX4_clear : ByteArray := prog_6_method_2_code
def yX4_clear : MethodName := ⟨RX4, "clear", "()V"⟩
abbrev cX4_offer : ByteArray := prog_6_method_3_code
def yX4_offer : MethodName := ⟨RX4, "offer", "(ILFiveTouch$Wall;)V"⟩
abbrev cX4_told : ByteArray := prog_6_method_4_code
def yX4_told : MethodName := ⟨RX4, "told", "(I)I"⟩
def RX5 : String := "FiveTouch$Reader"
def TX5 : u_T := fun k => match k with
  | 0 => ("FiveTouch$Reader", "steps", "[I", true)
  | 1 => ("FiveTouch$Reader", "starts", "[I", true)
  | 2 => ("FiveTouch$Reader", "text", "LFiveTouch$Tape;", true)
  | 3 => ("FiveTouch$Reader", "length", "I", false)
  | 4 => ("FiveTouch$Reader", "from", "I", false)
  | 5 => ("FiveTouch$Reader", "to", "I", false)
  | 6 => ("FiveTouch$Reader", "stepCount", "I", false)
  | 7 => ("FiveTouch$Reader", "startCount", "I", false)
  | 8 => ("FiveTouch$Reader", "partCount", "I", false)
  | _ => ("FiveTouch$Reader", "faultPlace", "I", false)
def tyX5 : Nat → FieldType := fun k => match k with
  | 0 => .array .int
  | 1 => .array .int
  | 2 => .object "FiveTouch$Tape"
  | 3 => .int
  | 4 => .int
  | 5 => .int
  | 6 => .int
  | 7 => .int
  | 8 => .int
  | _ => .int
abbrev wsX50 : List Cond := u_ws RX5 TX5 10
theorem nmX5 : ∀ a, a < 10 → ∀ b, b < 10 → a ≠ b → (TX5 a).2.1 ≠ (TX5 b).2.1 := by decide +kernel
theorem tyX5_ok : ∀ k, k < 10 → parseFieldDescriptor (TX5 k).2.2.1 = some (tyX5 k) := by decide +kernel
abbrev cX5_init : ByteArray := prog_7_method_1_code
def yX5_init : MethodName := ⟨RX5, "<init>", "(LFiveTouch$Tape;)V"⟩
abbrev cX5_read : ByteArray := prog_7_method_2_code
def yX5_read : MethodName := ⟨RX5, "read", "(I)LFiveTouch$Law;"⟩
abbrev cX5_readClause : ByteArray := prog_7_method_3_code
def yX5_readClause : MethodName := ⟨RX5, "readClause", "()Z"⟩
abbrev cX5_readTest : ByteArray := prog_7_method_4_code
def yX5_readTest : MethodName := ⟨RX5, "readTest", "(I)Z"⟩
abbrev cX5_readBoth : ByteArray := prog_7_method_5_code
def yX5_readBoth : MethodName := ⟨RX5, "readBoth", "(I)Z"⟩
abbrev cX5_readPlain : ByteArray := prog_7_method_6_code
def yX5_readPlain : MethodName := ⟨RX5, "readPlain", "(I)Z"⟩
abbrev cX5_readCompared : ByteArray := prog_7_method_7_code
def yX5_readCompared : MethodName := ⟨RX5, "readCompared", "(I)Z"⟩
abbrev cX5_readSum : ByteArray := prog_7_method_8_code
def yX5_readSum : MethodName := ⟨RX5, "readSum", "(I)Z"⟩
abbrev cX5_readTerm : ByteArray := prog_7_method_9_code
def yX5_readTerm : MethodName := ⟨RX5, "readTerm", "(I)Z"⟩
abbrev cX5_readPart : ByteArray := prog_7_method_10_code
def yX5_readPart : MethodName := ⟨RX5, "readPart", "(I)Z"⟩
abbrev cX5_readBracketed : ByteArray := prog_7_method_11_code
def yX5_readBracketed : MethodName := ⟨RX5, "readBracketed", "(IZLjava/lang/String;)Z"⟩
abbrev cX5_namedFact : ByteArray := prog_7_method_12_code
def yX5_namedFact : MethodName := ⟨RX5, "namedFact", "()I"⟩
abbrev cX5_numberTold : ByteArray := prog_7_method_13_code
def yX5_numberTold : MethodName := ⟨RX5, "numberTold", "()I"⟩
abbrev cX5_advance : ByteArray := prog_7_method_14_code
def yX5_advance : MethodName := ⟨RX5, "advance", "()V"⟩
abbrev cX5_sortOf : ByteArray := prog_7_method_15_code
def yX5_sortOf : MethodName := ⟨RX5, "sortOf", "(I)I"⟩
abbrev cX5_is : ByteArray := prog_7_method_16_code
def yX5_is : MethodName := ⟨RX5, "is", "(Ljava/lang/String;)Z"⟩
abbrev cX5_addStep : ByteArray := prog_7_method_17_code
def yX5_addStep : MethodName := ⟨RX5, "addStep", "(II)I"⟩
abbrev cX5_aimHere : ByteArray := prog_7_method_18_code
def yX5_aimHere : MethodName := ⟨RX5, "aimHere", "(I)V"⟩
abbrev cX5_mark : ByteArray := prog_7_method_19_code
def yX5_mark : MethodName := ⟨RX5, "mark", "()V"⟩
def RX6 : String := "FiveTouch$Seasons"
def TX6 : u_T := fun k => match k with
  | 0 => ("FiveTouch$Seasons", "left", "[I", true)
  | 1 => ("FiveTouch$Seasons", "many", "I", false)
  | _ => ("FiveTouch$Seasons", "seed", "I", false)
def tyX6 : Nat → FieldType := fun k => match k with
  | 0 => .array .int
  | 1 => .int
  | _ => .int
abbrev wsX60 : List Cond := u_ws RX6 TX6 3
theorem nmX6 : ∀ a, a < 3 → ∀ b, b < 3 → a ≠ b → (TX6 a).2.1 ≠ (TX6 b).2.1 := by decide +kernel
theorem tyX6_ok : ∀ k, k < 3 → parseFieldDescriptor (TX6 k).2.2.1 = some (tyX6 k) := by decide +kernel
abbrev cX6_init : ByteArray := prog_8_method_1_code
def yX6_init : MethodName := ⟨RX6, "<init>", "()V"⟩
abbrev cX6_pass : ByteArray := prog_8_method_2_code
def yX6_pass : MethodName := ⟨RX6, "pass", "(LFiveTouch$Wall;LFiveTouch$Frame;II)I"⟩
abbrev cX6_leftBehind : ByteArray := prog_8_method_3_code
def yX6_leftBehind : MethodName := ⟨RX6, "leftBehind", "(I)I"⟩
abbrev cX6_frozen : ByteArray := prog_8_method_4_code
def yX6_frozen : MethodName := ⟨RX6, "frozen", "(LFiveTouch$Wall;I)I"⟩
abbrev cX6_draw : ByteArray := prog_8_method_5_code
def yX6_draw : MethodName := ⟨RX6, "draw", "(I)I"⟩
abbrev cX6_toPutBack : ByteArray := prog_8_method_6_code
def yX6_toPutBack : MethodName := ⟨RX6, "toPutBack", "(LFiveTouch$Frame;II)I"⟩
def RX7 : String := "FiveTouch$Sets"
def TX7 : u_T := fun k => match k with
  | _ => ("FiveTouch$Sets", "words", "[J", true)
def tyX7 : Nat → FieldType := fun k => match k with
  | _ => .array .long
abbrev wsX70 : List Cond := u_ws RX7 TX7 1
theorem nmX7 : ∀ a, a < 1 → ∀ b, b < 1 → a ≠ b → (TX7 a).2.1 ≠ (TX7 b).2.1 := by decide +kernel
theorem tyX7_ok : ∀ k, k < 1 → parseFieldDescriptor (TX7 k).2.2.1 = some (tyX7 k) := by decide +kernel
abbrev cX7_init : ByteArray := prog_9_method_1_code
def yX7_init : MethodName := ⟨RX7, "<init>", "()V"⟩
abbrev cX7_clear : ByteArray := prog_9_method_2_code
def yX7_clear : MethodName := ⟨RX7, "clear", "()V"⟩
abbrev cX7_add : ByteArray := prog_9_method_3_code
def yX7_add : MethodName := ⟨RX7, "add", "(I)V"⟩
abbrev cX7_has : ByteArray := prog_9_method_4_code
def yX7_has : MethodName := ⟨RX7, "has", "(I)Z"⟩
abbrev cX7_hasWithoutOne : ByteArray := prog_9_method_5_code
def yX7_hasWithoutOne : MethodName := ⟨RX7, "hasWithoutOne", "(II)Z"⟩
abbrev cX7_hasWithOne : ByteArray := prog_9_method_6_code
def yX7_hasWithOne : MethodName := ⟨RX7, "hasWithOne", "(II)Z"⟩
def RX8 : String := "FiveTouch$Tape"
def TX8 : u_T := fun k => match k with
  | 0 => ("FiveTouch$Tape", "bytes", "[I", true)
  | _ => ("FiveTouch$Tape", "length", "I", false)
def tyX8 : Nat → FieldType := fun k => match k with
  | 0 => .array .int
  | _ => .int
abbrev wsX80 : List Cond := u_ws RX8 TX8 2
theorem nmX8 : ∀ a, a < 2 → ∀ b, b < 2 → a ≠ b → (TX8 a).2.1 ≠ (TX8 b).2.1 := by decide +kernel
theorem tyX8_ok : ∀ k, k < 2 → parseFieldDescriptor (TX8 k).2.2.1 = some (tyX8 k) := by decide +kernel
abbrev cX8_init : ByteArray := prog_10_method_1_code
def yX8_init : MethodName := ⟨RX8, "<init>", "()V"⟩
abbrev cX8_add : ByteArray := prog_10_method_2_code
def yX8_add : MethodName := ⟨RX8, "add", "(I)V"⟩
abbrev cX8_byteAt : ByteArray := prog_10_method_3_code
def yX8_byteAt : MethodName := ⟨RX8, "byteAt", "(I)I"⟩
def RX9 : String := "FiveTouch$Thieves"
def TX9 : u_T := fun k => match k with
  | 0 => ("FiveTouch$Thieves", "wall", "LFiveTouch$Wall;", true)
  | 1 => ("FiveTouch$Thieves", "frame", "LFiveTouch$Frame;", true)
  | 2 => ("FiveTouch$Thieves", "lawful", "LFiveTouch$Sets;", true)
  | 3 => ("FiveTouch$Thieves", "marked", "LFiveTouch$Sets;", true)
  | 4 => ("FiveTouch$Thieves", "onceFound", "LFiveTouch$Most;", true)
  | 5 => ("FiveTouch$Thieves", "stepsFound", "LFiveTouch$Most;", true)
  | 6 => ("FiveTouch$Thieves", "fellingFound", "LFiveTouch$Fewest;", true)
  | 7 => ("FiveTouch$Thieves", "mendingFound", "LFiveTouch$Fewest;", true)
  | 8 => ("FiveTouch$Thieves", "steps", "[I", true)
  | 9 => ("FiveTouch$Thieves", "stepCount", "I", false)
  | 10 => ("FiveTouch$Thieves", "winningStone", "I", false)
  | 11 => ("FiveTouch$Thieves", "stonesToTake", "I", false)
  | 12 => ("FiveTouch$Thieves", "core", "I", false)
  | _ => ("FiveTouch$Thieves", "known", "I", false)
def tyX9 : Nat → FieldType := fun k => match k with
  | 0 => .object "FiveTouch$Wall"
  | 1 => .object "FiveTouch$Frame"
  | 2 => .object "FiveTouch$Sets"
  | 3 => .object "FiveTouch$Sets"
  | 4 => .object "FiveTouch$Most"
  | 5 => .object "FiveTouch$Most"
  | 6 => .object "FiveTouch$Fewest"
  | 7 => .object "FiveTouch$Fewest"
  | 8 => .array .int
  | 9 => .int
  | 10 => .int
  | 11 => .int
  | 12 => .int
  | _ => .int
abbrev wsX90 : List Cond := u_ws RX9 TX9 14
theorem nmX9 : ∀ a, a < 14 → ∀ b, b < 14 → a ≠ b → (TX9 a).2.1 ≠ (TX9 b).2.1 := by decide +kernel
theorem tyX9_ok : ∀ k, k < 14 → parseFieldDescriptor (TX9 k).2.2.1 = some (tyX9 k) := by decide +kernel
abbrev cX9_init : ByteArray := prog_11_method_1_code
def yX9_init : MethodName := ⟨RX9, "<init>", "(LFiveTouch$Wall;LFiveTouch$Frame;)V"⟩
abbrev cX9_forget : ByteArray := prog_11_method_2_code
def yX9_forget : MethodName := ⟨RX9, "forget", "()V"⟩
abbrev cX9_isDue : ByteArray := prog_11_method_3_code
def yX9_isDue : MethodName := ⟨RX9, "isDue", "(I)Z"⟩
abbrev cX9_setsOf : ByteArray := prog_11_method_4_code
def yX9_setsOf : MethodName := ⟨RX9, "setsOf", "(I)I"⟩
abbrev cX9_findLawful : ByteArray := prog_11_method_5_code
def yX9_findLawful : MethodName := ⟨RX9, "findLawful", "()V"⟩
abbrev cX9_atOnce : ByteArray := prog_11_method_6_code
def yX9_atOnce : MethodName := ⟨RX9, "atOnce", "()LFiveTouch$Most;"⟩
abbrev cX9_inSteps : ByteArray := prog_11_method_7_code
def yX9_inSteps : MethodName := ⟨RX9, "inSteps", "()LFiveTouch$Most;"⟩
abbrev cX9_findStepSets : ByteArray := prog_11_method_8_code
def yX9_findStepSets : MethodName := ⟨RX9, "findStepSets", "()V"⟩
abbrev cX9_findOrder : ByteArray := prog_11_method_9_code
def yX9_findOrder : MethodName := ⟨RX9, "findOrder", "(I)V"⟩
abbrev cX9_lowestMarked : ByteArray := prog_11_method_10_code
def yX9_lowestMarked : MethodName := ⟨RX9, "lowestMarked", "(II)I"⟩
abbrev cX9_stepTaken : ByteArray := prog_11_method_11_code
def yX9_stepTaken : MethodName := ⟨RX9, "stepTaken", "(I)I"⟩
abbrev cX9_felling : ByteArray := prog_11_method_12_code
def yX9_felling : MethodName := ⟨RX9, "felling", "()LFiveTouch$Fewest;"⟩
abbrev cX9_mending : ByteArray := prog_11_method_13_code
def yX9_mending : MethodName := ⟨RX9, "mending", "()LFiveTouch$Fewest;"⟩
abbrev cX9_play : ByteArray := prog_11_method_14_code
def yX9_play : MethodName := ⟨RX9, "play", "()V"⟩
abbrev cX9_winningIn : ByteArray := prog_11_method_15_code
def yX9_winningIn : MethodName := ⟨RX9, "winningIn", "(I)I"⟩
def RX10 : String := "FiveTouch$Wall"
def TX10 : u_T := fun k => match k with
  | 0 => ("FiveTouch$Wall", "facts", "[I", true)
  | 1 => ("FiveTouch$Wall", "termValues", "[I", true)
  | 2 => ("FiveTouch$Wall", "laws", "[LFiveTouch$Law;", true)
  | 3 => ("FiveTouch$Wall", "stones", "I", false)
  | 4 => ("FiveTouch$Wall", "spares", "I", false)
  | 5 => ("FiveTouch$Wall", "there", "I", false)
  | 6 => ("FiveTouch$Wall", "lawCount", "I", false)
  | _ => ("FiveTouch$Wall", "inForce", "I", false)
def tyX10 : Nat → FieldType := fun k => match k with
  | 0 => .array .int
  | 1 => .array .int
  | 2 => .array (.object "FiveTouch$Law")
  | 3 => .int
  | 4 => .int
  | 5 => .int
  | 6 => .int
  | _ => .int
abbrev wsX100 : List Cond := u_ws RX10 TX10 8
theorem nmX10 : ∀ a, a < 8 → ∀ b, b < 8 → a ≠ b → (TX10 a).2.1 ≠ (TX10 b).2.1 := by decide +kernel
theorem tyX10_ok : ∀ k, k < 8 → parseFieldDescriptor (TX10 k).2.2.1 = some (tyX10 k) := by decide +kernel
abbrev cX10_init : ByteArray := prog_12_method_1_code
def yX10_init : MethodName := ⟨RX10, "<init>", "()V"⟩
abbrev cX10_becomeAs : ByteArray := prog_12_method_2_code
def yX10_becomeAs : MethodName := ⟨RX10, "becomeAs", "(LFiveTouch$Wall;)V"⟩
abbrev cX10_addStone : ByteArray := prog_12_method_3_code
def yX10_addStone : MethodName := ⟨RX10, "addStone", "(IIIII)I"⟩
abbrev cX10_addSpare : ByteArray := prog_12_method_4_code
def yX10_addSpare : MethodName := ⟨RX10, "addSpare", "(IIIII)I"⟩
abbrev cX10_lay : ByteArray := prog_12_method_5_code
def yX10_lay : MethodName := ⟨RX10, "lay", "(IIIIII)V"⟩
abbrev cX10_change : ByteArray := prog_12_method_6_code
def yX10_change : MethodName := ⟨RX10, "change", "(III)I"⟩
abbrev cX10_fact : ByteArray := prog_12_method_7_code
def yX10_fact : MethodName := ⟨RX10, "fact", "(II)I"⟩
abbrev cX10_term : ByteArray := prog_12_method_8_code
def yX10_term : MethodName := ⟨RX10, "term", "(I)I"⟩
abbrev cX10_changeTerm : ByteArray := prog_12_method_9_code
def yX10_changeTerm : MethodName := ⟨RX10, "changeTerm", "(II)I"⟩
abbrev cX10_addLaw : ByteArray := prog_12_method_10_code
def yX10_addLaw : MethodName := ⟨RX10, "addLaw", "(LFiveTouch$Law;)I"⟩
abbrev cX10_lawInForce : ByteArray := prog_12_method_11_code
def yX10_lawInForce : MethodName := ⟨RX10, "lawInForce", "()LFiveTouch$Law;"⟩
abbrev cX10_isStone : ByteArray := prog_12_method_12_code
def yX10_isStone : MethodName := ⟨RX10, "isStone", "(I)Z"⟩
abbrev cX10_isPlace : ByteArray := prog_12_method_13_code
def yX10_isPlace : MethodName := ⟨RX10, "isPlace", "(I)Z"⟩
abbrev cX10_allStones : ByteArray := prog_12_method_14_code
def yX10_allStones : MethodName := ⟨RX10, "allStones", "()I"⟩
abbrev cX10_covers : ByteArray := prog_12_method_15_code
def yX10_covers : MethodName := ⟨RX10, "covers", "(IIIII)Z"⟩
abbrev cX10_isTaken : ByteArray := prog_12_method_16_code
def yX10_isTaken : MethodName := ⟨RX10, "isTaken", "(IIII)Z"⟩
abbrev cX10_weightOf : ByteArray := prog_12_method_17_code
def yX10_weightOf : MethodName := ⟨RX10, "weightOf", "(I)I"⟩
def RX11 : String := "FiveTouch"
def TX11 : u_T := fun k => match k with
  | 0 => ("FiveTouch", "wall", "LFiveTouch$Wall;", true)
  | 1 => ("FiveTouch", "images", "[LFiveTouch$Wall;", true)
  | 2 => ("FiveTouch", "kept", "[Z", true)
  | 3 => ("FiveTouch", "tape", "LFiveTouch$Tape;", true)
  | 4 => ("FiveTouch", "reader", "LFiveTouch$Reader;", true)
  | 5 => ("FiveTouch", "frame", "LFiveTouch$Frame;", true)
  | 6 => ("FiveTouch", "thieves", "LFiveTouch$Thieves;", true)
  | 7 => ("FiveTouch", "seasons", "LFiveTouch$Seasons;", true)
  | 8 => ("FiveTouch", "refused", "[I", true)
  | 9 => ("FiveTouch", "latestRefusal", "I", false)
  | 10 => ("FiveTouch", "latestFault", "I", false)
  | 11 => ("FiveTouch", "latestRubble", "I", false)
  | _ => ("FiveTouch", "stale", "Z", false)
def tyX11 : Nat → FieldType := fun k => match k with
  | 0 => .object "FiveTouch$Wall"
  | 1 => .array (.object "FiveTouch$Wall")
  | 2 => .array .boolean
  | 3 => .object "FiveTouch$Tape"
  | 4 => .object "FiveTouch$Reader"
  | 5 => .object "FiveTouch$Frame"
  | 6 => .object "FiveTouch$Thieves"
  | 7 => .object "FiveTouch$Seasons"
  | 8 => .array .int
  | 9 => .int
  | 10 => .int
  | 11 => .int
  | _ => .boolean
abbrev wsX110 : List Cond := u_ws RX11 TX11 13
theorem nmX11 : ∀ a, a < 13 → ∀ b, b < 13 → a ≠ b → (TX11 a).2.1 ≠ (TX11 b).2.1 := by decide +kernel
theorem tyX11_ok : ∀ k, k < 13 → parseFieldDescriptor (TX11 k).2.2.1 = some (tyX11 k) := by decide +kernel
abbrev cX11_init : ByteArray := prog_1_method_1_code
def yX11_init : MethodName := ⟨RX11, "<init>", "()V"⟩
abbrev cX11_stone : ByteArray := prog_1_method_2_code
def yX11_stone : MethodName := ⟨RX11, "stone", "(IIIII)I"⟩
abbrev cX11_spare : ByteArray := prog_1_method_3_code
def yX11_spare : MethodName := ⟨RX11, "spare", "(IIIII)I"⟩
abbrev cX11_put : ByteArray := prog_1_method_4_code
def yX11_put : MethodName := ⟨RX11, "put", "(III)I"⟩
abbrev cX11_of : ByteArray := prog_1_method_5_code
def yX11_of : MethodName := ⟨RX11, "of", "(II)I"⟩
abbrev cX11_terms : ByteArray := prog_1_method_6_code
def yX11_terms : MethodName := ⟨RX11, "terms", "(II)I"⟩
abbrev cX11_feed : ByteArray := prog_1_method_7_code
def yX11_feed : MethodName := ⟨RX11, "feed", "(IIIII)I"⟩
abbrev cX11_end : ByteArray := prog_1_method_8_code
def yX11_end : MethodName := ⟨RX11, "end", "(I)I"⟩
abbrev cX11_row : ByteArray := prog_1_method_9_code
def yX11_row : MethodName := ⟨RX11, "row", "()I"⟩
abbrev cX11_rubble : ByteArray := prog_1_method_10_code
def yX11_rubble : MethodName := ⟨RX11, "rubble", "()I"⟩
abbrev cX11_law : ByteArray := prog_1_method_11_code
def yX11_law : MethodName := ⟨RX11, "law", "()I"⟩
abbrev cX11_fault : ByteArray := prog_1_method_12_code
def yX11_fault : MethodName := ⟨RX11, "fault", "()I"⟩
abbrev cX11_force : ByteArray := prog_1_method_13_code
def yX11_force : MethodName := ⟨RX11, "force", "(I)I"⟩
abbrev cX11_at : ByteArray := prog_1_method_14_code
def yX11_at : MethodName := ⟨RX11, "at", "(II)I"⟩
abbrev cX11_touches : ByteArray := prog_1_method_15_code
def yX11_touches : MethodName := ⟨RX11, "touches", "(II)I"⟩
abbrev cX11_unlawful : ByteArray := prog_1_method_16_code
def yX11_unlawful : MethodName := ⟨RX11, "unlawful", "()I"⟩
abbrev cX11_there : ByteArray := prog_1_method_17_code
def yX11_there : MethodName := ⟨RX11, "there", "()I"⟩
abbrev cX11_stand : ByteArray := prog_1_method_18_code
def yX11_stand : MethodName := ⟨RX11, "stand", "(I)I"⟩
abbrev cX11_falls : ByteArray := prog_1_method_19_code
def yX11_falls : MethodName := ⟨RX11, "falls", "(II)I"⟩
abbrev cX11_round : ByteArray := prog_1_method_20_code
def yX11_round : MethodName := ⟨RX11, "round", "(II)I"⟩
abbrev cX11_take : ByteArray := prog_1_method_21_code
def yX11_take : MethodName := ⟨RX11, "take", "(I)I"⟩
abbrev cX11_farm : ByteArray := prog_1_method_22_code
def yX11_farm : MethodName := ⟨RX11, "farm", "(II)I"⟩
abbrev cX11_once : ByteArray := prog_1_method_23_code
def yX11_once : MethodName := ⟨RX11, "once", "(I)I"⟩
abbrev cX11_oneByOne : ByteArray := prog_1_method_24_code
def yX11_oneByOne : MethodName := ⟨RX11, "oneByOne", "(I)I"⟩
abbrev cX11_order : ByteArray := prog_1_method_25_code
def yX11_order : MethodName := ⟨RX11, "order", "(I)I"⟩
abbrev cX11_fell : ByteArray := prog_1_method_26_code
def yX11_fell : MethodName := ⟨RX11, "fell", "(I)I"⟩
abbrev cX11_gate : ByteArray := prog_1_method_27_code
def yX11_gate : MethodName := ⟨RX11, "gate", "(IIIII)I"⟩
abbrev cX11_mend : ByteArray := prog_1_method_28_code
def yX11_mend : MethodName := ⟨RX11, "mend", "(I)I"⟩
abbrev cX11_game : ByteArray := prog_1_method_29_code
def yX11_game : MethodName := ⟨RX11, "game", "(I)I"⟩
abbrev cX11_night : ByteArray := prog_1_method_30_code
def yX11_night : MethodName := ⟨RX11, "night", "(II)I"⟩
abbrev cX11_winters : ByteArray := prog_1_method_31_code
def yX11_winters : MethodName := ⟨RX11, "winters", "(II)I"⟩
abbrev cX11_winter : ByteArray := prog_1_method_32_code
def yX11_winter : MethodName := ⟨RX11, "winter", "(I)I"⟩
abbrev cX11_image : ByteArray := prog_1_method_33_code
def yX11_image : MethodName := ⟨RX11, "image", "(I)I"⟩
abbrev cX11_back : ByteArray := prog_1_method_34_code
def yX11_back : MethodName := ⟨RX11, "back", "(I)I"⟩
abbrev cX11_count : ByteArray := prog_1_method_35_code
def yX11_count : MethodName := ⟨RX11, "count", "(I)I"⟩
abbrev cX11_status : ByteArray := prog_1_method_36_code
def yX11_status : MethodName := ⟨RX11, "status", "()I"⟩
abbrev cX11_refuse : ByteArray := prog_1_method_37_code
def yX11_refuse : MethodName := ⟨RX11, "refuse", "(I)I"⟩
abbrev cX11_accept : ByteArray := prog_1_method_38_code
def yX11_accept : MethodName := ⟨RX11, "accept", "(I)I"⟩
abbrev cX11_hindrance : ByteArray := prog_1_method_39_code
def yX11_hindrance : MethodName := ⟨RX11, "hindrance", "(IIIIIZ)I"⟩
abbrev cX11_addFromTape : ByteArray := prog_1_method_40_code
def yX11_addFromTape : MethodName := ⟨RX11, "addFromTape", "(I)Z"⟩
abbrev cX11_refresh : ByteArray := prog_1_method_41_code
def yX11_refresh : MethodName := ⟨RX11, "refresh", "()V"⟩
abbrev cX11_isWithin : ByteArray := prog_1_method_42_code
def yX11_isWithin : MethodName := ⟨RX11, "isWithin", "(III)Z"⟩
abbrev cX11_isPart : ByteArray := prog_1_method_43_code
def yX11_isPart : MethodName := ⟨RX11, "isPart", "(II)Z"⟩
def RX12 : String := "FiveTouchModel"
def TX12 : u_T := fun k => match k with
  | 0 => ("FiveTouchModel", "status", "I", false)
  | 1 => ("FiveTouchModel", "version", "I", false)
  | 2 => ("FiveTouchModel", "refused", "[I", true)
  | 3 => ("FiveTouchModel", "kept", "[I", true)
  | 4 => ("FiveTouchModel", "images", "[I", true)
  | 5 => ("FiveTouchModel", "hasImage", "[Z", true)
  | 6 => ("FiveTouchModel", "rubble0", "I", false)
  | 7 => ("FiveTouchModel", "words", "[B", true)
  | 8 => ("FiveTouchModel", "tape", "[B", true)
  | 9 => ("FiveTouchModel", "five", "[I", true)
  | 10 => ("FiveTouchModel", "taped", "I", false)
  | 11 => ("FiveTouchModel", "fault", "I", false)
  | 12 => ("FiveTouchModel", "code", "[I", true)
  | 13 => ("FiveTouchModel", "value", "[I", true)
  | 14 => ("FiveTouchModel", "placed", "[I", true)
  | 15 => ("FiveTouchModel", "tokens", "I", false)
  | 16 => ("FiveTouchModel", "token", "I", false)
  | 17 => ("FiveTouchModel", "leaves", "I", false)
  | 18 => ("FiveTouchModel", "bad", "I", false)
  | 19 => ("FiveTouchModel", "go", "I", false)
  | 20 => ("FiveTouchModel", "goEnd", "I", false)
  | 21 => ("FiveTouchModel", "broken", "Z", false)
  | 22 => ("FiveTouchModel", "asked", "[I", true)
  | 23 => ("FiveTouchModel", "needs", "[I", true)
  | 24 => ("FiveTouchModel", "bound", "[Z", true)
  | 25 => ("FiveTouchModel", "near", "[I", true)
  | 26 => ("FiveTouchModel", "firm", "[I", true)
  | 27 => ("FiveTouchModel", "laidBy", "I", false)
  | 28 => ("FiveTouchModel", "lawful", "[Z", true)
  | 29 => ("FiveTouchModel", "fallTo", "[I", true)
  | 30 => ("FiveTouchModel", "wins", "[Z", true)
  | 31 => ("FiveTouchModel", "comes", "[Z", true)
  | 32 => ("FiveTouchModel", "setsBy", "I", false)
  | 33 => ("FiveTouchModel", "bestTaken", "I", false)
  | 34 => ("FiveTouchModel", "takenMany", "I", false)
  | 35 => ("FiveTouchModel", "leads", "[Z", true)
  | 36 => ("FiveTouchModel", "winterRow", "[I", true)
  | 37 => ("FiveTouchModel", "winterMany", "I", false)
  | _ => ("FiveTouchModel", "latest", "I", false)
def tyX12 : Nat → FieldType := fun k => match k with
  | 0 => .int
  | 1 => .int
  | 2 => .array .int
  | 3 => .array .int
  | 4 => .array .int
  | 5 => .array .boolean
  | 6 => .int
  | 7 => .array .byte
  | 8 => .array .byte
  | 9 => .array .int
  | 10 => .int
  | 11 => .int
  | 12 => .array .int
  | 13 => .array .int
  | 14 => .array .int
  | 15 => .int
  | 16 => .int
  | 17 => .int
  | 18 => .int
  | 19 => .int
  | 20 => .int
  | 21 => .boolean
  | 22 => .array .int
  | 23 => .array .int
  | 24 => .array .boolean
  | 25 => .array .int
  | 26 => .array .int
  | 27 => .int
  | 28 => .array .boolean
  | 29 => .array .int
  | 30 => .array .boolean
  | 31 => .array .boolean
  | 32 => .int
  | 33 => .int
  | 34 => .int
  | 35 => .array .boolean
  | 36 => .array .int
  | 37 => .int
  | _ => .int
abbrev wsX120 : List Cond := u_ws RX12 TX12 39
theorem nmX12 : ∀ a, a < 39 → ∀ b, b < 39 → a ≠ b → (TX12 a).2.1 ≠ (TX12 b).2.1 := by decide +kernel
theorem tyX12_ok : ∀ k, k < 39 → parseFieldDescriptor (TX12 k).2.2.1 = some (tyX12 k) := by decide +kernel
abbrev cX12_lies : ByteArray := prog_14_method_1_code
def yX12_lies : MethodName := ⟨RX12, "lies", "(III)Z"⟩
abbrev cX12_refuses : ByteArray := prog_14_method_2_code
def yX12_refuses : MethodName := ⟨RX12, "refuses", "(I)I"⟩
abbrev cX12_good : ByteArray := prog_14_method_3_code
def yX12_good : MethodName := ⟨RX12, "good", "(I)I"⟩
abbrev cX12_isIn : ByteArray := prog_14_method_4_code
def yX12_isIn : MethodName := ⟨RX12, "isIn", "(II)Z"⟩
abbrev cX12_ones : ByteArray := prog_14_method_5_code
def yX12_ones : MethodName := ⟨RX12, "ones", "(I)I"⟩
abbrev cX12_init : ByteArray := prog_14_method_6_code
def yX12_init : MethodName := ⟨RX12, "<init>", "()V"⟩
abbrev cX12_image : ByteArray := prog_14_method_7_code
def yX12_image : MethodName := ⟨RX12, "image", "(I)I"⟩
abbrev cX12_back : ByteArray := prog_14_method_8_code
def yX12_back : MethodName := ⟨RX12, "back", "(I)I"⟩
abbrev cX12_stones : ByteArray := prog_14_method_9_code
def yX12_stones : MethodName := ⟨RX12, "stones", "()I"⟩
abbrev cX12_spares : ByteArray := prog_14_method_10_code
def yX12_spares : MethodName := ⟨RX12, "spares", "()I"⟩
abbrev cX12_isStone : ByteArray := prog_14_method_11_code
def yX12_isStone : MethodName := ⟨RX12, "isStone", "(I)Z"⟩
abbrev cX12_factOf : ByteArray := prog_14_method_12_code
def yX12_factOf : MethodName := ⟨RX12, "factOf", "(II)I"⟩
abbrev cX12_isItem : ByteArray := prog_14_method_13_code
def yX12_isItem : MethodName := ⟨RX12, "isItem", "(I)Z"⟩
abbrev cX12_covers : ByteArray := prog_14_method_14_code
def yX12_covers : MethodName := ⟨RX12, "covers", "(III)Z"⟩
abbrev cX12_canBe : ByteArray := prog_14_method_15_code
def yX12_canBe : MethodName := ⟨RX12, "canBe", "(IIIII)Z"⟩
abbrev cX12_isFree : ByteArray := prog_14_method_16_code
def yX12_isFree : MethodName := ⟨RX12, "isFree", "(IIII)Z"⟩
abbrev cX12_lays : ByteArray := prog_14_method_17_code
def yX12_lays : MethodName := ⟨RX12, "lays", "(IIIIII)V"⟩
abbrev cX12_adds : ByteArray := prog_14_method_18_code
def yX12_adds : MethodName := ⟨RX12, "adds", "(IIIII)I"⟩
abbrev cX12_stone : ByteArray := prog_14_method_19_code
def yX12_stone : MethodName := ⟨RX12, "stone", "(IIIII)I"⟩
abbrev cX12_spare : ByteArray := prog_14_method_20_code
def yX12_spare : MethodName := ⟨RX12, "spare", "(IIIII)I"⟩
abbrev cX12_put : ByteArray := prog_14_method_21_code
def yX12_put : MethodName := ⟨RX12, "put", "(III)I"⟩
abbrev cX12_of : ByteArray := prog_14_method_22_code
def yX12_of : MethodName := ⟨RX12, "of", "(II)I"⟩
abbrev cX12_terms : ByteArray := prog_14_method_23_code
def yX12_terms : MethodName := ⟨RX12, "terms", "(II)I"⟩
abbrev cX12_row : ByteArray := prog_14_method_24_code
def yX12_row : MethodName := ⟨RX12, "row", "()I"⟩
abbrev cX12_rubble : ByteArray := prog_14_method_25_code
def yX12_rubble : MethodName := ⟨RX12, "rubble", "()I"⟩
abbrev cX12_feed : ByteArray := prog_14_method_26_code
def yX12_feed : MethodName := ⟨RX12, "feed", "(IIIII)I"⟩
abbrev cX12_end : ByteArray := prog_14_method_27_code
def yX12_end : MethodName := ⟨RX12, "end", "(I)I"⟩
abbrev cX12_isSmall : ByteArray := prog_14_method_28_code
def yX12_isSmall : MethodName := ⟨RX12, "isSmall", "(I)Z"⟩
abbrev cX12_isDigit : ByteArray := prog_14_method_29_code
def yX12_isDigit : MethodName := ⟨RX12, "isDigit", "(I)Z"⟩
abbrev cX12_wordOf : ByteArray := prog_14_method_30_code
def yX12_wordOf : MethodName := ⟨RX12, "wordOf", "(II)I"⟩
abbrev cX12_splits : ByteArray := prog_14_method_31_code
def yX12_splits : MethodName := ⟨RX12, "splits", "(I)V"⟩
abbrev cX12_fine : ByteArray := prog_14_method_32_code
def yX12_fine : MethodName := ⟨RX12, "fine", "()Z"⟩
abbrev cX12_faults : ByteArray := prog_14_method_33_code
def yX12_faults : MethodName := ⟨RX12, "faults", "()V"⟩
abbrev cX12_takes0 : ByteArray := prog_14_method_34_code
def yX12_takes0 : MethodName := ⟨RX12, "takes0", "(I)Z"⟩
abbrev cX12_must : ByteArray := prog_14_method_35_code
def yX12_must : MethodName := ⟨RX12, "must", "(I)V"⟩
abbrev cX12_leaf : ByteArray := prog_14_method_36_code
def yX12_leaf : MethodName := ⟨RX12, "leaf", "()V"⟩
abbrev cX12_sign : ByteArray := prog_14_method_37_code
def yX12_sign : MethodName := ⟨RX12, "sign", "(C)I"⟩
abbrev cX12_readClause : ByteArray := prog_14_method_38_code
def yX12_readClause : MethodName := ⟨RX12, "readClause", "()V"⟩
abbrev cX12_readTest : ByteArray := prog_14_method_39_code
def yX12_readTest : MethodName := ⟨RX12, "readTest", "(I)V"⟩
abbrev cX12_readBoth : ByteArray := prog_14_method_40_code
def yX12_readBoth : MethodName := ⟨RX12, "readBoth", "(I)V"⟩
abbrev cX12_readPlain : ByteArray := prog_14_method_41_code
def yX12_readPlain : MethodName := ⟨RX12, "readPlain", "(I)V"⟩
abbrev cX12_readSum : ByteArray := prog_14_method_42_code
def yX12_readSum : MethodName := ⟨RX12, "readSum", "(I)V"⟩
abbrev cX12_readTerm : ByteArray := prog_14_method_43_code
def yX12_readTerm : MethodName := ⟨RX12, "readTerm", "(I)V"⟩
abbrev cX12_readPart : ByteArray := prog_14_method_44_code
def yX12_readPart : MethodName := ⟨RX12, "readPart", "(I)V"⟩
abbrev cX12_reads : ByteArray := prog_14_method_45_code
def yX12_reads : MethodName := ⟨RX12, "reads", "()Z"⟩
abbrev cX12_law : ByteArray := prog_14_method_46_code
def yX12_law : MethodName := ⟨RX12, "law", "()I"⟩
abbrev cX12_fault : ByteArray := prog_14_method_47_code
def yX12_fault : MethodName := ⟨RX12, "fault", "()I"⟩
abbrev cX12_force : ByteArray := prog_14_method_48_code
def yX12_force : MethodName := ⟨RX12, "force", "(I)I"⟩
abbrev cX12_codeAt : ByteArray := prog_14_method_49_code
def yX12_codeAt : MethodName := ⟨RX12, "codeAt", "(I)I"⟩
abbrev cX12_passes0 : ByteArray := prog_14_method_50_code
def yX12_passes0 : MethodName := ⟨RX12, "passes0", "(I)Z"⟩
abbrev cX12_bounded : ByteArray := prog_14_method_51_code
def yX12_bounded : MethodName := ⟨RX12, "bounded", "(JZ)J"⟩
abbrev cX12_sumOf : ByteArray := prog_14_method_52_code
def yX12_sumOf : MethodName := ⟨RX12, "sumOf", "(Z)J"⟩
abbrev cX12_termOf : ByteArray := prog_14_method_53_code
def yX12_termOf : MethodName := ⟨RX12, "termOf", "(Z)J"⟩
abbrev cX12_partOf : ByteArray := prog_14_method_54_code
def yX12_partOf : MethodName := ⟨RX12, "partOf", "(Z)J"⟩
abbrev cX12_testOf : ByteArray := prog_14_method_55_code
def yX12_testOf : MethodName := ⟨RX12, "testOf", "(Z)Z"⟩
abbrev cX12_bothOf : ByteArray := prog_14_method_56_code
def yX12_bothOf : MethodName := ⟨RX12, "bothOf", "(Z)Z"⟩
abbrev cX12_plainOf : ByteArray := prog_14_method_57_code
def yX12_plainOf : MethodName := ⟨RX12, "plainOf", "(Z)Z"⟩
abbrev cX12_positiveOf : ByteArray := prog_14_method_58_code
def yX12_positiveOf : MethodName := ⟨RX12, "positiveOf", "(Z)Z"⟩
abbrev cX12_asksOf : ByteArray := prog_14_method_59_code
def yX12_asksOf : MethodName := ⟨RX12, "asksOf", "(I)V"⟩
abbrev cX12_touch : ByteArray := prog_14_method_60_code
def yX12_touch : MethodName := ⟨RX12, "touch", "(II)Z"⟩
abbrev cX12_looks : ByteArray := prog_14_method_61_code
def yX12_looks : MethodName := ⟨RX12, "looks", "()V"⟩
abbrev cX12_stands : ByteArray := prog_14_method_62_code
def yX12_stands : MethodName := ⟨RX12, "stands", "(II)Z"⟩
abbrev cX12_loose : ByteArray := prog_14_method_63_code
def yX12_loose : MethodName := ⟨RX12, "loose", "(I)I"⟩
abbrev cX12_fall : ByteArray := prog_14_method_64_code
def yX12_fall : MethodName := ⟨RX12, "fall", "(I)I"⟩
abbrev cX12_at : ByteArray := prog_14_method_65_code
def yX12_at : MethodName := ⟨RX12, "at", "(II)I"⟩
abbrev cX12_touches : ByteArray := prog_14_method_66_code
def yX12_touches : MethodName := ⟨RX12, "touches", "(II)I"⟩
abbrev cX12_unlawful : ByteArray := prog_14_method_67_code
def yX12_unlawful : MethodName := ⟨RX12, "unlawful", "()I"⟩
abbrev cX12_there : ByteArray := prog_14_method_68_code
def yX12_there : MethodName := ⟨RX12, "there", "()I"⟩
abbrev cX12_stand : ByteArray := prog_14_method_69_code
def yX12_stand : MethodName := ⟨RX12, "stand", "(I)I"⟩
abbrev cX12_areThere : ByteArray := prog_14_method_70_code
def yX12_areThere : MethodName := ⟨RX12, "areThere", "(I)Z"⟩
abbrev cX12_weightOf : ByteArray := prog_14_method_71_code
def yX12_weightOf : MethodName := ⟨RX12, "weightOf", "(I)I"⟩
abbrev cX12_falls : ByteArray := prog_14_method_72_code
def yX12_falls : MethodName := ⟨RX12, "falls", "(II)I"⟩
abbrev cX12_round : ByteArray := prog_14_method_73_code
def yX12_round : MethodName := ⟨RX12, "round", "(II)I"⟩
abbrev cX12_take : ByteArray := prog_14_method_74_code
def yX12_take : MethodName := ⟨RX12, "take", "(I)I"⟩
abbrev cX12_farm : ByteArray := prog_14_method_75_code
def yX12_farm : MethodName := ⟨RX12, "farm", "(II)I"⟩
abbrev cX12_sets : ByteArray := prog_14_method_76_code
def yX12_sets : MethodName := ⟨RX12, "sets", "()V"⟩
abbrev cX12_isBetter : ByteArray := prog_14_method_77_code
def yX12_isBetter : MethodName := ⟨RX12, "isBetter", "(II)Z"⟩
abbrev cX12_takesMost : ByteArray := prog_14_method_78_code
def yX12_takesMost : MethodName := ⟨RX12, "takesMost", "(Z)V"⟩
abbrev cX12_told : ByteArray := prog_14_method_79_code
def yX12_told : MethodName := ⟨RX12, "told", "(I)I"⟩
abbrev cX12_once : ByteArray := prog_14_method_80_code
def yX12_once : MethodName := ⟨RX12, "once", "(I)I"⟩
abbrev cX12_oneByOne : ByteArray := prog_14_method_81_code
def yX12_oneByOne : MethodName := ⟨RX12, "oneByOne", "(I)I"⟩
abbrev cX12_order : ByteArray := prog_14_method_82_code
def yX12_order : MethodName := ⟨RX12, "order", "(I)I"⟩
abbrev cX12_fell : ByteArray := prog_14_method_83_code
def yX12_fell : MethodName := ⟨RX12, "fell", "(I)I"⟩
abbrev cX12_gate : ByteArray := prog_14_method_84_code
def yX12_gate : MethodName := ⟨RX12, "gate", "(IIIII)I"⟩
abbrev cX12_mend : ByteArray := prog_14_method_85_code
def yX12_mend : MethodName := ⟨RX12, "mend", "(I)I"⟩
abbrev cX12_game : ByteArray := prog_14_method_86_code
def yX12_game : MethodName := ⟨RX12, "game", "(I)I"⟩
abbrev cX12_night : ByteArray := prog_14_method_87_code
def yX12_night : MethodName := ⟨RX12, "night", "(II)I"⟩
abbrev cX12_draws : ByteArray := prog_14_method_88_code
def yX12_draws : MethodName := ⟨RX12, "draws", "(I)I"⟩
abbrev cX12_winters : ByteArray := prog_14_method_89_code
def yX12_winters : MethodName := ⟨RX12, "winters", "(II)I"⟩
abbrev cX12_winter : ByteArray := prog_14_method_90_code
def yX12_winter : MethodName := ⟨RX12, "winter", "(I)I"⟩
abbrev cX12_count : ByteArray := prog_14_method_91_code
def yX12_count : MethodName := ⟨RX12, "count", "(I)I"⟩
abbrev cX12_status : ByteArray := prog_14_method_92_code
def yX12_status : MethodName := ⟨RX12, "status", "()I"⟩
def RJ6 : String := "java/lang/Integer"
def TJ6 : u_T := fun k => match k with
  | _ => ("", "", "", false)
def tyJ6 : Nat → FieldType := fun k => match k with
  | _ => .int
abbrev wsJ60 : List Cond := u_ws RJ6 TJ6 0
theorem nmJ6 : ∀ a, a < 0 → ∀ b, b < 0 → a ≠ b → (TJ6 a).2.1 ≠ (TJ6 b).2.1 := by decide +kernel
theorem tyJ6_ok : ∀ k, k < 0 → parseFieldDescriptor (TJ6 k).2.2.1 = some (tyJ6 k) := by decide +kernel
abbrev cJ6_bitCount_0f7a4 : ByteArray := prog_15_method_49_code
def yJ6_bitCount_0f7a4 : MethodName := ⟨RJ6, "bitCount", "(I)I"⟩
def RJ9 : String := "java/lang/Math"
def TJ9 : u_T := fun k => match k with
  | _ => ("", "", "", false)
def tyJ9 : Nat → FieldType := fun k => match k with
  | _ => .int
abbrev wsJ90 : List Cond := u_ws RJ9 TJ9 0
theorem nmJ9 : ∀ a, a < 0 → ∀ b, b < 0 → a ≠ b → (TJ9 a).2.1 ≠ (TJ9 b).2.1 := by decide +kernel
theorem tyJ9_ok : ∀ k, k < 0 → parseFieldDescriptor (TJ9 k).2.2.1 = some (tyJ9 k) := by decide +kernel
abbrev cJ9_max_7cf53 : ByteArray := prog_16_method_65_code
def yJ9_max_7cf53 : MethodName := ⟨RJ9, "max", "(II)I"⟩
abbrev cJ9_max_f86c9 : ByteArray := prog_16_method_66_code
def yJ9_max_f86c9 : MethodName := ⟨RJ9, "max", "(JJ)J"⟩
abbrev cJ9_min_7cf53 : ByteArray := prog_16_method_69_code
def yJ9_min_7cf53 : MethodName := ⟨RJ9, "min", "(II)I"⟩
abbrev cJ9_min_f86c9 : ByteArray := prog_16_method_70_code
def yJ9_min_f86c9 : MethodName := ⟨RJ9, "min", "(JJ)J"⟩
def RJ0 : String := "java/lang/String"
def TJ0 : u_T := fun k => match k with
  | _ => ("", "", "", false)
def tyJ0 : Nat → FieldType := fun k => match k with
  | _ => .int
abbrev wsJ00 : List Cond := u_ws RJ0 TJ0 0
theorem nmJ0 : ∀ a, a < 0 → ∀ b, b < 0 → a ≠ b → (TJ0 a).2.1 ≠ (TJ0 b).2.1 := by decide +kernel
theorem tyJ0_ok : ∀ k, k < 0 → parseFieldDescriptor (TJ0 k).2.2.1 = some (tyJ0 k) := by decide +kernel
abbrev cJ0_length_8abf5 : ByteArray := prog_17_method_54_code
def yJ0_length_8abf5 : MethodName := ⟨RJ0, "length", "()I"⟩
abbrev cJ0_charAt_5068e : ByteArray := prog_17_method_56_code
def yJ0_charAt_5068e : MethodName := ⟨RJ0, "charAt", "(I)C"⟩
abbrev cJ0_coder_7d493 : ByteArray := prog_17_method_152_code
def yJ0_coder_7d493 : MethodName := ⟨RJ0, "coder", "()B"⟩
abbrev cJ0_isLatin1_aae02 : ByteArray := prog_17_method_154_code
def yJ0_isLatin1_aae02 : MethodName := ⟨RJ0, "isLatin1", "()Z"⟩
abbrev cJ0_checkIndex_df160 : ByteArray := prog_17_method_155_code
def yJ0_checkIndex_df160 : MethodName := ⟨RJ0, "checkIndex", "(II)V"⟩
def RJ1 : String := "java/lang/StringLatin1"
def TJ1 : u_T := fun k => match k with
  | _ => ("", "", "", false)
def tyJ1 : Nat → FieldType := fun k => match k with
  | _ => .int
abbrev wsJ10 : List Cond := u_ws RJ1 TJ1 0
theorem nmJ1 : ∀ a, a < 0 → ∀ b, b < 0 → a ≠ b → (TJ1 a).2.1 ≠ (TJ1 b).2.1 := by decide +kernel
theorem tyJ1_ok : ∀ k, k < 0 → parseFieldDescriptor (TJ1 k).2.2.1 = some (tyJ1 k) := by decide +kernel
abbrev cJ1_charAt_3b067 : ByteArray := prog_18_method_2_code
def yJ1_charAt_3b067 : MethodName := ⟨RJ1, "charAt", "([BI)C"⟩
def RJ2 : String := "java/lang/StringUTF16"
def TJ2 : u_T := fun k => match k with
  | _ => ("", "", "", false)
def tyJ2 : Nat → FieldType := fun k => match k with
  | _ => .int
abbrev wsJ20 : List Cond := u_ws RJ2 TJ2 0
theorem nmJ2 : ∀ a, a < 0 → ∀ b, b < 0 → a ≠ b → (TJ2 a).2.1 ≠ (TJ2 b).2.1 := by decide +kernel
theorem tyJ2_ok : ∀ k, k < 0 → parseFieldDescriptor (TJ2 k).2.2.1 = some (tyJ2 k) := by decide +kernel
abbrev cJ2_getChar_3b067 : ByteArray := prog_19_method_5_code
def yJ2_getChar_3b067 : MethodName := ⟨RJ2, "getChar", "([BI)C"⟩
abbrev cJ2_length_9d52b : ByteArray := prog_19_method_6_code
def yJ2_length_9d52b : MethodName := ⟨RJ2, "length", "([B)I"⟩
abbrev cJ2_charAt_3b067 : ByteArray := prog_19_method_83_code
def yJ2_charAt_3b067 : MethodName := ⟨RJ2, "charAt", "([BI)C"⟩
abbrev cJ2_checkIndex_2214a : ByteArray := prog_19_method_91_code
def yJ2_checkIndex_2214a : MethodName := ⟨RJ2, "checkIndex", "(I[B)V"⟩
def RJ3 : String := "jdk/internal/util/Preconditions"
def TJ3 : u_T := fun k => match k with
  | _ => ("", "", "", false)
def tyJ3 : Nat → FieldType := fun k => match k with
  | _ => .int
abbrev wsJ30 : List Cond := u_ws RJ3 TJ3 0
theorem nmJ3 : ∀ a, a < 0 → ∀ b, b < 0 → a ≠ b → (TJ3 a).2.1 ≠ (TJ3 b).2.1 := by decide +kernel
theorem tyJ3_ok : ∀ k, k < 0 → parseFieldDescriptor (TJ3 k).2.2.1 = some (tyJ3 k) := by decide +kernel
abbrev cJ3_checkIndex_8e157 : ByteArray := prog_20_method_11_code
def yJ3_checkIndex_8e157 : MethodName := ⟨RJ3, "checkIndex", "(IILjava/util/function/BiFunction;)I"⟩
def RL : String := "FiveTouchLaw"
abbrev cL_law : ByteArray := code
def yL_law : MethodName := ⟨RL, "law", "([I)Z"⟩
abbrev vwCl : List vw_C := [(RX0, TX0, 3), (RX1, TX1, 3), (RX2, TX2, 6), (RX3, TX3, 3), (RX4, TX4, 4), (RX5, TX5, 10), (RX6, TX6, 3), (RX7, TX7, 1), (RX8, TX8, 2), (RX9, TX9, 14), (RX10, TX10, 8), (RX11, TX11, 13), (RX12, TX12, 39)]
end
section
/-! tables of the program, written by wip/gen/emit03.py -/
def tb_RR : Nat → String := fun c => match c with
  | 0 => RX0
  | 1 => RX1
  | 2 => RX2
  | 3 => RX3
  | 4 => RX4
  | 5 => RX5
  | 6 => RX6
  | 7 => RX7
  | 8 => RX8
  | 9 => RX9
  | 10 => RX10
  | 11 => RX11
  | 12 => RX12
  | 13 => RJ6
  | 14 => RJ9
  | 15 => RJ0
  | 16 => RJ1
  | 17 => RJ2
  | 18 => RJ3
  | _ => RL
def tb_TT : Nat → u_T := fun c => match c with
  | 0 => TX0
  | 1 => TX1
  | 2 => TX2
  | 3 => TX3
  | 4 => TX4
  | 5 => TX5
  | 6 => TX6
  | 7 => TX7
  | 8 => TX8
  | 9 => TX9
  | 10 => TX10
  | 11 => TX11
  | _ => TX12
def tb_ty : Nat → Nat → FieldType := fun c => match c with
  | 0 => tyX0
  | 1 => tyX1
  | 2 => tyX2
  | 3 => tyX3
  | 4 => tyX4
  | 5 => tyX5
  | 6 => tyX6
  | 7 => tyX7
  | 8 => tyX8
  | 9 => tyX9
  | 10 => tyX10
  | 11 => tyX11
  | _ => tyX12
def tb_NN : Nat → Nat := fun c => match c with
  | 0 => 3
  | 1 => 3
  | 2 => 6
  | 3 => 3
  | 4 => 4
  | 5 => 10
  | 6 => 3
  | 7 => 1
  | 8 => 2
  | 9 => 14
  | 10 => 8
  | 11 => 13
  | _ => 39
/-- of each method: 0 instance, 1 static; the places of its words in the tables (code, instance or static, selects, initialized); its class -/
def tb_mh : List (Nat × Nat × Nat × Nat × Nat × Nat) := [(0, 218, 217, 9999, 90, 0), (0, 736, 734, 735, 90, 0), (0, 784, 782, 783, 90, 0), (0, 748, 747, 22, 90, 0), (0, 752, 751, 23, 90, 0), (0, 771, 770, 26, 90, 0), (0, 761, 760, 24, 90, 0), (0, 766, 765, 25, 90, 0), (0, 290, 289, 9999, 94, 1), (0, 973, 971, 972, 94, 1), (0, 977, 975, 976, 94, 1), (0, 983, 981, 982, 94, 1), (0, 212, 211, 9999, 89, 2), (0, 718, 716, 717, 89, 2), (1, 726, 725, 9999, 89, 2), (1, 731, 730, 9999, 89, 2), (0, 797, 795, 796, 89, 2), (0, 812, 810, 811, 89, 2), (0, 788, 786, 787, 89, 2), (0, 801, 799, 800, 89, 2), (0, 900, 898, 899, 89, 2), (0, 820, 818, 819, 89, 2), (0, 843, 841, 842, 89, 2), (0, 849, 847, 848, 89, 2), (0, 861, 859, 860, 89, 2), (0, 1015, 1013, 1014, 89, 2), (0, 1020, 1018, 1019, 89, 2), (0, 673, 672, 9999, 102, 3), (0, 757, 755, 756, 102, 3), (0, 744, 742, 743, 102, 3), (0, 740, 738, 739, 102, 3), (0, 270, 269, 9999, 93, 4), (0, 909, 907, 908, 93, 4), (0, 917, 915, 916, 93, 4), (0, 923, 921, 922, 93, 4), (0, 174, 173, 9999, 88, 5), (0, 522, 520, 521, 88, 5), (0, 537, 536, 6, 88, 5), (0, 618, 617, 13, 88, 5), (0, 622, 621, 14, 88, 5), (0, 626, 625, 15, 88, 5), (0, 633, 632, 16, 88, 5), (0, 600, 599, 9, 88, 5), (0, 604, 603, 10, 88, 5), (0, 608, 607, 11, 88, 5), (0, 614, 613, 12, 88, 5), (0, 650, 649, 19, 88, 5), (0, 662, 661, 20, 88, 5), (0, 526, 525, 5, 88, 5), (1, 533, 532, 9999, 88, 5), (0, 547, 546, 8, 88, 5), (0, 640, 639, 17, 88, 5), (0, 645, 644, 18, 88, 5), (0, 541, 540, 7, 88, 5), (0, 351, 350, 9999, 95, 6), (0, 1029, 1027, 1028, 95, 6), (0, 1057, 1055, 1056, 95, 6), (0, 1034, 1033, 33, 95, 6), (0, 1038, 1037, 34, 95, 6), (1, 1047, 1046, 9999, 95, 6), (0, 260, 259, 9999, 92, 7), (0, 891, 889, 890, 92, 7), (0, 904, 902, 903, 92, 7), (0, 913, 911, 912, 92, 7), (0, 948, 946, 947, 92, 7), (0, 939, 937, 938, 92, 7), (0, 159, 158, 9999, 87, 8), (0, 493, 491, 492, 87, 8), (0, 510, 508, 509, 87, 8), (0, 254, 253, 9999, 91, 9), (0, 793, 791, 792, 91, 9), (0, 882, 881, 27, 91, 9), (1, 894, 893, 9999, 91, 9), (0, 886, 885, 28, 91, 9), (0, 878, 876, 877, 91, 9), (0, 931, 929, 930, 91, 9), (0, 935, 934, 29, 91, 9), (0, 944, 943, 30, 91, 9), (0, 952, 951, 31, 91, 9), (0, 960, 958, 959, 91, 9), (0, 969, 967, 968, 91, 9), (0, 995, 993, 994, 91, 9), (0, 1003, 1001, 1002, 91, 9), (0, 1007, 1006, 32, 91, 9), (0, 116, 115, 9999, 86, 10), (0, 1066, 1064, 1065, 86, 10), (0, 442, 440, 441, 86, 10), (0, 462, 460, 461, 86, 10), (0, 446, 445, 2, 86, 10), (0, 450, 448, 449, 86, 10), (0, 434, 432, 433, 86, 10), (0, 485, 483, 484, 86, 10), (0, 481, 479, 480, 86, 10), (0, 693, 691, 692, 86, 10), (0, 722, 720, 721, 86, 10), (0, 425, 423, 424, 86, 10), (0, 421, 419, 420, 86, 10), (0, 832, 830, 831, 86, 10), (0, 430, 428, 429, 86, 10), (0, 417, 415, 416, 86, 10), (0, 853, 851, 852, 86, 10), (0, 108, 107, 9999, 85, 11), (0, 406, 404, 405, 85, 11), (0, 458, 456, 457, 85, 11), (0, 466, 464, 465, 85, 11), (0, 472, 470, 471, 85, 11), (0, 477, 475, 476, 85, 11), (0, 489, 487, 488, 85, 11), (0, 498, 496, 497, 85, 11), (0, 502, 500, 501, 85, 11), (0, 514, 512, 513, 85, 11), (0, 518, 516, 517, 85, 11), (0, 697, 695, 696, 85, 11), (0, 701, 699, 700, 85, 11), (0, 705, 703, 704, 85, 11), (0, 710, 708, 709, 85, 11), (0, 816, 814, 815, 85, 11), (0, 824, 822, 823, 85, 11), (0, 828, 826, 827, 85, 11), (0, 839, 837, 838, 85, 11), (0, 857, 855, 856, 85, 11), (0, 866, 864, 865, 85, 11), (0, 870, 868, 869, 85, 11), (0, 874, 872, 873, 85, 11), (0, 927, 925, 926, 85, 11), (0, 956, 954, 955, 85, 11), (0, 965, 963, 964, 85, 11), (0, 987, 985, 986, 85, 11), (0, 991, 989, 990, 85, 11), (0, 999, 997, 998, 85, 11), (0, 1011, 1009, 1010, 85, 11), (0, 1024, 1022, 1023, 85, 11), (0, 1053, 1051, 1052, 85, 11), (0, 1062, 1060, 1061, 85, 11), (0, 1070, 1068, 1069, 85, 11), (0, 1074, 1072, 1073, 85, 11), (0, 1079, 1077, 1078, 85, 11), (0, 438, 437, 1, 85, 11), (0, 454, 453, 3, 85, 11), (0, 410, 409, 0, 85, 11), (0, 506, 505, 4, 85, 11), (0, 714, 713, 21, 85, 11), (1, 413, 412, 9999, 85, 11), (1, 835, 834, 9999, 85, 11), (1, 1210, 1209, 9999, 96, 12), (0, 1214, 1213, 35, 96, 12), (0, 1218, 1217, 36, 96, 12), (1, 1386, 1385, 9999, 96, 12), (1, 1448, 1447, 9999, 96, 12), (0, 1084, 1083, 9999, 96, 12), (0, 1207, 1205, 1206, 96, 12), (0, 1222, 1220, 1221, 96, 12), (0, 1245, 1244, 40, 96, 12), (0, 1249, 1248, 41, 96, 12), (0, 1241, 1240, 39, 96, 12), (0, 1257, 1256, 43, 96, 12), (0, 1237, 1236, 38, 96, 12), (0, 1253, 1252, 42, 96, 12), (1, 1229, 1228, 9999, 96, 12), (0, 1233, 1232, 37, 96, 12), (0, 1265, 1264, 45, 96, 12), (0, 1261, 1260, 44, 96, 12), (0, 1226, 1224, 1225, 96, 12), (0, 1269, 1267, 1268, 96, 12), (0, 1273, 1271, 1272, 96, 12), (0, 1277, 1275, 1276, 96, 12), (0, 1281, 1279, 1280, 96, 12), (0, 1285, 1283, 1284, 96, 12), (0, 1289, 1287, 1288, 96, 12), (0, 1293, 1291, 1292, 96, 12), (0, 1297, 1295, 1296, 96, 12), (1, 1312, 1311, 9999, 96, 12), (1, 1315, 1314, 9999, 96, 12), (0, 1319, 1318, 48, 96, 12), (0, 1309, 1308, 47, 96, 12), (0, 1332, 1331, 51, 96, 12), (0, 1351, 1350, 55, 96, 12), (0, 1328, 1327, 50, 96, 12), (0, 1355, 1354, 56, 96, 12), (0, 1359, 1358, 57, 96, 12), (1, 1347, 1346, 9999, 96, 12), (0, 1324, 1323, 49, 96, 12), (0, 1363, 1362, 58, 96, 12), (0, 1367, 1366, 59, 96, 12), (0, 1371, 1370, 60, 96, 12), (0, 1336, 1335, 52, 96, 12), (0, 1340, 1339, 53, 96, 12), (0, 1344, 1343, 54, 96, 12), (0, 1305, 1304, 46, 96, 12), (0, 1301, 1299, 1300, 96, 12), (0, 1375, 1373, 1374, 96, 12), (0, 1379, 1377, 1378, 96, 12), (0, 1402, 1401, 63, 96, 12), (0, 1418, 1417, 67, 96, 12), (0, 1422, 1421, 68, 96, 12), (0, 1406, 1405, 64, 96, 12), (0, 1410, 1409, 65, 96, 12), (0, 1414, 1413, 66, 96, 12), (0, 1428, 1427, 69, 96, 12), (0, 1432, 1431, 70, 96, 12), (0, 1436, 1435, 71, 96, 12), (0, 1440, 1439, 72, 96, 12), (0, 1398, 1397, 62, 96, 12), (0, 1445, 1444, 73, 96, 12), (0, 1394, 1393, 61, 96, 12), (0, 1460, 1459, 75, 96, 12), (0, 1456, 1455, 74, 96, 12), (0, 1492, 1491, 78, 96, 12), (0, 1383, 1381, 1382, 96, 12), (0, 1390, 1388, 1389, 96, 12), (0, 1452, 1450, 1451, 96, 12), (0, 1464, 1462, 1463, 96, 12), (0, 1468, 1466, 1467, 96, 12), (0, 1476, 1475, 76, 96, 12), (0, 1480, 1479, 77, 96, 12), (0, 1472, 1470, 1471, 96, 12), (0, 1484, 1482, 1483, 96, 12), (0, 1488, 1486, 1487, 96, 12), (0, 1496, 1494, 1495, 96, 12), (0, 1508, 1507, 80, 96, 12), (0, 1512, 1511, 81, 96, 12), (0, 1504, 1503, 79, 96, 12), (0, 1516, 1515, 82, 96, 12), (0, 1500, 1498, 1499, 96, 12), (0, 1520, 1518, 1519, 96, 12), (0, 1524, 1522, 1523, 96, 12), (0, 1528, 1526, 1527, 96, 12), (0, 1532, 1530, 1531, 96, 12), (0, 1536, 1534, 1535, 96, 12), (0, 1540, 1538, 1539, 96, 12), (0, 1544, 1542, 1543, 96, 12), (0, 1552, 1551, 83, 96, 12), (0, 1548, 1546, 1547, 96, 12), (0, 1559, 1557, 1558, 96, 12), (0, 1563, 1561, 1562, 96, 12), (0, 1567, 1565, 1566, 96, 12), (1, 804, 803, 9999, 103, 13), (1, 677, 676, 9999, 97, 14), (1, 780, 779, 9999, 97, 14), (1, 530, 529, 9999, 97, 14), (1, 777, 776, 9999, 97, 14), (0, 551, 549, 550, 98, 15), (0, 561, 559, 560, 98, 15), (0, 555, 553, 554, 98, 15), (0, 565, 563, 564, 98, 15), (1, 571, 570, 9999, 98, 15), (1, 568, 567, 9999, 99, 16), (1, 589, 588, 9999, 101, 17), (1, 585, 584, 9999, 101, 17), (1, 579, 578, 9999, 101, 17), (1, 582, 581, 9999, 101, 17), (1, 576, 575, 9999, 100, 18), (2, 9999, 9999, 9999, 9999, 19)]
def mh (j : Nat) : Nat × Nat × Nat × Nat × Nat × Nat := tb_mh.getD j (2, 9999, 9999, 9999, 9999, 19)
def mx (o : Option Cond) : MethodName × ByteArray × Nat × Option FieldType := match o with | some (.code y b n r) => (y, b, n, r) | _ => (yL_law, code, 4, some .boolean)
def me (j : Nat) : MethodName × ByteArray × Nat × Option FieldType := mx (lw_tbl[(mh j).2.1]?)
def my (j : Nat) : MethodName := (me j).1
def mcode (j : Nat) : ByteArray := (me j).2.1
def mmax (j : Nat) : Nat := (me j).2.2.1
def mret (j : Nat) : Option FieldType := (me j).2.2.2
def mcn (j : Nat) : Nat := (mh j).2.2.2.2.2
def tb_F : List (Nat × Nat × Nat × Nat × Nat) := [(10, 9, 10, 0, 120), (10, 15, 10, 1, 121), (10, 20, 10, 2, 122), (11, 75, 10, 3, 123), (10, 28, 10, 3, 124), (10, 31, 10, 4, 125), (11, 93, 10, 4, 126), (9, 142, 10, 4, 127), (6, 28, 10, 5, 128), (10, 34, 10, 5, 129), (9, 76, 10, 5, 130), (11, 111, 10, 5, 131), (10, 37, 10, 6, 132), (11, 134, 10, 6, 133), (10, 24, 10, 7, 134), (11, 148, 10, 7, 135), (8, 9, 8, 0, 161), (8, 15, 8, 1, 162), (11, 121, 8, 1, 163), (5, 9, 5, 0, 176), (5, 15, 5, 1, 177), (5, 22, 5, 2, 178), (5, 26, 5, 3, 179), (5, 54, 5, 4, 180), (5, 29, 5, 5, 181), (5, 32, 5, 6, 182), (5, 35, 5, 7, 183), (5, 38, 5, 8, 184), (5, 18, 5, 9, 185), (11, 141, 5, 9, 186), (0, 9, 0, 0, 220), (0, 48, 0, 1, 221), (0, 33, 0, 2, 222), (2, 12, 2, 0, 231), (2, 18, 2, 1, 232), (2, 22, 2, 2, 233), (2, 25, 2, 3, 234), (2, 28, 2, 4, 235), (2, 37, 2, 5, 236), (7, 9, 7, 0, 262), (4, 9, 4, 0, 272), (4, 15, 4, 1, 273), (4, 18, 4, 2, 274), (9, 119, 4, 2, 275), (4, 21, 4, 3, 276), (1, 9, 1, 0, 292), (1, 15, 1, 1, 293), (1, 18, 1, 2, 294), (9, 49, 9, 0, 302), (9, 53, 9, 1, 303), (9, 12, 9, 2, 304), (9, 18, 9, 3, 305), (9, 24, 9, 4, 306), (9, 28, 9, 5, 307), (9, 34, 9, 6, 308), (9, 38, 9, 7, 309), (9, 41, 9, 8, 310), (9, 113, 9, 9, 311), (9, 45, 9, 10, 312), (11, 226, 9, 10, 313), (9, 148, 9, 11, 314), (11, 229, 9, 11, 315), (9, 86, 9, 12, 316), (9, 57, 9, 13, 317), (6, 11, 6, 0, 353), (6, 25, 6, 1, 354), (6, 15, 6, 2, 355), (11, 12, 11, 0, 363), (11, 16, 11, 1, 364), (11, 20, 11, 2, 365), (11, 27, 11, 3, 366), (11, 36, 11, 4, 367), (11, 43, 11, 5, 368), (11, 52, 11, 6, 369), (11, 59, 11, 7, 370), (11, 63, 11, 8, 371), (11, 254, 11, 9, 372), (11, 67, 11, 10, 373), (11, 128, 11, 11, 374), (11, 71, 11, 12, 375), (3, 15, 3, 0, 678), (3, 19, 3, 1, 679), (3, 22, 3, 2, 680), (0, 15, 3, 2, 681), (12, 3, 12, 0, 1086), (12, 11, 12, 1, 1087), (12, 7, 12, 2, 1088), (12, 20, 12, 3, 1089), (12, 23, 12, 4, 1090), (12, 26, 12, 5, 1091), (12, 142, 12, 6, 1092), (12, 30, 12, 7, 1093), (12, 34, 12, 8, 1094), (12, 37, 12, 9, 1095), (12, 139, 12, 10, 1096), (12, 40, 12, 11, 1097), (12, 43, 12, 12, 1098), (12, 46, 12, 13, 1099), (12, 49, 12, 14, 1100), (12, 145, 12, 15, 1101), (12, 165, 12, 16, 1102), (12, 174, 12, 17, 1103), (12, 158, 12, 18, 1104), (12, 218, 12, 19, 1105), (12, 215, 12, 20, 1106), (12, 228, 12, 21, 1107), (12, 52, 12, 22, 1108), (12, 55, 12, 23, 1109), (12, 58, 12, 24, 1110), (12, 61, 12, 25, 1111), (12, 64, 12, 26, 1112), (12, 67, 12, 27, 1113), (12, 70, 12, 28, 1114), (12, 73, 12, 29, 1115), (12, 76, 12, 30, 1116), (12, 79, 12, 31, 1117), (12, 82, 12, 32, 1118), (12, 298, 12, 33, 1119), (12, 301, 12, 34, 1120), (12, 85, 12, 35, 1121), (12, 88, 12, 36, 1122), (12, 323, 12, 37, 1123), (12, 316, 12, 38, 1124)]
def tb_C : List (Nat × Nat × Nat × Nat × Nat) := [(19, 9, 101, 3, 106), (11, 33, 35, 3, 172), (11, 49, 69, 3, 252), (19, 13, 102, 0, 403), (11, 78, 139, 0, 407), (11, 99, 142, 1, 411), (11, 257, 99, 0, 414), (10, 64, 96, 0, 418), (10, 56, 95, 0, 422), (10, 67, 98, 0, 427), (10, 60, 90, 0, 431), (11, 82, 137, 0, 435), (11, 86, 86, 0, 439), (10, 40, 88, 0, 443), (10, 44, 89, 0, 447), (11, 90, 138, 0, 451), (19, 18, 103, 0, 455), (11, 96, 87, 0, 459), (19, 22, 104, 0, 463), (11, 103, 95, 0, 467), (11, 107, 89, 0, 468), (19, 27, 105, 0, 469), (11, 114, 90, 0, 473), (19, 32, 106, 0, 474), (11, 118, 92, 0, 478), (10, 52, 91, 0, 482), (19, 36, 107, 0, 486), (11, 124, 67, 0, 490), (19, 40, 108, 0, 495), (19, 45, 109, 0, 499), (11, 131, 140, 0, 503), (11, 261, 68, 0, 507), (19, 50, 110, 0, 511), (19, 54, 111, 0, 515), (11, 137, 36, 0, 519), (5, 41, 48, 0, 523), (5, 156, 68, 0, 527), (5, 165, 239, 1, 528), (5, 162, 49, 1, 531), (5, 44, 37, 0, 534), (5, 62, 53, 0, 538), (5, 50, 50, 0, 544), (5, 170, 241, 0, 548), (15, 335, 243, 0, 552), (5, 174, 242, 0, 558), (15, 492, 244, 0, 562), (15, 495, 246, 1, 566), (16, 9, 245, 1, 569), (15, 1059, 251, 1, 574), (15, 498, 249, 1, 577), (17, 67, 250, 1, 580), (17, 48, 248, 1, 583), (17, 414, 245, 1, 586), (17, 71, 247, 1, 587), (5, 69, 42, 0, 597), (5, 115, 43, 0, 601), (5, 122, 44, 0, 605), (5, 102, 45, 0, 611), (5, 75, 38, 0, 615), (5, 78, 39, 0, 619), (5, 91, 40, 0, 623), (5, 106, 41, 0, 630), (5, 83, 51, 0, 637), (5, 87, 52, 0, 642), (5, 133, 46, 0, 647), (5, 137, 47, 0, 659), (5, 59, 27, 3, 671), (3, 9, 237, 1, 675), (11, 144, 93, 0, 690), (19, 58, 112, 0, 694), (19, 62, 113, 0, 698), (19, 66, 114, 0, 702), (11, 151, 98, 0, 706), (19, 70, 115, 0, 707), (11, 155, 141, 0, 711), (11, 264, 13, 0, 715), (2, 31, 94, 0, 719), (2, 41, 96, 0, 723), (2, 45, 14, 1, 724), (2, 66, 90, 0, 727), (2, 70, 98, 0, 728), (2, 49, 15, 1, 729), (2, 52, 91, 0, 732), (2, 56, 1, 0, 733), (0, 21, 30, 0, 737), (3, 26, 29, 0, 741), (0, 25, 3, 0, 745), (0, 29, 4, 0, 749), (0, 51, 29, 0, 753), (0, 55, 28, 0, 754), (0, 58, 6, 0, 758), (0, 62, 90, 0, 762), (0, 68, 7, 0, 763), (0, 72, 237, 1, 767), (0, 74, 5, 0, 768), (0, 39, 240, 1, 775), (0, 45, 238, 1, 778), (2, 60, 2, 0, 781), (2, 64, 18, 0, 785), (11, 267, 70, 0, 790), (11, 158, 16, 0, 794), (11, 161, 19, 0, 798), (2, 78, 236, 1, 802), (11, 164, 18, 0, 808), (11, 167, 17, 0, 809), (19, 74, 116, 0, 813), (11, 170, 21, 0, 817), (19, 78, 117, 0, 821), (19, 82, 118, 0, 825), (11, 173, 97, 0, 829), (11, 177, 143, 1, 833), (19, 86, 119, 0, 836), (11, 181, 22, 0, 840), (2, 83, 21, 0, 844), (11, 184, 236, 1, 845), (11, 189, 23, 0, 846), (11, 192, 100, 0, 850), (19, 90, 120, 0, 854), (11, 195, 24, 0, 858), (2, 86, 23, 0, 862), (19, 94, 121, 0, 863), (19, 98, 122, 0, 867), (19, 102, 123, 0, 871), (11, 198, 74, 0, 875), (9, 72, 71, 0, 879), (9, 102, 73, 0, 883), (9, 81, 22, 0, 887), (9, 89, 61, 0, 888), (9, 92, 72, 1, 892), (9, 60, 236, 1, 895), (9, 66, 239, 1, 896), (9, 95, 20, 0, 897), (9, 98, 62, 0, 901), (9, 105, 32, 0, 906), (9, 106, 63, 0, 910), (9, 109, 33, 0, 914), (4, 24, 236, 1, 918), (4, 30, 100, 0, 919), (11, 202, 34, 0, 920), (19, 106, 124, 0, 924), (11, 207, 75, 0, 928), (9, 116, 76, 0, 932), (9, 125, 65, 0, 936), (7, 19, 63, 0, 940), (9, 122, 77, 0, 941), (9, 129, 64, 0, 945), (9, 132, 78, 0, 949), (19, 110, 125, 0, 953), (11, 210, 79, 0, 957), (19, 114, 126, 0, 962), (11, 213, 80, 0, 966), (9, 139, 9, 0, 970), (9, 140, 10, 0, 974), (1, 21, 236, 1, 978), (1, 27, 239, 1, 979), (11, 217, 11, 0, 980), (19, 118, 127, 0, 984), (19, 122, 128, 0, 988), (11, 220, 81, 0, 992), (19, 126, 129, 0, 996), (11, 223, 82, 0, 1000), (9, 145, 83, 0, 1004), (19, 130, 130, 0, 1008), (11, 232, 25, 0, 1012), (2, 89, 22, 0, 1016), (11, 236, 26, 0, 1017), (19, 134, 131, 0, 1021), (11, 240, 55, 0, 1026), (6, 19, 239, 1, 1030), (6, 33, 57, 0, 1031), (6, 60, 58, 0, 1035), (6, 63, 90, 0, 1042), (6, 37, 22, 0, 1043), (6, 43, 97, 0, 1044), (6, 47, 59, 1, 1045), (6, 72, 21, 0, 1048), (6, 51, 236, 1, 1049), (19, 138, 132, 0, 1050), (11, 244, 56, 0, 1054), (19, 142, 133, 0, 1059), (11, 247, 85, 0, 1063), (19, 146, 134, 0, 1067), (19, 150, 135, 0, 1071), (11, 251, 91, 0, 1075), (19, 154, 136, 0, 1076), (19, 12, 149, 3, 1082), (19, 145, 150, 0, 1204), (12, 91, 144, 1, 1208), (12, 95, 145, 0, 1211), (12, 99, 146, 0, 1215), (19, 149, 151, 0, 1219), (19, 17, 162, 0, 1223), (12, 127, 158, 1, 1227), (12, 131, 159, 0, 1230), (12, 117, 156, 0, 1234), (12, 106, 154, 0, 1238), (12, 102, 152, 0, 1242), (12, 110, 153, 0, 1246), (12, 120, 157, 0, 1250), (12, 113, 155, 0, 1254), (12, 135, 161, 0, 1258), (12, 123, 160, 0, 1262), (19, 21, 163, 0, 1266), (19, 26, 164, 0, 1270), (19, 31, 165, 0, 1274), (19, 35, 166, 0, 1278), (19, 49, 167, 0, 1282), (19, 53, 168, 0, 1286), (19, 39, 169, 0, 1290), (19, 44, 170, 0, 1294), (19, 57, 189, 0, 1298), (12, 212, 188, 0, 1302), (12, 206, 174, 0, 1306), (12, 148, 171, 1, 1310), (12, 151, 172, 1, 1313), (12, 154, 173, 0, 1316), (12, 209, 181, 0, 1321), (12, 168, 177, 0, 1325), (12, 161, 175, 0, 1329), (12, 177, 185, 0, 1333), (12, 197, 186, 0, 1337), (12, 200, 187, 0, 1341), (12, 193, 180, 1, 1345), (12, 171, 176, 0, 1348), (12, 181, 178, 0, 1352), (12, 203, 179, 0, 1356), (12, 184, 182, 0, 1360), (12, 187, 183, 0, 1364), (12, 190, 184, 0, 1368), (19, 61, 190, 0, 1372), (19, 65, 191, 0, 1376), (19, 69, 208, 0, 1380), (12, 274, 147, 1, 1384), (19, 73, 209, 0, 1387), (12, 283, 204, 0, 1391), (12, 264, 202, 0, 1395), (12, 221, 192, 0, 1399), (12, 246, 195, 0, 1403), (12, 232, 196, 0, 1407), (12, 240, 197, 0, 1411), (12, 243, 193, 0, 1415), (12, 236, 194, 0, 1419), (12, 259, 198, 0, 1425), (12, 249, 199, 0, 1429), (12, 253, 200, 0, 1433), (12, 256, 201, 0, 1437), (12, 267, 203, 0, 1442), (12, 271, 148, 1, 1446), (19, 77, 210, 0, 1449), (12, 280, 206, 0, 1453), (12, 277, 205, 0, 1457), (19, 81, 211, 0, 1461), (19, 85, 212, 0, 1465), (19, 89, 215, 0, 1469), (12, 286, 213, 0, 1473), (12, 289, 214, 0, 1477), (19, 93, 216, 0, 1481), (19, 97, 217, 0, 1485), (12, 292, 207, 0, 1489), (19, 101, 218, 0, 1493), (19, 105, 223, 0, 1497), (12, 307, 221, 0, 1501), (12, 295, 219, 0, 1505), (12, 304, 220, 0, 1509), (12, 311, 222, 0, 1513), (19, 109, 224, 0, 1517), (19, 113, 225, 0, 1521), (19, 117, 226, 0, 1525), (19, 121, 227, 0, 1529), (19, 125, 228, 0, 1533), (19, 129, 229, 0, 1537), (19, 133, 230, 0, 1541), (19, 137, 232, 0, 1545), (12, 326, 231, 0, 1549), (19, 141, 233, 0, 1556), (19, 153, 234, 0, 1560), (19, 157, 235, 0, 1564), (11, 11, 84, 4, 114), (11, 26, 66, 4, 157), (11, 42, 12, 4, 210), (2, 11, 0, 4, 216), (9, 11, 60, 4, 258), (9, 23, 31, 4, 268), (9, 33, 8, 4, 288), (11, 58, 54, 4, 349), (10, 48, 142, 2, 426), (8, 19, 142, 2, 494), (5, 178, 142, 2, 542), (2, 74, 142, 2, 789), (7, 15, 142, 2, 905), (9, 135, 142, 2, 961), (6, 56, 142, 2, 1058)]
def tb_KI : List (Nat × Nat × Int32 × Nat) := [(13, 265, 1431655765, 805), (13, 266, 858993459, 806), (13, 267, 252645135, 807), (11, 239, 1000000, 1025), (12, 157, 1000000, 1320)]
def tb_KL : List (Nat × Nat × Int64 × Nat) := [(0, 78, 1000000000, 772), (0, 80, -1000000000, 773), (0, 37, 12, 774), (6, 66, 1103, 1039), (6, 68, 12345, 1040), (6, 70, 1000003, 1041), (12, 224, 1000000000, 1423), (12, 226, -1000000000, 1424), (12, 262, 12, 1441), (12, 314, 1103, 1553), (12, 319, 12345, 1554), (12, 321, 1000003, 1555)]
def tb_S : List (Nat × String) := [(65, "bound"), (67, "needs"), (129, "["), (131, "]"), (96, "not"), (98, "("), (100, ")"), (109, "<"), (111, ">"), (113, "="), (94, "and"), (81, "or"), (140, "stone"), (142, "x"), (144, "y"), (146, "wide"), (148, "tall"), (150, "weight"), (152, "farm"), (154, "frost"), (125, "*"), (127, "/"), (118, "+"), (120, "-"), (73, "if"), (48, ";")]
/-! the cells: 0 the script, 1.. the words, 64 .. 125 the cells that stand from the start, from 126 on laws by threes -/
abbrev o_x : Nat := 64
abbrev o_wall : Nat := 65
abbrev o_img0 : Nat := 66
abbrev o_img1 : Nat := 67
abbrev o_wall_facts : Nat := 68
abbrev o_wall_terms : Nat := 69
abbrev o_wall_laws : Nat := 70
abbrev o_img0_facts : Nat := 71
abbrev o_img0_terms : Nat := 72
abbrev o_img0_laws : Nat := 73
abbrev o_img1_facts : Nat := 74
abbrev o_img1_terms : Nat := 75
abbrev o_img1_laws : Nat := 76
abbrev o_images : Nat := 77
abbrev o_kept : Nat := 78
abbrev o_tape : Nat := 79
abbrev o_tape_bytes : Nat := 80
abbrev o_reader : Nat := 81
abbrev o_reader_steps : Nat := 82
abbrev o_reader_starts : Nat := 83
abbrev o_frame : Nat := 84
abbrev o_asker : Nat := 85
abbrev o_asker_stack : Nat := 86
abbrev o_fr_beside : Nat := 87
abbrev o_fr_needs : Nat := 88
abbrev o_fr_held : Nat := 89
abbrev o_fr_lack : Nat := 90
abbrev o_thieves : Nat := 91
abbrev o_lawful : Nat := 92
abbrev o_lawful_words : Nat := 93
abbrev o_marked : Nat := 94
abbrev o_marked_words : Nat := 95
abbrev o_onceFound : Nat := 96
abbrev o_stepsFound : Nat := 97
abbrev o_fellingFound : Nat := 98
abbrev o_mendingFound : Nat := 99
abbrev o_th_steps : Nat := 100
abbrev o_seasons : Nat := 101
abbrev o_se_left : Nat := 102
abbrev o_refused : Nat := 103
abbrev o_m : Nat := 104
abbrev o_m_refused : Nat := 105
abbrev o_m_kept : Nat := 106
abbrev o_m_images : Nat := 107
abbrev o_m_hasImage : Nat := 108
abbrev o_m_words : Nat := 109
abbrev o_m_tape : Nat := 110
abbrev o_m_five : Nat := 111
abbrev o_m_code : Nat := 112
abbrev o_m_value : Nat := 113
abbrev o_m_placed : Nat := 114
abbrev o_m_asked : Nat := 115
abbrev o_m_needs : Nat := 116
abbrev o_m_bound : Nat := 117
abbrev o_m_near : Nat := 118
abbrev o_m_firm : Nat := 119
abbrev o_m_lawful : Nat := 120
abbrev o_m_fallTo : Nat := 121
abbrev o_m_wins : Nat := 122
abbrev o_m_comes : Nat := 123
abbrev o_m_leads : Nat := 124
abbrev o_m_winterRow : Nat := 125
def ly_sk : Nat → Nat := fun o => match o with
  | 64 => 11
  | 65 => 10
  | 66 => 10
  | 67 => 10
  | 68 => 20
  | 69 => 20
  | 70 => 25
  | 71 => 20
  | 72 => 20
  | 73 => 25
  | 74 => 20
  | 75 => 20
  | 76 => 25
  | 77 => 24
  | 78 => 22
  | 79 => 8
  | 80 => 20
  | 81 => 5
  | 82 => 20
  | 83 => 20
  | 84 => 2
  | 85 => 0
  | 86 => 21
  | 87 => 20
  | 88 => 20
  | 89 => 20
  | 90 => 20
  | 91 => 9
  | 92 => 7
  | 93 => 21
  | 94 => 7
  | 95 => 21
  | 96 => 4
  | 97 => 4
  | 98 => 1
  | 99 => 1
  | 100 => 20
  | 101 => 6
  | 102 => 20
  | 103 => 20
  | 104 => 12
  | 105 => 20
  | 106 => 20
  | 107 => 20
  | 108 => 22
  | 109 => 23
  | 110 => 23
  | 111 => 20
  | 112 => 20
  | 113 => 20
  | 114 => 20
  | 115 => 20
  | 116 => 20
  | 117 => 22
  | 118 => 20
  | 119 => 20
  | 120 => 22
  | 121 => 20
  | 122 => 22
  | 123 => 22
  | 124 => 22
  | 125 => 20
  | _ => 99
def ly_al : Nat → Nat := fun o => match o with
  | 68 => 154
  | 69 => 3
  | 70 => 6
  | 71 => 154
  | 72 => 3
  | 73 => 6
  | 74 => 154
  | 75 => 3
  | 76 => 6
  | 77 => 2
  | 78 => 2
  | 80 => 400
  | 82 => 400
  | 83 => 24
  | 86 => 64
  | 87 => 22
  | 88 => 22
  | 89 => 22
  | 90 => 22
  | 93 => 256
  | 95 => 256
  | 100 => 14
  | 102 => 40
  | 103 => 5
  | 105 => 7
  | 106 => 4968
  | 107 => 9936
  | 108 => 2
  | 109 => 64
  | 110 => 400
  | 111 => 5
  | 112 => 401
  | 113 => 401
  | 114 => 401
  | 115 => 8
  | 116 => 22
  | 117 => 22
  | 118 => 22
  | 119 => 22
  | 120 => 16384
  | 121 => 16384
  | 122 => 16384
  | 123 => 16384
  | 124 => 16384
  | 125 => 40
  | _ => 0
def ly_rf : Nat → Nat → Nat := fun o => match o with
  | 64 => fun k => match k with | 0 => 65 | 1 => 77 | 2 => 78 | 3 => 79 | 4 => 81 | 5 => 84 | 6 => 91 | 7 => 101 | 8 => 103 | _ => 0
  | 65 => fun k => match k with | 0 => 68 | 1 => 69 | 2 => 70 | _ => 0
  | 66 => fun k => match k with | 0 => 71 | 1 => 72 | 2 => 73 | _ => 0
  | 67 => fun k => match k with | 0 => 74 | 1 => 75 | 2 => 76 | _ => 0
  | 79 => fun _ => 80
  | 81 => fun k => match k with | 0 => 82 | 1 => 83 | 2 => 79 | _ => 0
  | 84 => fun k => match k with | 0 => 85 | 1 => 87 | 2 => 88 | 3 => 89 | 4 => 90 | _ => 0
  | 85 => fun _ => 86
  | 91 => fun k => match k with | 0 => 65 | 1 => 84 | 2 => 92 | 3 => 94 | 4 => 96 | 5 => 97 | 6 => 98 | 7 => 99 | 8 => 100 | _ => 0
  | 92 => fun _ => 93
  | 94 => fun _ => 95
  | 101 => fun _ => 102
  | 104 => fun k => match k with | 2 => 105 | 3 => 106 | 4 => 107 | 5 => 108 | 7 => 109 | 8 => 110 | 9 => 111 | 12 => 112 | 13 => 113 | 14 => 114 | 22 => 115 | 23 => 116 | 24 => 117 | 25 => 118 | 26 => 119 | 28 => 120 | 29 => 121 | 30 => 122 | 31 => 123 | 35 => 124 | 36 => 125 | _ => 0
  | _ => fun k => o + 1 + k
/-- which fields are references -/
def ly_fk : Nat → Nat → Bool := fun c k => match tb_ty c k with | .object _ => true | .array _ => true | _ => false
end
section
/-! which words of the tables each instruction may use -/
def gT : List Cond := lw_tbl.filter goodWord
theorem gT_of {w : Cond} {i : Nat} (h : lw_tbl[i]? = some w) (hg : goodWord w = true) : w ∈ gT := List.mem_filter.mpr ⟨List.mem_of_getElem? h, hg⟩
def fl_w (q : Nat × Nat × Nat × Nat × Nat) : Cond := Cond.fieldLink (tb_RR q.1) q.2.1 (tb_TT q.2.2.1 q.2.2.2.1).1 (tb_TT q.2.2.1 q.2.2.2.1).2.1 (tb_TT q.2.2.1 q.2.2.2.1).2.2.1
theorem tb_F_ok : tb_F.all (fun q => decide (lw_tbl[q.2.2.2.2]? = some (fl_w q)) && decide (q.2.2.2.1 < tb_NN q.2.2.1) && decide (q.2.2.1 < 13)) = true := by decide +kernel
def ci_w (q : Nat × Nat × Int32 × Nat) : Cond := Cond.constant (tb_RR q.1) q.2.1 q.2.2.1
theorem tb_KI_ok : tb_KI.all (fun q => decide (lw_tbl[q.2.2.2]? = some (ci_w q)) && goodWord (ci_w q)) = true := by decide +kernel
def cl_w (q : Nat × Nat × Int64 × Nat) : Cond := Cond.constantLong (tb_RR q.1) q.2.1 q.2.2.1
theorem tb_KL_ok : tb_KL.all (fun q => decide (lw_tbl[q.2.2.2]? = some (cl_w q)) && goodWord (cl_w q)) = true := by decide +kernel
/-- a method's own words: its code, instance or static, what it selects, its class made ready -/
def mw_code (j : Nat) : Cond := Cond.code (my j) (mcode j) (mmax j) (mret j)
def mw_inst (j : Nat) : Cond := Cond.instanceMethod (my j)
def mw_stat (j : Nat) : Cond := Cond.static (my j)
def mw_sel (j : Nat) : Cond := Cond.selects (my j).cls (my j) (my j)
def mw_init (j : Nat) : Cond := Cond.initialized (my j).cls
def is_code (o : Option Cond) : Bool := match o with | some (.code _ _ _ _) => true | _ => false
theorem is_code_ok {j : Nat} (h : is_code (lw_tbl[(mh j).2.1]?) = true) : lw_tbl[(mh j).2.1]? = some (mw_code j) := by
  unfold mw_code my mcode mmax mret me
  generalize lw_tbl[(mh j).2.1]? = o at h
  match o, h with
  | some (.code y b n r), _ => rfl
def mk_ok (j : Nat) : Bool := is_code (lw_tbl[(mh j).2.1]?) && decide (lw_tbl[(mh j).2.2.2.2.1]? = some (mw_init j)) && decide (mmax j ≤ 45) && decide (tb_RR (mcn j) = (my j).cls) && decide ((my j).cls ≠ "java/lang/invoke/MethodHandle") && decide ((my j).cls ≠ "java/lang/invoke/VarHandle") && plainName (my j).cls
def mk_v (j : Nat) : Bool := decide (lw_tbl[(mh j).2.2.1]? = some (mw_inst j)) && decide (lw_tbl[(mh j).2.2.2.1]? = some (mw_sel j)) && decide (mcn j < 13)
def mk_s (j : Nat) : Bool := decide (lw_tbl[(mh j).2.2.1]? = some (mw_stat j))
def rg (i : Nat) : List Nat := (List.range 28).map (fun k => 28 * i + k)
theorem rg_mem {i k : Nat} (h : k / 28 = i) : k ∈ rg i := List.mem_map.mpr ⟨k % 28, List.mem_range.mpr (Nat.mod_lt _ (by decide)), by omega⟩
def mk_f1 (j : Nat) : Bool := decide (13 ≤ mcn j) || mk_ok j
def mk_f2 (j : Nat) : Bool := decide (13 ≤ mcn j) || match (mh j).1 with | 0 => decide ((my j).name = "<init>") || mk_v j | _ => mk_s j
theorem mk_all_0 : ((rg 0).all mk_f1) = true := by decide +kernel
theorem mk_all_1 : ((rg 1).all mk_f1) = true := by decide +kernel
theorem mk_all_2 : ((rg 2).all mk_f1) = true := by decide +kernel
theorem mk_all_3 : ((rg 3).all mk_f1) = true := by decide +kernel
theorem mk_all_4 : ((rg 4).all mk_f1) = true := by decide +kernel
theorem mk_all_5 : ((rg 5).all mk_f1) = true := by decide +kernel
theorem mk_all_6 : ((rg 6).all mk_f1) = true := by decide +kernel
theorem mk_all_7 : ((rg 7).all mk_f1) = true := by decide +kernel
theorem mk_all_8 : ((rg 8).all mk_f1) = true := by decide +kernel
theorem mk_all : ((List.range 252).all mk_f1) = true := by
  refine List.all_eq_true.mpr fun k hk => ?_
  have hk := List.mem_range.mp hk
  have key : ∀ i, ((rg i).all mk_f1) = true → k / 28 = i → mk_f1 k = true := fun i hi e => List.all_eq_true.mp hi k (rg_mem e)
  by_cases c0 : k / 28 = 0
  · exact key _ mk_all_0 c0
  by_cases c1 : k / 28 = 1
  · exact key _ mk_all_1 c1
  by_cases c2 : k / 28 = 2
  · exact key _ mk_all_2 c2
  by_cases c3 : k / 28 = 3
  · exact key _ mk_all_3 c3
  by_cases c4 : k / 28 = 4
  · exact key _ mk_all_4 c4
  by_cases c5 : k / 28 = 5
  · exact key _ mk_all_5 c5
  by_cases c6 : k / 28 = 6
  · exact key _ mk_all_6 c6
  by_cases c7 : k / 28 = 7
  · exact key _ mk_all_7 c7
  by_cases c8 : k / 28 = 8
  · exact key _ mk_all_8 c8
  omega
theorem mk_all2_0 : ((rg 0).all mk_f2) = true := by decide +kernel
theorem mk_all2_1 : ((rg 1).all mk_f2) = true := by decide +kernel
theorem mk_all2_2 : ((rg 2).all mk_f2) = true := by decide +kernel
theorem mk_all2_3 : ((rg 3).all mk_f2) = true := by decide +kernel
theorem mk_all2_4 : ((rg 4).all mk_f2) = true := by decide +kernel
theorem mk_all2_5 : ((rg 5).all mk_f2) = true := by decide +kernel
theorem mk_all2_6 : ((rg 6).all mk_f2) = true := by decide +kernel
theorem mk_all2_7 : ((rg 7).all mk_f2) = true := by decide +kernel
theorem mk_all2_8 : ((rg 8).all mk_f2) = true := by decide +kernel
theorem mk_all2 : ((List.range 252).all mk_f2) = true := by
  refine List.all_eq_true.mpr fun k hk => ?_
  have hk := List.mem_range.mp hk
  have key : ∀ i, ((rg i).all mk_f2) = true → k / 28 = i → mk_f2 k = true := fun i hi e => List.all_eq_true.mp hi k (rg_mem e)
  by_cases c0 : k / 28 = 0
  · exact key _ mk_all2_0 c0
  by_cases c1 : k / 28 = 1
  · exact key _ mk_all2_1 c1
  by_cases c2 : k / 28 = 2
  · exact key _ mk_all2_2 c2
  by_cases c3 : k / 28 = 3
  · exact key _ mk_all2_3 c3
  by_cases c4 : k / 28 = 4
  · exact key _ mk_all2_4 c4
  by_cases c5 : k / 28 = 5
  · exact key _ mk_all2_5 c5
  by_cases c6 : k / 28 = 6
  · exact key _ mk_all2_6 c6
  by_cases c7 : k / 28 = 7
  · exact key _ mk_all2_7 c7
  by_cases c8 : k / 28 = 8
  · exact key _ mk_all2_8 c8
  omega
end
section
/-! a call's words: kind 0 an instance method, 1 a static one, 2 a static one of a nest mate -/
def ml_w (q : Nat × Nat × Nat × Nat × Nat) : Cond := Cond.methodLink (tb_RR q.1) q.2.1 (my q.2.2.1)
def mn_w (q : Nat × Nat × Nat × Nat × Nat) : Cond := Cond.methodLinkNest (tb_RR q.1) q.2.1 (my q.2.2.1) "FiveTouch"
def ct_ok (q : Nat × Nat × Nat × Nat × Nat) : Bool := match q.2.2.2.1 with
  | 0 => decide (lw_tbl[q.2.2.2.2]? = some (ml_w q))
  | 1 => decide (lw_tbl[q.2.2.2.2]? = some (ml_w q))
  | 2 => decide (lw_tbl[q.2.2.2.2]? = some (mn_w q))
  | _ => true
theorem tb_C_ok_0 : (((tb_C.drop 0).take 37).all ct_ok) = true := by decide +kernel
theorem tb_C_ok_1 : (((tb_C.drop 37).take 37).all ct_ok) = true := by decide +kernel
theorem tb_C_ok_2 : (((tb_C.drop 74).take 37).all ct_ok) = true := by decide +kernel
theorem tb_C_ok_3 : (((tb_C.drop 111).take 37).all ct_ok) = true := by decide +kernel
theorem tb_C_ok_4 : (((tb_C.drop 148).take 37).all ct_ok) = true := by decide +kernel
theorem tb_C_ok_5 : (((tb_C.drop 185).take 37).all ct_ok) = true := by decide +kernel
theorem tb_C_ok_6 : (((tb_C.drop 222).take 37).all ct_ok) = true := by decide +kernel
theorem tb_C_ok_7 : (((tb_C.drop 259).take 37).all ct_ok) = true := by decide +kernel
theorem all_cut {α : Type} {f : α → Bool} {l : List α} (n : Nat) (h1 : ((l.take n).all f) = true) (h2 : ((l.drop n).all f) = true) : (l.all f) = true := by
  rw [← List.take_append_drop n l, List.all_append, h1, h2]; rfl
theorem tb_C_ok : tb_C.all ct_ok = true := by
  have d : ∀ k, tb_C.drop (37 * k + 37) = (tb_C.drop (37 * k)).drop 37 := fun k => by rw [List.drop_drop]
  have e8 : ((tb_C.drop (37 * 7 + 37)).all ct_ok) = true := by rfl
  refine all_cut (l := tb_C) 37 tb_C_ok_0 ?_
  refine all_cut (l := tb_C.drop (37 * 1)) 37 tb_C_ok_1 ?_
  rw [← d 1]; refine all_cut (l := tb_C.drop (37 * 2)) 37 tb_C_ok_2 ?_
  rw [← d 2]; refine all_cut (l := tb_C.drop (37 * 3)) 37 tb_C_ok_3 ?_
  rw [← d 3]; refine all_cut (l := tb_C.drop (37 * 4)) 37 tb_C_ok_4 ?_
  rw [← d 4]; refine all_cut (l := tb_C.drop (37 * 5)) 37 tb_C_ok_5 ?_
  rw [← d 5]; refine all_cut (l := tb_C.drop (37 * 6)) 37 tb_C_ok_6 ?_
  rw [← d 6]; refine all_cut (l := tb_C.drop (37 * 7)) 37 tb_C_ok_7 ?_
  rw [← d 7]; exact e8
end
section
/-! the JDK's own: Integer.bitCount is method 236; Math.max, min of ints and longs are 237 .. 240 -/
theorem jk_236 : (mk_ok 236 && mk_s 236) = true := by decide +kernel
def mm_ok (j : Nat) (w : Cond) : Bool := decide (lw_tbl[(mh j).2.2.1]? = some (mw_stat j)) && decide (lw_tbl[(mh j).2.2.2.2.1]? = some (Cond.initialized "java/lang/Math")) && decide (lw_tbl[(mh j).2.1]? = some w)
def mm_w (j : Nat) : Cond := match j with
  | 237 => Cond.code Lib.Math.max.name Lib.Math.max.code 2 (some .int)
  | 238 => Cond.code Lib.MathLoose.max_long.x Lib.MathLoose.max_long.code 4 (some .long)
  | 239 => Cond.code Lib.Math.min.name Lib.Math.min.code 2 (some .int)
  | _ => Cond.code Lib.MathLoose.min_long.x Lib.MathLoose.min_long.code 4 (some .long)
theorem mm_all : ([237, 238, 239, 240].all (fun j => mm_ok j (mm_w j))) = true := by decide +kernel
theorem my_237 : my 237 = Lib.Math.max.name := by decide +kernel
theorem my_238 : my 238 = Lib.MathLoose.max_long.x := by decide +kernel
theorem my_239 : my 239 = Lib.Math.min.name := by decide +kernel
theorem my_240 : my 240 = Lib.MathLoose.min_long.x := by decide +kernel
end
section
/-! where each field's place in its class stands in the tables -/
def tb_L : List (List Nat) := [[223, 225, 227], [295, 297, 299], [237, 239, 241, 243, 245, 247], [682, 684, 686], [277, 279, 281, 283], [187, 189, 191, 193, 195, 197, 199, 201, 203, 205], [356, 358, 360], [263], [164, 166], [318, 320, 322, 324, 326, 328, 330, 332, 334, 336, 338, 340, 342, 344], [136, 138, 140, 142, 144, 146, 148, 150], [376, 378, 380, 382, 384, 386, 388, 390, 392, 394, 396, 398, 400], [1125, 1127, 1129, 1131, 1133, 1135, 1137, 1139, 1141, 1143, 1145, 1147, 1149, 1151, 1153, 1155, 1157, 1159, 1161, 1163, 1165, 1167, 1169, 1171, 1173, 1175, 1177, 1179, 1181, 1183, 1185, 1187, 1189, 1191, 1193, 1195, 1197, 1199, 1201]]
theorem tb_L_ok : ((List.range 13).all (fun ci => (List.range (tb_NN ci)).all (fun k => decide (lw_tbl[(tb_L.getD ci []).getD k 0]? = some (u_lay (tb_RR ci) (tb_TT ci) k)) && goodWord (u_lay (tb_RR ci) (tb_TT ci) k)))) = true := by decide +kernel
theorem u_in {ci : Nat} (hc : ci < 13) : ∀ w ∈ u_ws (tb_RR ci) (tb_TT ci) (tb_NN ci), w ∈ gT := by
  intro w hw
  obtain ⟨k, hk, rfl⟩ := List.mem_map.mp hw
  have h1 := List.all_eq_true.mp (List.all_eq_true.mp tb_L_ok ci (List.mem_range.mpr hc)) k hk
  simp only [Bool.and_eq_true, decide_eq_true_eq] at h1
  exact gT_of h1.1 h1.2
theorem vw_get {ci : Nat} (hc : ci < 13) : vwCl[ci]? = some (tb_RR ci, tb_TT ci, tb_NN ci) := by
  match ci, hc with
  | 0, _ => rfl
  | 1, _ => rfl
  | 2, _ => rfl
  | 3, _ => rfl
  | 4, _ => rfl
  | 5, _ => rfl
  | 6, _ => rfl
  | 7, _ => rfl
  | 8, _ => rfl
  | 9, _ => rfl
  | 10, _ => rfl
  | 11, _ => rfl
  | 12, _ => rfl
theorem tb_ty_ok {ci : Nat} (hc : ci < 13) : ∀ k, k < tb_NN ci → parseFieldDescriptor (tb_TT ci k).2.2.1 = some (tb_ty ci k) := by
  match ci, hc with
  | 0, _ => exact tyX0_ok
  | 1, _ => exact tyX1_ok
  | 2, _ => exact tyX2_ok
  | 3, _ => exact tyX3_ok
  | 4, _ => exact tyX4_ok
  | 5, _ => exact tyX5_ok
  | 6, _ => exact tyX6_ok
  | 7, _ => exact tyX7_ok
  | 8, _ => exact tyX8_ok
  | 9, _ => exact tyX9_ok
  | 10, _ => exact tyX10_ok
  | 11, _ => exact tyX11_ok
  | 12, _ => exact tyX12_ok
theorem tb_nm {ci : Nat} (hc : ci < 13) : ∀ a, a < tb_NN ci → ∀ b, b < tb_NN ci → a ≠ b → (tb_TT ci a).2.1 ≠ (tb_TT ci b).2.1 := by
  match ci, hc with
  | 0, _ => exact nmX0
  | 1, _ => exact nmX1
  | 2, _ => exact nmX2
  | 3, _ => exact nmX3
  | 4, _ => exact nmX4
  | 5, _ => exact nmX5
  | 6, _ => exact nmX6
  | 7, _ => exact nmX7
  | 8, _ => exact nmX8
  | 9, _ => exact nmX9
  | 10, _ => exact nmX10
  | 11, _ => exact nmX11
  | 12, _ => exact nmX12
theorem tb_F_use {own idx ci k hint : Nat} (h : (own, idx, ci, k, hint) ∈ tb_F) : Cond.fieldLink (tb_RR own) idx (tb_TT ci k).1 (tb_TT ci k).2.1 (tb_TT ci k).2.2.1 ∈ gT ∧ k < tb_NN ci ∧ ci < 13 := by
  have h1 := List.all_eq_true.mp tb_F_ok _ h
  simp only [Bool.and_eq_true, decide_eq_true_eq] at h1
  exact ⟨gT_of h1.1.1 rfl, h1.1.2, h1.2⟩
end
section
/-! A SMALL MACHINE OVER THE KIT: the whole heap as typed tables by cell number; E: from here the method ends with Q; M: the method's contract -/
abbrev Hp : Type := (Nat → Nat → Int32) × (Nat → Nat → Int64) × (Nat → Nat → Option Nat) × (Nat → Nat) × Nat
abbrev hI (h : Hp) (o k : Nat) : Int32 := h.1 o k
abbrev hJ (h : Hp) (o k : Nat) : Int64 := h.2.1 o k
abbrev hR (h : Hp) (o k : Nat) : Option Nat := h.2.2.1 o k
abbrev hL (h : Hp) (o : Nat) : Nat := h.2.2.2.1 o
abbrev hN (h : Hp) : Nat := h.2.2.2.2
def up2 {α : Type} (f : Nat → Nat → α) (o k : Nat) (v : α) : Nat → Nat → α := fun a b => if a = o then (if b = k then v else f a b) else f a b
def wI (h : Hp) (o k : Nat) (v : Int32) : Hp := (up2 h.1 o k v, h.2)
def wJ (h : Hp) (o k : Nat) (v : Int64) : Hp := (h.1, up2 h.2.1 o k v, h.2.2)
def wR (h : Hp) (o k : Nat) (v : Option Nat) : Hp := (h.1, h.2.1, up2 h.2.2.1 o k v, h.2.2.2)
/-- the run's constants: class numbers, slots, array classes, the script's length and ints -/
abbrev Cx : Type := (Nat → ClassId) × (Nat → Nat → Nat) × (Nat → ClassId) × Nat × (Nat → Int32)
abbrev cxD (cx : Cx) : va_G := (cx.1, cx.2.1)
abbrev cxA (cx : Cx) (k : Nat) : ClassId := cx.2.2.1 k
abbrev cxL (cx : Cx) : Nat := cx.2.2.2.1
abbrev cxX (cx : Cx) : Nat → Int32 := cx.2.2.2.2
def kd (o : Nat) : Nat := if o < 126 then ly_sk o else if (o - 126) % 3 = 0 then 3 else 20
def ln (h : Hp) (o : Nat) : Nat := if o < 126 then ly_al o else hL h o
def fv (ad : Nat → Nat) (h : Hp) (o ci k : Nat) : Value := if ly_fk ci k = true then Value.ref (ad (ly_rf o k)) else .int (hI h o k)
def fds (ad : Nat → Nat) (h : Hp) (o ci : Nat) : List Value := (List.range (tb_NN ci)).map (fv ad h o ci)
def cE (cx : Cx) (ad : Nat → Nat) (h : Hp) (o : Nat) : va_E := match kd o with
  | 20 => .inl (cxA cx 0, ln h o, .inl (hI h o))
  | 21 => .inl (cxA cx 1, ln h o, .inr (.inl (hJ h o)))
  | 22 => .inl (cxA cx 2, ln h o, .inl (hI h o))
  | 23 => .inl (cxA cx 3, ln h o, .inl (hI h o))
  | 24 => .inl (cxA cx 4, ln h o, .inr (.inr (.inr (.inr (fun k => (hR h o k).map ad)))))
  | 25 => .inl (cxA cx 5, ln h o, .inr (.inr (.inr (.inr (fun k => (hR h o k).map ad)))))
  | ci => .inr (ci, fds ad h o ci)
def cls (cx : Cx) (ad : Nat → Nat) (h : Hp) : va_W := (List.range (62 + 3 * hN h)).map (fun i => (ad (64 + i), cE cx ad h (64 + i)))
def tys (cx : Cx) : List (ClassId × FieldType) := [(cxA cx 0, .int), (cxA cx 1, .long), (cxA cx 2, .boolean), (cxA cx 3, .byte), (cxA cx 4, .object "FiveTouch$Wall"), (cxA cx 5, .object "FiveTouch$Law")]
def cv (ad : Nat → Nat) (v : Value) : Value := match v with
  | .ref i => .ref (ad i)
  | w => w
/-- the words' lengths and letters -/
def tx_len : List Nat := tb_S.map (fun q => q.2.length)
def tx_byt : List (List Int32) := tb_S.map (fun q => q.2.toList.map (fun ch => Int32.ofNat ch.toNat))
/-- what lies outside: the script, the words, the nest's links -/
def Wst (cx : Cx) (ad : Nat → Nat) (A : Nat → Prop) (U : State) (H : Heap) : Prop :=
  (va_X (ad 0) (cxL cx) (cxX cx) U H ∧ ad 0 < H.size ∧ ¬ A (ad 0)) ∧
  (vk_S 26 tx_len tx_byt (fun k => ad (1 + k)) (fun k => ad (30 + k)) A U H ∧ ∀ (k : Nat) (q : Nat × String), tb_S[k]? = some q → vk_R RX5 q.1 q.2 (ad (1 + k)) U) ∧
  (∀ q ∈ tb_C, q.2.2.2.1 = 2 → va_Nw (mn_w q) U)
def rm (d mc ms : Nat) : Room := { frames := d, cells := mc, slots := ms, locals := 64 * d }
def wsj (j : Nat) : List Cond := Cond.code (my j) (mcode j) (mmax j) (mret j) :: gT
def QQ (cx : Cx) (ad0 : Nat → Nat) (h0 : Hp) (sz : Nat) (Q : Option Value → Hp → Prop) : Array Value → State → Outcome → State → Prop := fun _ st oc t =>
  (∃ (r : Option Value) (h' : Hp) (ad' : Nat → Nat), oc = .returned (r.map (cv ad')) ∧ Q r h' ∧ hN h0 ≤ hN h' ∧ (∀ o, o < 126 + 3 * hN h0 → ad' o = ad0 o) ∧ (hN h' = hN h0 → ad' = ad0) ∧
    va_P (cxD cx) vwCl (cls cx ad' h') t.heap ∧ va_K (cxD cx) vwCl (tys cx) t ∧ va_D (va_A (cls cx ad0 h0) sz) (cls cx ad' h')) ∧ va_F (va_A (cls cx ad0 h0) sz) st t
/-- the contract of method j: with d frames, a laws to make, from the arguments vs and the heap h it returns with Q -/
def M (cx : Cx) (j d a : Nat) (vs : List Value) (h : Hp) (Q : Option Value → Hp → Prop) : Prop := ∀ (l : Launch) (ad : Nat → Nat) (sz : Nat),
  Met l (my j) (wsj j) (rm d (3 * a) (500 * a)) (va_Pc (vs.map (cv ad)) (fun U => U.heap.size = sz ∧ va_P (cxD cx) vwCl (cls cx ad h) U.heap ∧ va_K (cxD cx) vwCl (tys cx) U ∧ va_D (fun _ => True) (cls cx ad h) ∧ Wst cx ad (va_A (cls cx ad h) sz) U U.heap)) (QQ cx ad h sz Q) (3 * a) (500 * a) (va_A (cls cx ad h) sz)
/-- locals: what each slot holds, if it is known -/
abbrev Lc : Type := List (Option Value)
def lnth : Lc → Nat → Option Value
  | [], _ => none
  | x :: _, 0 => x
  | _ :: t, n + 1 => lnth t n
def lfree (x : Option Value) : Option Value := match x with
  | some (.long _) => none
  | some (.double _) => none
  | y => y
/-- a value of one slot at place i; a long whose second half that was is gone -/
def lsto : Lc → Nat → Value → Lc
  | [], _, _ => []
  | _ :: t, 0, v => some v :: t
  | x :: t, 1, v => lfree x :: lsto t 0 v
  | x :: t, n + 2, v => x :: lsto t (n + 1) v
def lst2 : Lc → Nat → Value → Lc
  | [], _, _ => []
  | _ :: t, 0, v => some v :: (match t with | [] => [] | _ :: u => none :: u)
  | x :: t, 1, v => lfree x :: lst2 t 0 v
  | x :: t, n + 2, v => x :: lst2 t (n + 1) v
def lvok (ad : Nat → Nat) (ls : Array Slot) (n : Nat) (loc : Lc) : Prop := ls.size = n ∧ lv_wf ls ∧ ∀ (i : Nat) (v : Value), lnth loc i = some v → ls[i]? = some (.val (cv ad v))
def Ec (cx : Cx) (j : Nat) (h0 h : Hp) (ad0 ad : Nat → Nat) (loc : Lc) (p : Program) (s : State) (m : MethodId) (args : Array Value) (meth : Method) (c : Code) (ls : Array Slot) (H : Heap) (locs : List Loc) : Prop :=
  (p.tables.exec = Jvm.exec ∧ c.code = mcode j ∧ meth.sig.returnType = mret j ∧ c.maxLocals = mmax j ∧ s.vm.findClass (tb_RR (mcn j)) = some m.cls ∧ (∀ w ∈ gT, w.before args s = true) ∧ meth.locks = false) ∧
  (va_K (cxD cx) vwCl (tys cx) s ∧ va_P (cxD cx) vwCl (cls cx ad h) H ∧ va_D (va_A (cls cx ad0 h0) s.heap.size) (cls cx ad h) ∧ va_S (va_A (cls cx ad0 h0) s.heap.size) s.heap H locs ∧ Wst cx ad0 (va_A (cls cx ad0 h0) s.heap.size) s s.heap) ∧
  ((∀ o, o < 126 + 3 * hN h0 → ad o = ad0 o) ∧ hN h0 ≤ hN h ∧ (hN h = hN h0 → ad = ad0)) ∧ lvok ad ls (mmax j) loc
def E (cx : Cx) (j d a pc : Nat) (loc : Lc) (st : List Value) (h : Hp) (Q : Option Value → Hp → Prop) : Prop :=
  ∀ (p : Program) (l : Launch) (e : Env) (s : State) (m : MethodId) (args : Array Value) (below : List Frame) (meth : Method) (c : Code) (h0 : Hp) (ad0 ad : Nat → Nat) (ls : Array Slot) (H : Heap) (locs : List Loc) (nc ns mc ms : Nat),
    Ec cx j h0 h ad0 ad loc p s m args meth c ls H locs → nc + 3 * a ≤ mc → ns + 500 * a ≤ ms →
    W p l e (rm d mc ms) s m args below meth c H locs nc ns (MQ below (QQ cx ad0 h0 s.heap.size Q) args s mc ms (va_A (cls cx ad0 h0) s.heap.size)) (F0 m pc ls (st.map (cv ad)))
/-! rows of the locals -/
theorem lnth_sto {loc : Lc} {i : Nat} {v : Value} : ∀ (k : Nat) (w : Value), lnth (lsto loc i v) k = some w → (k = i ∧ w = v) ∨ (k ≠ i ∧ lnth loc k = some w ∧ ¬ (k + 1 = i ∧ w.category = 2)) := by
  induction loc generalizing i with
  | nil => intro k w h; simp [lsto, lnth] at h
  | cons x t ih =>
    intro k w h
    match i, k, h with
    | 0, 0, h => left; simp [lsto, lnth] at h; exact ⟨rfl, h.symm⟩
    | 0, k + 1, h => right; simp [lsto, lnth] at h; exact ⟨by omega, by simpa [lnth] using h, by omega⟩
    | 1, 0, h =>
      right
      simp only [lsto, lnth] at h
      refine ⟨by omega, ?_, ?_⟩
      · simp only [lnth]
        match x, h with
        | some (.int _), h => exact h
        | some (.float _), h => exact h
        | some (.ref _), h => exact h
        | some .null, h => exact h
        | some (.retAddr _), h => exact h
      · rintro ⟨-, h2⟩
        match x, h with
        | some (.int _), h => cases h; cases h2
        | some (.float _), h => cases h; cases h2
        | some (.ref _), h => cases h; cases h2
        | some .null, h => cases h; cases h2
        | some (.retAddr _), h => cases h; cases h2
    | 1, k + 1, h =>
      simp only [lsto, lnth] at h
      rcases ih (i := 0) k w h with ⟨h1, h2⟩ | ⟨h1, h2, h3⟩
      · left; exact ⟨by omega, h2⟩
      · right; exact ⟨by omega, by simpa [lnth] using h2, by omega⟩
    | i + 2, 0, h => right; simp [lsto, lnth] at h; exact ⟨by omega, by simpa [lnth] using h, by omega⟩
    | i + 2, k + 1, h =>
      simp only [lsto, lnth] at h
      rcases ih (i := i + 1) k w h with ⟨h1, h2⟩ | ⟨h1, h2, h3⟩
      · left; exact ⟨by omega, h2⟩
      · right; exact ⟨by omega, by simpa [lnth] using h2, fun q => h3 ⟨by omega, q.2⟩⟩
end
section
/-! one instruction, one row: E at an instruction out of E behind it -/
section ER
variable {cx : Cx} {j d a pc : Nat} {loc : Lc} {st : List Value} {h : Hp} {Q : Option Value → Hp → Prop}
theorem e_iadd {x y : Int32} (hd : decode (mcode j) pc = .ok (.iadd, 1)) (k : E cx j d a (pc + 1) loc (.int (x + y) :: st) h Q) : E cx j d a pc loc (.int y :: .int x :: st) h Q := by
  intro p l e s m args below meth c h0 ad0 ad ls H locs nc ns mc ms hc h1 h2
  exact lv_iadd hc.1.1 hc.1.2.1 hd (k p l e s m args below meth c h0 ad0 ad ls H locs nc ns mc ms hc h1 h2)
theorem e_isub {x y : Int32} (hd : decode (mcode j) pc = .ok (.isub, 1)) (k : E cx j d a (pc + 1) loc (.int (x - y) :: st) h Q) : E cx j d a pc loc (.int y :: .int x :: st) h Q := by
  intro p l e s m args below meth c h0 ad0 ad ls H locs nc ns mc ms hc h1 h2
  exact lv_isub hc.1.1 hc.1.2.1 hd (k p l e s m args below meth c h0 ad0 ad ls H locs nc ns mc ms hc h1 h2)
theorem e_imul {x y : Int32} (hd : decode (mcode j) pc = .ok (.imul, 1)) (k : E cx j d a (pc + 1) loc (.int (x * y) :: st) h Q) : E cx j d a pc loc (.int y :: .int x :: st) h Q := by
  intro p l e s m args below meth c h0 ad0 ad ls H locs nc ns mc ms hc h1 h2
  exact lv_imul hc.1.1 hc.1.2.1 hd (k p l e s m args below meth c h0 ad0 ad ls H locs nc ns mc ms hc h1 h2)
theorem e_iand {x y : Int32} (hd : decode (mcode j) pc = .ok (.iand, 1)) (k : E cx j d a (pc + 1) loc (.int (x &&& y) :: st) h Q) : E cx j d a pc loc (.int y :: .int x :: st) h Q := by
  intro p l e s m args below meth c h0 ad0 ad ls H locs nc ns mc ms hc h1 h2
  exact lv_iand hc.1.1 hc.1.2.1 hd (k p l e s m args below meth c h0 ad0 ad ls H locs nc ns mc ms hc h1 h2)
theorem e_ior {x y : Int32} (hd : decode (mcode j) pc = .ok (.ior, 1)) (k : E cx j d a (pc + 1) loc (.int (x ||| y) :: st) h Q) : E cx j d a pc loc (.int y :: .int x :: st) h Q := by
  intro p l e s m args below meth c h0 ad0 ad ls H locs nc ns mc ms hc h1 h2
  exact lv_ior hc.1.1 hc.1.2.1 hd (k p l e s m args below meth c h0 ad0 ad ls H locs nc ns mc ms hc h1 h2)
theorem e_ixor {x y : Int32} (hd : decode (mcode j) pc = .ok (.ixor, 1)) (k : E cx j d a (pc + 1) loc (.int (x ^^^ y) :: st) h Q) : E cx j d a pc loc (.int y :: .int x :: st) h Q := by
  intro p l e s m args below meth c h0 ad0 ad ls H locs nc ns mc ms hc h1 h2
  exact lv_ixor hc.1.1 hc.1.2.1 hd (k p l e s m args below meth c h0 ad0 ad ls H locs nc ns mc ms hc h1 h2)
theorem e_ishl {x y : Int32} (hd : decode (mcode j) pc = .ok (.ishl, 1)) (k : E cx j d a (pc + 1) loc (.int (x <<< (y &&& 31)) :: st) h Q) : E cx j d a pc loc (.int y :: .int x :: st) h Q := by
  intro p l e s m args below meth c h0 ad0 ad ls H locs nc ns mc ms hc h1 h2
  exact lv_ishl hc.1.1 hc.1.2.1 hd (k p l e s m args below meth c h0 ad0 ad ls H locs nc ns mc ms hc h1 h2)
theorem e_ishr {x y : Int32} (hd : decode (mcode j) pc = .ok (.ishr, 1)) (k : E cx j d a (pc + 1) loc (.int (x >>> (y &&& 31)) :: st) h Q) : E cx j d a pc loc (.int y :: .int x :: st) h Q := by
  intro p l e s m args below meth c h0 ad0 ad ls H locs nc ns mc ms hc h1 h2
  exact lv_ishr hc.1.1 hc.1.2.1 hd (k p l e s m args below meth c h0 ad0 ad ls H locs nc ns mc ms hc h1 h2)
theorem e_iushr {x y : Int32} (hd : decode (mcode j) pc = .ok (.iushr, 1)) (k : E cx j d a (pc + 1) loc (.int ((x.toUInt32 >>> (y.toUInt32 &&& Int32.toUInt32 31)).toInt32) :: st) h Q) : E cx j d a pc loc (.int y :: .int x :: st) h Q := by
  intro p l e s m args below meth c h0 ad0 ad ls H locs nc ns mc ms hc h1 h2
  exact lv_iushr hc.1.1 hc.1.2.1 hd rfl (k p l e s m args below meth c h0 ad0 ad ls H locs nc ns mc ms hc h1 h2)
theorem e_idiv {x y : Int32} (hd : decode (mcode j) pc = .ok (.idiv, 1)) (hne : ¬ y = 0) (k : E cx j d a (pc + 1) loc (.int (x / y) :: st) h Q) : E cx j d a pc loc (.int y :: .int x :: st) h Q := by
  intro p l e s m args below meth c h0 ad0 ad ls H locs nc ns mc ms hc h1 h2
  exact lv_idiv hc.1.1 hc.1.2.1 hd hne (k p l e s m args below meth c h0 ad0 ad ls H locs nc ns mc ms hc h1 h2)
theorem e_irem {x y : Int32} (hd : decode (mcode j) pc = .ok (.irem, 1)) (hne : ¬ y = 0) (k : E cx j d a (pc + 1) loc (.int (x - x / y * y) :: st) h Q) : E cx j d a pc loc (.int y :: .int x :: st) h Q := by
  intro p l e s m args below meth c h0 ad0 ad ls H locs nc ns mc ms hc h1 h2
  exact lv_irem hc.1.1 hc.1.2.1 hd hne (k p l e s m args below meth c h0 ad0 ad ls H locs nc ns mc ms hc h1 h2)
theorem e_ineg {x : Int32} (hd : decode (mcode j) pc = .ok (.ineg, 1)) (k : E cx j d a (pc + 1) loc (.int (-x) :: st) h Q) : E cx j d a pc loc (.int x :: st) h Q := by
  intro p l e s m args below meth c h0 ad0 ad ls H locs nc ns mc ms hc h1 h2
  exact lv_ineg hc.1.1 hc.1.2.1 hd (k p l e s m args below meth c h0 ad0 ad ls H locs nc ns mc ms hc h1 h2)
theorem e_ladd {x y : Int64} (hd : decode (mcode j) pc = .ok (.ladd, 1)) (k : E cx j d a (pc + 1) loc (.long (x + y) :: st) h Q) : E cx j d a pc loc (.long y :: .long x :: st) h Q := by
  intro p l e s m args below meth c h0 ad0 ad ls H locs nc ns mc ms hc h1 h2
  exact lv_ladd hc.1.1 hc.1.2.1 hd (k p l e s m args below meth c h0 ad0 ad ls H locs nc ns mc ms hc h1 h2)
theorem e_lsub {x y : Int64} (hd : decode (mcode j) pc = .ok (.lsub, 1)) (k : E cx j d a (pc + 1) loc (.long (x - y) :: st) h Q) : E cx j d a pc loc (.long y :: .long x :: st) h Q := by
  intro p l e s m args below meth c h0 ad0 ad ls H locs nc ns mc ms hc h1 h2
  exact lv_lsub hc.1.1 hc.1.2.1 hd (k p l e s m args below meth c h0 ad0 ad ls H locs nc ns mc ms hc h1 h2)
theorem e_lmul {x y : Int64} (hd : decode (mcode j) pc = .ok (.lmul, 1)) (k : E cx j d a (pc + 1) loc (.long (x * y) :: st) h Q) : E cx j d a pc loc (.long y :: .long x :: st) h Q := by
  intro p l e s m args below meth c h0 ad0 ad ls H locs nc ns mc ms hc h1 h2
  exact lv_lmul hc.1.1 hc.1.2.1 hd (k p l e s m args below meth c h0 ad0 ad ls H locs nc ns mc ms hc h1 h2)
theorem e_land {x y : Int64} (hd : decode (mcode j) pc = .ok (.land, 1)) (k : E cx j d a (pc + 1) loc (.long (x &&& y) :: st) h Q) : E cx j d a pc loc (.long y :: .long x :: st) h Q := by
  intro p l e s m args below meth c h0 ad0 ad ls H locs nc ns mc ms hc h1 h2
  exact lv_land hc.1.1 hc.1.2.1 hd (k p l e s m args below meth c h0 ad0 ad ls H locs nc ns mc ms hc h1 h2)
theorem e_lor {x y : Int64} (hd : decode (mcode j) pc = .ok (.lor, 1)) (k : E cx j d a (pc + 1) loc (.long (x ||| y) :: st) h Q) : E cx j d a pc loc (.long y :: .long x :: st) h Q := by
  intro p l e s m args below meth c h0 ad0 ad ls H locs nc ns mc ms hc h1 h2
  exact lv_lor hc.1.1 hc.1.2.1 hd (k p l e s m args below meth c h0 ad0 ad ls H locs nc ns mc ms hc h1 h2)
theorem e_ldiv {x y : Int64} (hd : decode (mcode j) pc = .ok (.ldiv, 1)) (hne : ¬ y = 0) (k : E cx j d a (pc + 1) loc (.long (x / y) :: st) h Q) : E cx j d a pc loc (.long y :: .long x :: st) h Q := by
  intro p l e s m args below meth c h0 ad0 ad ls H locs nc ns mc ms hc h1 h2
  exact lv_ldiv hc.1.1 hc.1.2.1 hd hne (k p l e s m args below meth c h0 ad0 ad ls H locs nc ns mc ms hc h1 h2)
theorem e_lrem {x y : Int64} (hd : decode (mcode j) pc = .ok (.lrem, 1)) (hne : ¬ y = 0) (k : E cx j d a (pc + 1) loc (.long (x - x / y * y) :: st) h Q) : E cx j d a pc loc (.long y :: .long x :: st) h Q := by
  intro p l e s m args below meth c h0 ad0 ad ls H locs nc ns mc ms hc h1 h2
  exact lv_lrem hc.1.1 hc.1.2.1 hd hne (k p l e s m args below meth c h0 ad0 ad ls H locs nc ns mc ms hc h1 h2)
theorem e_lshl {x : Int64} {y : Int32} (hd : decode (mcode j) pc = .ok (.lshl, 1)) (k : E cx j d a (pc + 1) loc (.long (x <<< (y.toInt64 &&& 63)) :: st) h Q) : E cx j d a pc loc (.int y :: .long x :: st) h Q := by
  intro p l e s m args below meth c h0 ad0 ad ls H locs nc ns mc ms hc h1 h2
  exact lv_lshl hc.1.1 hc.1.2.1 hd rfl (k p l e s m args below meth c h0 ad0 ad ls H locs nc ns mc ms hc h1 h2)
theorem e_lshr {x : Int64} {y : Int32} (hd : decode (mcode j) pc = .ok (.lshr, 1)) (k : E cx j d a (pc + 1) loc (.long (x >>> (y.toInt64 &&& 63)) :: st) h Q) : E cx j d a pc loc (.int y :: .long x :: st) h Q := by
  intro p l e s m args below meth c h0 ad0 ad ls H locs nc ns mc ms hc h1 h2
  exact lv_lshr hc.1.1 hc.1.2.1 hd rfl (k p l e s m args below meth c h0 ad0 ad ls H locs nc ns mc ms hc h1 h2)
theorem e_lcmp {x y : Int64} (hd : decode (mcode j) pc = .ok (.lcmp, 1)) (k : E cx j d a (pc + 1) loc (.int (lg_cmp x y) :: st) h Q) : E cx j d a pc loc (.long y :: .long x :: st) h Q := by
  intro p l e s m args below meth c h0 ad0 ad ls H locs nc ns mc ms hc h1 h2
  exact W.lcmp hc.1.1 hc.1.2.1 hd (k p l e s m args below meth c h0 ad0 ad ls H locs nc ns mc ms hc h1 h2)
theorem e_i2l {x : Int32} (hd : decode (mcode j) pc = .ok (.i2l, 1)) (k : E cx j d a (pc + 1) loc (.long x.toInt64 :: st) h Q) : E cx j d a pc loc (.int x :: st) h Q := by
  intro p l e s m args below meth c h0 ad0 ad ls H locs nc ns mc ms hc h1 h2
  exact lv_i2l hc.1.1 hc.1.2.1 hd rfl (k p l e s m args below meth c h0 ad0 ad ls H locs nc ns mc ms hc h1 h2)
theorem e_l2i {x : Int64} (hd : decode (mcode j) pc = .ok (.l2i, 1)) (k : E cx j d a (pc + 1) loc (.int x.toInt32 :: st) h Q) : E cx j d a pc loc (.long x :: st) h Q := by
  intro p l e s m args below meth c h0 ad0 ad ls H locs nc ns mc ms hc h1 h2
  exact lv_l2i hc.1.1 hc.1.2.1 hd rfl (k p l e s m args below meth c h0 ad0 ad ls H locs nc ns mc ms hc h1 h2)
theorem e_i2b {x : Int32} (hd : decode (mcode j) pc = .ok (.i2b, 1)) (k : E cx j d a (pc + 1) loc (.int x.toInt8.toInt32 :: st) h Q) : E cx j d a pc loc (.int x :: st) h Q := by
  intro p l e s m args below meth c h0 ad0 ad ls H locs nc ns mc ms hc h1 h2
  exact lv_i2b hc.1.1 hc.1.2.1 hd rfl (k p l e s m args below meth c h0 ad0 ad ls H locs nc ns mc ms hc h1 h2)
theorem cv_cat (ad : Nat → Nat) (v : Value) : (cv ad v).category = v.category := by cases v <;> rfl
theorem e_dup {v : Value} (hd : decode (mcode j) pc = .ok (.dup, 1)) (hv : v.category = 1) (k : E cx j d a (pc + 1) loc (v :: v :: st) h Q) : E cx j d a pc loc (v :: st) h Q := by
  intro p l e s m args below meth c h0 ad0 ad ls H locs nc ns mc ms hc h1 h2
  exact lv_dup hc.1.1 hc.1.2.1 hd ((cv_cat ad v).trans hv) (k p l e s m args below meth c h0 ad0 ad ls H locs nc ns mc ms hc h1 h2)
theorem e_dup2 {v w : Value} (hd : decode (mcode j) pc = .ok (.dup2, 1)) (hv : v.category = 1) (hw : w.category = 1) (k : E cx j d a (pc + 1) loc (v :: w :: v :: w :: st) h Q) : E cx j d a pc loc (v :: w :: st) h Q := by
  intro p l e s m args below meth c h0 ad0 ad ls H locs nc ns mc ms hc h1 h2
  exact lv_dup2_11 hc.1.1 hc.1.2.1 hd ((cv_cat ad v).trans hv) ((cv_cat ad w).trans hw) (k p l e s m args below meth c h0 ad0 ad ls H locs nc ns mc ms hc h1 h2)
theorem e_pop {v : Value} (hd : decode (mcode j) pc = .ok (.pop, 1)) (hv : v.category = 1) (k : E cx j d a (pc + 1) loc (st) h Q) : E cx j d a pc loc (v :: st) h Q := by
  intro p l e s m args below meth c h0 ad0 ad ls H locs nc ns mc ms hc h1 h2
  exact lv_pop hc.1.1 hc.1.2.1 hd ((cv_cat ad v).trans hv) (k p l e s m args below meth c h0 ad0 ad ls H locs nc ns mc ms hc h1 h2)
theorem e_iconst {n : Int} {v : Int32} (hd : decode (mcode j) pc = .ok (.iconst n, 1)) (hv : Int32.ofInt n = v) (k : E cx j d a (pc + 1) loc (.int v :: st) h Q) : E cx j d a pc loc (st) h Q := by
  intro p l e s m args below meth c h0 ad0 ad ls H locs nc ns mc ms hc h1 h2
  exact lv_iconst hc.1.1 hc.1.2.1 hd hv (k p l e s m args below meth c h0 ad0 ad ls H locs nc ns mc ms hc h1 h2)
theorem e_bipush {n : Int} {v : Int32} (hd : decode (mcode j) pc = .ok (.bipush n, 2)) (hv : (Int8.ofInt n).toInt32 = v) (k : E cx j d a (pc + 2) loc (.int v :: st) h Q) : E cx j d a pc loc (st) h Q := by
  intro p l e s m args below meth c h0 ad0 ad ls H locs nc ns mc ms hc h1 h2
  exact lv_bipush hc.1.1 hc.1.2.1 hd hv (k p l e s m args below meth c h0 ad0 ad ls H locs nc ns mc ms hc h1 h2)
theorem e_sipush {n : Int} {v : Int32} (hd : decode (mcode j) pc = .ok (.sipush n, 3)) (hv : (Int16.ofInt n).toInt32 = v) (k : E cx j d a (pc + 3) loc (.int v :: st) h Q) : E cx j d a pc loc (st) h Q := by
  intro p l e s m args below meth c h0 ad0 ad ls H locs nc ns mc ms hc h1 h2
  exact lv_sipush hc.1.1 hc.1.2.1 hd hv (k p l e s m args below meth c h0 ad0 ad ls H locs nc ns mc ms hc h1 h2)
theorem e_lconst {n : Fin 2} {v : Int64} (hd : decode (mcode j) pc = .ok (.lconst n, 1)) (hv : Int64.ofNat (n : Nat) = v) (k : E cx j d a (pc + 1) loc (.long v :: st) h Q) : E cx j d a pc loc (st) h Q := by
  intro p l e s m args below meth c h0 ad0 ad ls H locs nc ns mc ms hc h1 h2
  exact lv_lconst hc.1.1 hc.1.2.1 hd hv (k p l e s m args below meth c h0 ad0 ad ls H locs nc ns mc ms hc h1 h2)
theorem e_null (hd : decode (mcode j) pc = .ok (.aconst_null, 1)) (k : E cx j d a (pc + 1) loc (.null :: st) h Q) : E cx j d a pc loc (st) h Q := by
  intro p l e s m args below meth c h0 ad0 ad ls H locs nc ns mc ms hc h1 h2
  exact lv_null hc.1.1 hc.1.2.1 hd (k p l e s m args below meth c h0 ad0 ad ls H locs nc ns mc ms hc h1 h2)
theorem e_iload_n {n : Fin 4} {x : Int32} (hd : decode (mcode j) pc = .ok (.iload_n n, 1)) (hl : lnth loc n = some (.int x)) (k : E cx j d a (pc + 1) loc (.int x :: st) h Q) : E cx j d a pc loc (st) h Q := by
  intro p l e s m args below meth c h0 ad0 ad ls H locs nc ns mc ms hc h1 h2
  exact lv_iload_n hc.1.1 hc.1.2.1 hd rfl (hc.2.2.2.2.2 _ _ hl) (k p l e s m args below meth c h0 ad0 ad ls H locs nc ns mc ms hc h1 h2)
theorem e_iload {i : Nat} {x : Int32} (hd : decode (mcode j) pc = .ok (.iload i, 2)) (hl : lnth loc i = some (.int x)) (k : E cx j d a (pc + 2) loc (.int x :: st) h Q) : E cx j d a pc loc (st) h Q := by
  intro p l e s m args below meth c h0 ad0 ad ls H locs nc ns mc ms hc h1 h2
  exact lv_iload hc.1.1 hc.1.2.1 hd (hc.2.2.2.2.2 _ _ hl) (k p l e s m args below meth c h0 ad0 ad ls H locs nc ns mc ms hc h1 h2)
theorem e_lload_n {n : Fin 4} {x : Int64} (hd : decode (mcode j) pc = .ok (.lload_n n, 1)) (hl : lnth loc n = some (.long x)) (k : E cx j d a (pc + 1) loc (.long x :: st) h Q) : E cx j d a pc loc (st) h Q := by
  intro p l e s m args below meth c h0 ad0 ad ls H locs nc ns mc ms hc h1 h2
  exact lv_lload_n hc.1.1 hc.1.2.1 hd rfl (hc.2.2.2.2.2 _ _ hl) (k p l e s m args below meth c h0 ad0 ad ls H locs nc ns mc ms hc h1 h2)
theorem e_lload {i : Nat} {x : Int64} (hd : decode (mcode j) pc = .ok (.lload i, 2)) (hl : lnth loc i = some (.long x)) (k : E cx j d a (pc + 2) loc (.long x :: st) h Q) : E cx j d a pc loc (st) h Q := by
  intro p l e s m args below meth c h0 ad0 ad ls H locs nc ns mc ms hc h1 h2
  exact lv_lload hc.1.1 hc.1.2.1 hd (hc.2.2.2.2.2 _ _ hl) (k p l e s m args below meth c h0 ad0 ad ls H locs nc ns mc ms hc h1 h2)
theorem e_aload_n {n : Fin 4} {x : Nat} (hd : decode (mcode j) pc = .ok (.aload_n n, 1)) (hl : lnth loc n = some (.ref x)) (k : E cx j d a (pc + 1) loc (.ref x :: st) h Q) : E cx j d a pc loc (st) h Q := by
  intro p l e s m args below meth c h0 ad0 ad ls H locs nc ns mc ms hc h1 h2
  exact lv_aload_n hc.1.1 hc.1.2.1 hd rfl (hc.2.2.2.2.2 _ _ hl) (k p l e s m args below meth c h0 ad0 ad ls H locs nc ns mc ms hc h1 h2)
theorem e_aload {i : Nat} {x : Nat} (hd : decode (mcode j) pc = .ok (.aload i, 2)) (hl : lnth loc i = some (.ref x)) (k : E cx j d a (pc + 2) loc (.ref x :: st) h Q) : E cx j d a pc loc (st) h Q := by
  intro p l e s m args below meth c h0 ad0 ad ls H locs nc ns mc ms hc h1 h2
  exact lv_aload hc.1.1 hc.1.2.1 hd (hc.2.2.2.2.2 _ _ hl) (k p l e s m args below meth c h0 ad0 ad ls H locs nc ns mc ms hc h1 h2)
theorem e_aload_nN {n : Fin 4} (hd : decode (mcode j) pc = .ok (.aload_n n, 1)) (hl : lnth loc n = some .null) (k : E cx j d a (pc + 1) loc (.null :: st) h Q) : E cx j d a pc loc (st) h Q := by
  intro p l e s m args below meth c h0 ad0 ad ls H locs nc ns mc ms hc h1 h2
  exact lv_aload_nN hc.1.1 hc.1.2.1 hd rfl (hc.2.2.2.2.2 _ _ hl) (k p l e s m args below meth c h0 ad0 ad ls H locs nc ns mc ms hc h1 h2)
theorem e_aloadN {i : Nat} (hd : decode (mcode j) pc = .ok (.aload i, 2)) (hl : lnth loc i = some .null) (k : E cx j d a (pc + 2) loc (.null :: st) h Q) : E cx j d a pc loc (st) h Q := by
  intro p l e s m args below meth c h0 ad0 ad ls H locs nc ns mc ms hc h1 h2
  exact lv_aloadN hc.1.1 hc.1.2.1 hd (hc.2.2.2.2.2 _ _ hl) (k p l e s m args below meth c h0 ad0 ad ls H locs nc ns mc ms hc h1 h2)
theorem e_if_eq {x : Int32} {off : Int} {tgt : Nat} (hd : decode (mcode j) pc = .ok (.ifCond .eq off, 3)) (ht : (pc : Int) + off = (tgt : Int)) (kt : x = 0 → E cx j d a tgt loc st h Q) (kf : ¬ (x = 0) → E cx j d a (pc + 3) loc st h Q) : E cx j d a pc loc (.int x :: st) h Q := by
  intro p l e s m args below meth c h0 ad0 ad ls H locs nc ns mc ms hc h1 h2
  exact lv_if_eq hc.1.1 hc.1.2.1 hd ht (fun q => kt q p l e s m args below meth c h0 ad0 ad ls H locs nc ns mc ms hc h1 h2) (fun q => kf q p l e s m args below meth c h0 ad0 ad ls H locs nc ns mc ms hc h1 h2)
theorem e_if_ne {x : Int32} {off : Int} {tgt : Nat} (hd : decode (mcode j) pc = .ok (.ifCond .ne off, 3)) (ht : (pc : Int) + off = (tgt : Int)) (kt : ¬ x = 0 → E cx j d a tgt loc st h Q) (kf : x = 0 → E cx j d a (pc + 3) loc st h Q) : E cx j d a pc loc (.int x :: st) h Q := by
  intro p l e s m args below meth c h0 ad0 ad ls H locs nc ns mc ms hc h1 h2
  exact lv_if_ne hc.1.1 hc.1.2.1 hd ht (fun q => kt q p l e s m args below meth c h0 ad0 ad ls H locs nc ns mc ms hc h1 h2) (fun q => kf q p l e s m args below meth c h0 ad0 ad ls H locs nc ns mc ms hc h1 h2)
theorem e_if_lt {x : Int32} {off : Int} {tgt : Nat} (hd : decode (mcode j) pc = .ok (.ifCond .lt off, 3)) (ht : (pc : Int) + off = (tgt : Int)) (kt : x < 0 → E cx j d a tgt loc st h Q) (kf : ¬ (x < 0) → E cx j d a (pc + 3) loc st h Q) : E cx j d a pc loc (.int x :: st) h Q := by
  intro p l e s m args below meth c h0 ad0 ad ls H locs nc ns mc ms hc h1 h2
  exact lv_if_lt hc.1.1 hc.1.2.1 hd ht (fun q => kt q p l e s m args below meth c h0 ad0 ad ls H locs nc ns mc ms hc h1 h2) (fun q => kf q p l e s m args below meth c h0 ad0 ad ls H locs nc ns mc ms hc h1 h2)
theorem e_if_ge {x : Int32} {off : Int} {tgt : Nat} (hd : decode (mcode j) pc = .ok (.ifCond .ge off, 3)) (ht : (pc : Int) + off = (tgt : Int)) (kt : 0 ≤ x → E cx j d a tgt loc st h Q) (kf : ¬ (0 ≤ x) → E cx j d a (pc + 3) loc st h Q) : E cx j d a pc loc (.int x :: st) h Q := by
  intro p l e s m args below meth c h0 ad0 ad ls H locs nc ns mc ms hc h1 h2
  exact lv_if_ge hc.1.1 hc.1.2.1 hd ht (fun q => kt q p l e s m args below meth c h0 ad0 ad ls H locs nc ns mc ms hc h1 h2) (fun q => kf q p l e s m args below meth c h0 ad0 ad ls H locs nc ns mc ms hc h1 h2)
theorem e_if_gt {x : Int32} {off : Int} {tgt : Nat} (hd : decode (mcode j) pc = .ok (.ifCond .gt off, 3)) (ht : (pc : Int) + off = (tgt : Int)) (kt : 0 < x → E cx j d a tgt loc st h Q) (kf : ¬ (0 < x) → E cx j d a (pc + 3) loc st h Q) : E cx j d a pc loc (.int x :: st) h Q := by
  intro p l e s m args below meth c h0 ad0 ad ls H locs nc ns mc ms hc h1 h2
  exact lv_if_gt hc.1.1 hc.1.2.1 hd ht (fun q => kt q p l e s m args below meth c h0 ad0 ad ls H locs nc ns mc ms hc h1 h2) (fun q => kf q p l e s m args below meth c h0 ad0 ad ls H locs nc ns mc ms hc h1 h2)
theorem e_if_le {x : Int32} {off : Int} {tgt : Nat} (hd : decode (mcode j) pc = .ok (.ifCond .le off, 3)) (ht : (pc : Int) + off = (tgt : Int)) (kt : x ≤ 0 → E cx j d a tgt loc st h Q) (kf : ¬ (x ≤ 0) → E cx j d a (pc + 3) loc st h Q) : E cx j d a pc loc (.int x :: st) h Q := by
  intro p l e s m args below meth c h0 ad0 ad ls H locs nc ns mc ms hc h1 h2
  exact lv_if_le hc.1.1 hc.1.2.1 hd ht (fun q => kt q p l e s m args below meth c h0 ad0 ad ls H locs nc ns mc ms hc h1 h2) (fun q => kf q p l e s m args below meth c h0 ad0 ad ls H locs nc ns mc ms hc h1 h2)
theorem e_icmp_eq {x y : Int32} {off : Int} {tgt : Nat} (hd : decode (mcode j) pc = .ok (.if_icmp .eq off, 3)) (ht : (pc : Int) + off = (tgt : Int)) (kt : x = y → E cx j d a tgt loc st h Q) (kf : ¬ (x = y) → E cx j d a (pc + 3) loc st h Q) : E cx j d a pc loc (.int y :: .int x :: st) h Q := by
  intro p l e s m args below meth c h0 ad0 ad ls H locs nc ns mc ms hc h1 h2
  exact lv_icmp_eq hc.1.1 hc.1.2.1 hd ht (fun q => kt q p l e s m args below meth c h0 ad0 ad ls H locs nc ns mc ms hc h1 h2) (fun q => kf q p l e s m args below meth c h0 ad0 ad ls H locs nc ns mc ms hc h1 h2)
theorem e_icmp_ne {x y : Int32} {off : Int} {tgt : Nat} (hd : decode (mcode j) pc = .ok (.if_icmp .ne off, 3)) (ht : (pc : Int) + off = (tgt : Int)) (kt : ¬ x = y → E cx j d a tgt loc st h Q) (kf : x = y → E cx j d a (pc + 3) loc st h Q) : E cx j d a pc loc (.int y :: .int x :: st) h Q := by
  intro p l e s m args below meth c h0 ad0 ad ls H locs nc ns mc ms hc h1 h2
  exact lv_icmp_ne hc.1.1 hc.1.2.1 hd ht (fun q => kt q p l e s m args below meth c h0 ad0 ad ls H locs nc ns mc ms hc h1 h2) (fun q => kf q p l e s m args below meth c h0 ad0 ad ls H locs nc ns mc ms hc h1 h2)
theorem e_icmp_lt {x y : Int32} {off : Int} {tgt : Nat} (hd : decode (mcode j) pc = .ok (.if_icmp .lt off, 3)) (ht : (pc : Int) + off = (tgt : Int)) (kt : x < y → E cx j d a tgt loc st h Q) (kf : ¬ (x < y) → E cx j d a (pc + 3) loc st h Q) : E cx j d a pc loc (.int y :: .int x :: st) h Q := by
  intro p l e s m args below meth c h0 ad0 ad ls H locs nc ns mc ms hc h1 h2
  exact lv_icmp_lt hc.1.1 hc.1.2.1 hd ht (fun q => kt q p l e s m args below meth c h0 ad0 ad ls H locs nc ns mc ms hc h1 h2) (fun q => kf q p l e s m args below meth c h0 ad0 ad ls H locs nc ns mc ms hc h1 h2)
theorem e_icmp_ge {x y : Int32} {off : Int} {tgt : Nat} (hd : decode (mcode j) pc = .ok (.if_icmp .ge off, 3)) (ht : (pc : Int) + off = (tgt : Int)) (kt : y ≤ x → E cx j d a tgt loc st h Q) (kf : ¬ (y ≤ x) → E cx j d a (pc + 3) loc st h Q) : E cx j d a pc loc (.int y :: .int x :: st) h Q := by
  intro p l e s m args below meth c h0 ad0 ad ls H locs nc ns mc ms hc h1 h2
  exact lv_icmp_ge hc.1.1 hc.1.2.1 hd ht (fun q => kt q p l e s m args below meth c h0 ad0 ad ls H locs nc ns mc ms hc h1 h2) (fun q => kf q p l e s m args below meth c h0 ad0 ad ls H locs nc ns mc ms hc h1 h2)
theorem e_icmp_gt {x y : Int32} {off : Int} {tgt : Nat} (hd : decode (mcode j) pc = .ok (.if_icmp .gt off, 3)) (ht : (pc : Int) + off = (tgt : Int)) (kt : y < x → E cx j d a tgt loc st h Q) (kf : ¬ (y < x) → E cx j d a (pc + 3) loc st h Q) : E cx j d a pc loc (.int y :: .int x :: st) h Q := by
  intro p l e s m args below meth c h0 ad0 ad ls H locs nc ns mc ms hc h1 h2
  exact lv_icmp_gt hc.1.1 hc.1.2.1 hd ht (fun q => kt q p l e s m args below meth c h0 ad0 ad ls H locs nc ns mc ms hc h1 h2) (fun q => kf q p l e s m args below meth c h0 ad0 ad ls H locs nc ns mc ms hc h1 h2)
theorem e_icmp_le {x y : Int32} {off : Int} {tgt : Nat} (hd : decode (mcode j) pc = .ok (.if_icmp .le off, 3)) (ht : (pc : Int) + off = (tgt : Int)) (kt : x ≤ y → E cx j d a tgt loc st h Q) (kf : ¬ (x ≤ y) → E cx j d a (pc + 3) loc st h Q) : E cx j d a pc loc (.int y :: .int x :: st) h Q := by
  intro p l e s m args below meth c h0 ad0 ad ls H locs nc ns mc ms hc h1 h2
  exact lv_icmp_le hc.1.1 hc.1.2.1 hd ht (fun q => kt q p l e s m args below meth c h0 ad0 ad ls H locs nc ns mc ms hc h1 h2) (fun q => kf q p l e s m args below meth c h0 ad0 ad ls H locs nc ns mc ms hc h1 h2)
theorem e_goto {off : Int} {tgt : Nat} (hd : decode (mcode j) pc = .ok (.goto off, 3)) (ht : (pc : Int) + off = (tgt : Int)) (k : E cx j d a tgt loc st h Q) : E cx j d a pc loc st h Q := by
  intro p l e s m args below meth c h0 ad0 ad ls H locs nc ns mc ms hc h1 h2
  exact lv_goto hc.1.1 hc.1.2.1 hd ht (k p l e s m args below meth c h0 ad0 ad ls H locs nc ns mc ms hc h1 h2)
theorem e_ifnull {x : Nat} {off : Int} (hd : decode (mcode j) pc = .ok (.ifnull off, 3)) (k : E cx j d a (pc + 3) loc st h Q) : E cx j d a pc loc (.ref x :: st) h Q := by
  intro p l e s m args below meth c h0 ad0 ad ls H locs nc ns mc ms hc h1 h2
  exact lv_ifnull hc.1.1 hc.1.2.1 hd (k p l e s m args below meth c h0 ad0 ad ls H locs nc ns mc ms hc h1 h2)
theorem e_ifnullN {off : Int} {tgt : Nat} (hd : decode (mcode j) pc = .ok (.ifnull off, 3)) (ht : (pc : Int) + off = (tgt : Int)) (k : E cx j d a tgt loc st h Q) : E cx j d a pc loc (.null :: st) h Q := by
  intro p l e s m args below meth c h0 ad0 ad ls H locs nc ns mc ms hc h1 h2
  exact lv_ifnullN hc.1.1 hc.1.2.1 hd ht (k p l e s m args below meth c h0 ad0 ad ls H locs nc ns mc ms hc h1 h2)
theorem e_ifnonnull {x : Nat} {off : Int} {tgt : Nat} (hd : decode (mcode j) pc = .ok (.ifnonnull off, 3)) (ht : (pc : Int) + off = (tgt : Int)) (k : E cx j d a tgt loc st h Q) : E cx j d a pc loc (.ref x :: st) h Q := by
  intro p l e s m args below meth c h0 ad0 ad ls H locs nc ns mc ms hc h1 h2
  exact lv_ifnonnull hc.1.1 hc.1.2.1 hd ht (k p l e s m args below meth c h0 ad0 ad ls H locs nc ns mc ms hc h1 h2)
theorem e_ifnonnullN {off : Int} (hd : decode (mcode j) pc = .ok (.ifnonnull off, 3)) (k : E cx j d a (pc + 3) loc st h Q) : E cx j d a pc loc (.null :: st) h Q := by
  intro p l e s m args below meth c h0 ad0 ad ls H locs nc ns mc ms hc h1 h2
  exact lv_ifnonnullN hc.1.1 hc.1.2.1 hd (k p l e s m args below meth c h0 ad0 ad ls H locs nc ns mc ms hc h1 h2)
theorem e_table {dflt lo hi : Int} {offs : Array Int} {len : Nat} {x : Int32} (hd : decode (mcode j) pc = .ok (.tableswitch dflt lo hi offs, len)) {dt : Nat} (hdt : (pc : Int) + dflt = (dt : Int)) (tg : Nat → Nat) (htg : ∀ i : Nat, (i : Int) ≤ hi - lo → ∃ off, offs[i]? = some off ∧ (pc : Int) + off = (tg i : Int)) (ko : (x.toInt < lo ∨ hi < x.toInt) → E cx j d a dt loc st h Q) (ki : ∀ i : Nat, x.toInt = lo + i → (i : Int) ≤ hi - lo → E cx j d a (tg i) loc st h Q) : E cx j d a pc loc (.int x :: st) h Q := by
  intro p l e s m args below meth c h0 ad0 ad ls H locs nc ns mc ms hc h1 h2
  by_cases q1 : x.toInt < lo
  · exact lv_tableOut hc.1.1 hc.1.2.1 hd (Or.inl q1) hdt (ko (Or.inl q1) p l e s m args below meth c h0 ad0 ad ls H locs nc ns mc ms hc h1 h2)
  by_cases q2 : hi < x.toInt
  · exact lv_tableOut hc.1.1 hc.1.2.1 hd (Or.inr q2) hdt (ko (Or.inr q2) p l e s m args below meth c h0 ad0 ad ls H locs nc ns mc ms hc h1 h2)
  have q3 : (((x.toInt - lo).toNat : Nat) : Int) = x.toInt - lo := Int.toNat_of_nonneg (by omega)
  obtain ⟨off, o1, o2⟩ := htg (x.toInt - lo).toNat (by omega)
  exact lv_tableIn hc.1.1 hc.1.2.1 hd q1 q2 o1 o2 (ki (x.toInt - lo).toNat (by omega) (by omega) p l e s m args below meth c h0 ad0 ad ls H locs nc ns mc ms hc h1 h2)
/-- all that is known of the locals, as the kit's list -/
def lcl (ad : Nat → Nat) (loc : Lc) : List (Nat × Value) := (List.range loc.length).filterMap (fun i => (lnth loc i).map (fun v => (i, cv ad v)))
theorem lnth_lt {loc : Lc} {i : Nat} {v : Value} (q : lnth loc i = some v) : i < loc.length := by
  induction loc generalizing i with
  | nil => simp [lnth] at q
  | cons x t ih =>
    match i, q with
    | 0, _ => simp
    | i + 1, q => simp only [List.length_cons]; have := ih (i := i) (by simpa [lnth] using q); omega
theorem mem_lcl {ad : Nat → Nat} {loc : Lc} {q : Nat × Value} : q ∈ lcl ad loc ↔ ∃ v, lnth loc q.1 = some v ∧ q.2 = cv ad v := by
  unfold lcl
  rw [List.mem_filterMap]
  constructor
  · rintro ⟨i, -, hi⟩
    match hv : lnth loc i, hi with
    | some v, hi => simp at hi; subst hi; exact ⟨v, hv, rfl⟩
  · rintro ⟨v, hv, e⟩
    exact ⟨q.1, List.mem_range.mpr (lnth_lt hv), by rw [hv]; simp [← e]⟩
theorem lvok_has {ad : Nat → Nat} {ls : Array Slot} {n : Nat} {loc : Lc} (q : lvok ad ls n loc) : lv_has ls n (lcl ad loc) := ⟨q.1, q.2.1, fun z hz => by
  obtain ⟨v, hv, e⟩ := mem_lcl.mp hz
  rw [e]; exact q.2.2 _ _ hv⟩
theorem lvok_sto {ad : Nat → Nat} {ls : Array Slot} {n i : Nat} {loc : Lc} {v : Value} (q : lv_has ls n ((i, cv ad v) :: (lcl ad loc).filter (fun q => !(q.1 == i) && !(q.1 + 1 == i && q.2.category == 2)))) : lvok ad ls n (lsto loc i v) := by
  refine ⟨q.1, q.2.1, fun k w hw => ?_⟩
  rcases lnth_sto k w hw with ⟨rfl, rfl⟩ | ⟨h1, h2, h3⟩
  · exact q.2.2 _ List.mem_cons_self
  · refine q.2.2 (k, cv ad w) (List.mem_cons_of_mem _ (List.mem_filter.mpr ⟨mem_lcl.mpr ⟨w, h2, rfl⟩, ?_⟩))
    simp only [cv_cat]
    by_cases g1 : k + 1 = i
    · have g2 : w.category ≠ 2 := fun z => h3 ⟨g1, z⟩
      simp [h1, g2]
    · simp [h1, g1]
theorem e_istore_n {n : Fin 4} {x : Int32} (hd : decode (mcode j) pc = .ok (.istore_n n, 1)) (hn : (n : Nat) < mmax j) (k : E cx j d a (pc + 1) (lsto loc n (.int x)) st h Q) : E cx j d a pc loc (.int x :: st) h Q := by
  intro p l e s m args below meth c h0 ad0 ad ls H locs nc ns mc ms hc h1 h2
  exact lv_istore_n hc.1.1 hc.1.2.1 hd rfl (lvok_has hc.2.2.2) hn rfl (fun ls hl => k p l e s m args below meth c h0 ad0 ad ls H locs nc ns mc ms ⟨hc.1, hc.2.1, hc.2.2.1, lvok_sto hl⟩ h1 h2)
theorem e_istore {i : Nat} {x : Int32} (hd : decode (mcode j) pc = .ok (.istore i, 2)) (hn : i < mmax j) (k : E cx j d a (pc + 2) (lsto loc i (.int x)) st h Q) : E cx j d a pc loc (.int x :: st) h Q := by
  intro p l e s m args below meth c h0 ad0 ad ls H locs nc ns mc ms hc h1 h2
  exact lv_istore hc.1.1 hc.1.2.1 hd (lvok_has hc.2.2.2) hn rfl (fun ls hl => k p l e s m args below meth c h0 ad0 ad ls H locs nc ns mc ms ⟨hc.1, hc.2.1, hc.2.2.1, lvok_sto hl⟩ h1 h2)
theorem e_astore_n {n : Fin 4} {x : Nat} (hd : decode (mcode j) pc = .ok (.astore_n n, 1)) (hn : (n : Nat) < mmax j) (k : E cx j d a (pc + 1) (lsto loc n (.ref x)) st h Q) : E cx j d a pc loc (.ref x :: st) h Q := by
  intro p l e s m args below meth c h0 ad0 ad ls H locs nc ns mc ms hc h1 h2
  exact lv_astore_n hc.1.1 hc.1.2.1 hd rfl (lvok_has hc.2.2.2) hn rfl (fun ls hl => k p l e s m args below meth c h0 ad0 ad ls H locs nc ns mc ms ⟨hc.1, hc.2.1, hc.2.2.1, lvok_sto hl⟩ h1 h2)
theorem e_astore {i : Nat} {x : Nat} (hd : decode (mcode j) pc = .ok (.astore i, 2)) (hn : i < mmax j) (k : E cx j d a (pc + 2) (lsto loc i (.ref x)) st h Q) : E cx j d a pc loc (.ref x :: st) h Q := by
  intro p l e s m args below meth c h0 ad0 ad ls H locs nc ns mc ms hc h1 h2
  exact lv_astore hc.1.1 hc.1.2.1 hd (lvok_has hc.2.2.2) hn rfl (fun ls hl => k p l e s m args below meth c h0 ad0 ad ls H locs nc ns mc ms ⟨hc.1, hc.2.1, hc.2.2.1, lvok_sto hl⟩ h1 h2)
theorem e_astore_nN {n : Fin 4} (hd : decode (mcode j) pc = .ok (.astore_n n, 1)) (hn : (n : Nat) < mmax j) (k : E cx j d a (pc + 1) (lsto loc n (.null)) st h Q) : E cx j d a pc loc (.null :: st) h Q := by
  intro p l e s m args below meth c h0 ad0 ad ls H locs nc ns mc ms hc h1 h2
  exact lv_astore_nN hc.1.1 hc.1.2.1 hd rfl (lvok_has hc.2.2.2) hn rfl (fun ls hl => k p l e s m args below meth c h0 ad0 ad ls H locs nc ns mc ms ⟨hc.1, hc.2.1, hc.2.2.1, lvok_sto hl⟩ h1 h2)
theorem e_astoreN {i : Nat} (hd : decode (mcode j) pc = .ok (.astore i, 2)) (hn : i < mmax j) (k : E cx j d a (pc + 2) (lsto loc i (.null)) st h Q) : E cx j d a pc loc (.null :: st) h Q := by
  intro p l e s m args below meth c h0 ad0 ad ls H locs nc ns mc ms hc h1 h2
  exact lv_astoreN hc.1.1 hc.1.2.1 hd (lvok_has hc.2.2.2) hn rfl (fun ls hl => k p l e s m args below meth c h0 ad0 ad ls H locs nc ns mc ms ⟨hc.1, hc.2.1, hc.2.2.1, lvok_sto hl⟩ h1 h2)
theorem e_iinc {i : Nat} {n : Int} {x v : Int32} (hd : decode (mcode j) pc = .ok (.iinc i n, 3)) (hn : i < mmax j) (hx : lnth loc i = some (.int x)) (hv : x + Int32.ofInt n = v) (k : E cx j d a (pc + 3) (lsto loc i (.int v)) st h Q) : E cx j d a pc loc st h Q := by
  intro p l e s m args below meth c h0 ad0 ad ls H locs nc ns mc ms hc h1 h2
  obtain ⟨k0, hk0⟩ := List.getElem?_of_mem (mem_lcl (ad := ad) (q := (i, .int x)) |>.mpr ⟨.int x, hx, rfl⟩)
  exact lv_iinc hc.1.1 hc.1.2.1 hd (lvok_has hc.2.2.2) hk0 hv hn rfl (fun ls hl => k p l e s m args below meth c h0 ad0 ad ls H locs nc ns mc ms ⟨hc.1, hc.2.1, hc.2.2.1, lvok_sto hl⟩ h1 h2)
theorem lnth_st2 {loc : Lc} {i : Nat} {v : Value} : ∀ (k : Nat) (w : Value), lnth (lst2 loc i v) k = some w → (k = i ∧ w = v) ∨ (k ≠ i ∧ k ≠ i + 1 ∧ lnth loc k = some w ∧ ¬ (k + 1 = i ∧ w.category = 2)) := by
  induction loc generalizing i with
  | nil => intro k w h; simp [lst2, lnth] at h
  | cons x t ih =>
    intro k w h
    match i, k, h with
    | 0, 0, h => left; simp [lst2, lnth] at h; exact ⟨rfl, h.symm⟩
    | 0, 1, h => match t, h with
      | [], h => simp [lst2, lnth] at h
      | _ :: u, h => simp [lst2, lnth] at h
    | 0, k + 2, h => match t, h with
      | [], h => simp [lst2, lnth] at h
      | _ :: u, h => right; simp [lst2, lnth] at h; exact ⟨by omega, by omega, by simpa [lnth] using h, by omega⟩
    | 1, 0, h =>
      right
      simp only [lst2, lnth] at h
      refine ⟨by omega, by omega, ?_, ?_⟩
      · simp only [lnth]
        match x, h with
        | some (.int _), h => exact h
        | some (.float _), h => exact h
        | some (.ref _), h => exact h
        | some .null, h => exact h
        | some (.retAddr _), h => exact h
      · rintro ⟨-, h2⟩
        match x, h with
        | some (.int _), h => cases h; cases h2
        | some (.float _), h => cases h; cases h2
        | some (.ref _), h => cases h; cases h2
        | some .null, h => cases h; cases h2
        | some (.retAddr _), h => cases h; cases h2
    | 1, k + 1, h =>
      simp only [lst2, lnth] at h
      rcases ih (i := 0) k w h with ⟨h1, h2⟩ | ⟨h1, h2, h3, h4⟩
      · left; exact ⟨by omega, h2⟩
      · right; exact ⟨by omega, by omega, by simpa [lnth] using h3, by omega⟩
    | i + 2, 0, h => right; simp [lst2, lnth] at h; exact ⟨by omega, by omega, by simpa [lnth] using h, by omega⟩
    | i + 2, k + 1, h =>
      simp only [lst2, lnth] at h
      rcases ih (i := i + 1) k w h with ⟨h1, h2⟩ | ⟨h1, h2, h3, h4⟩
      · left; exact ⟨by omega, h2⟩
      · right; exact ⟨by omega, by omega, by simpa [lnth] using h3, fun q => h4 ⟨by omega, q.2⟩⟩
theorem lvok_st2 {ad : Nat → Nat} {ls : Array Slot} {n i : Nat} {loc : Lc} {v : Value} (q : lv_has ls n ((i, cv ad v) :: (lcl ad loc).filter (fun q => !(q.1 == i) && (!(q.1 == i + 1) && !(q.1 + 1 == i && q.2.category == 2))))) : lvok ad ls n (lst2 loc i v) := by
  refine ⟨q.1, q.2.1, fun k w hw => ?_⟩
  rcases lnth_st2 k w hw with ⟨rfl, rfl⟩ | ⟨h1, h0, h2, h3⟩
  · exact q.2.2 _ List.mem_cons_self
  · refine q.2.2 (k, cv ad w) (List.mem_cons_of_mem _ (List.mem_filter.mpr ⟨mem_lcl.mpr ⟨w, h2, rfl⟩, ?_⟩))
    simp only [cv_cat]
    by_cases g1 : k + 1 = i
    · have g2 : w.category ≠ 2 := fun z => h3 ⟨g1, z⟩
      simp [h1, h0, g2]
    · simp [h1, h0, g1]
theorem e_lstore_n {n : Fin 4} {x : Int64} (hd : decode (mcode j) pc = .ok (.lstore_n n, 1)) (hn : (n : Nat) + 1 < mmax j) (k : E cx j d a (pc + 1) (lst2 loc n (.long x)) st h Q) : E cx j d a pc loc (.long x :: st) h Q := by
  intro p l e s m args below meth c h0 ad0 ad ls H locs nc ns mc ms hc h1 h2
  exact lv_lstore_n hc.1.1 hc.1.2.1 hd rfl (lvok_has hc.2.2.2) hn rfl (fun ls hl => k p l e s m args below meth c h0 ad0 ad ls H locs nc ns mc ms ⟨hc.1, hc.2.1, hc.2.2.1, lvok_st2 hl⟩ h1 h2)
theorem e_lstore {i : Nat} {x : Int64} (hd : decode (mcode j) pc = .ok (.lstore i, 2)) (hn : i + 1 < mmax j) (k : E cx j d a (pc + 2) (lst2 loc i (.long x)) st h Q) : E cx j d a pc loc (.long x :: st) h Q := by
  intro p l e s m args below meth c h0 ad0 ad ls H locs nc ns mc ms hc h1 h2
  exact lv_lstore hc.1.1 hc.1.2.1 hd (lvok_has hc.2.2.2) hn rfl (fun ls hl => k p l e s m args below meth c h0 ad0 ad ls H locs nc ns mc ms ⟨hc.1, hc.2.1, hc.2.2.1, lvok_st2 hl⟩ h1 h2)
end ER
end
section
/-! rows that read and write the heap -/
theorem cls_get {cx : Cx} {ad : Nat → Nat} {h : Hp} {o : Nat} (h1 : 64 ≤ o) (h2 : o < 126 + 3 * hN h) : (cls cx ad h)[o - 64]? = some (ad o, cE cx ad h o) := by
  unfold cls
  rw [List.getElem?_map, List.getElem?_range (by omega)]
  simp only [Option.map_some]
  rw [show 64 + (o - 64) = o by omega]
theorem cls_len {cx : Cx} {ad : Nat → Nat} {h : Hp} : (cls cx ad h).length = 62 + 3 * hN h := by simp [cls]
/-- one cell written: the list of cells with that one set -/
theorem cls_set {cx : Cx} {ad : Nat → Nat} {h h' : Hp} {o : Nat} (h1 : 64 ≤ o) (h2 : o < 126 + 3 * hN h) (hn : hN h' = hN h) (hs : ∀ q, q ≠ o → cE cx ad h' q = cE cx ad h q) : (cls cx ad h).set (o - 64) (ad o, cE cx ad h' o) = cls cx ad h' := by
  refine List.ext_getElem? fun i => ?_
  by_cases hi : i = o - 64
  · subst hi
    rw [List.getElem?_set_self (by rw [cls_len]; omega), cls_get h1 (by rw [hn]; exact h2)]
  · rw [List.getElem?_set_ne (fun q => hi q.symm)]
    by_cases hl : i < 62 + 3 * hN h
    · have e1 := cls_get (cx := cx) (ad := ad) (h := h) (o := 64 + i) (by omega) (by omega)
      have e2 := cls_get (cx := cx) (ad := ad) (h := h') (o := 64 + i) (by omega) (by rw [hn]; omega)
      rw [show 64 + i - 64 = i by omega] at e1 e2
      rw [e1, e2, hs (64 + i) (by omega)]
    · rw [List.getElem?_eq_none (by rw [cls_len]; omega), List.getElem?_eq_none (by rw [cls_len, hn]; omega)]
theorem up2_ne {α : Type} {f : Nat → Nat → α} {o k q : Nat} {v : α} (h : q ≠ o) : up2 f o k v q = f q := by
  funext b; simp [up2, h]
theorem up2_eq {f : Nat → Nat → Int32} {o k : Nat} {v : Int32} : up2 f o k v o = upd (f o) k v := by
  funext b; simp [up2, upd]
theorem up2_eqL {f : Nat → Nat → Int64} {o k : Nat} {v : Int64} : up2 f o k v o = vp_updL (f o) k v := by
  funext b; simp [up2, vp_updL]
theorem cE_wI_ne {cx : Cx} {ad : Nat → Nat} {h : Hp} {o k q : Nat} {v : Int32} (hq : q ≠ o) : cE cx ad (wI h o k v) q = cE cx ad h q := by
  have e : (fun b => (wI h o k v).1 q b) = (fun b => h.1 q b) := by funext b; simp [wI, up2, hq]
  have e1 : ∀ b, (wI h o k v).1 q b = h.1 q b := fun b => congrFun e b
  unfold cE fds fv ln hI hJ hR hL
  simp only [wI] at e1 ⊢
  simp only [e1]
theorem cE_wJ_ne {cx : Cx} {ad : Nat → Nat} {h : Hp} {o k q : Nat} {v : Int64} (hq : q ≠ o) : cE cx ad (wJ h o k v) q = cE cx ad h q := by
  have e1 : ∀ b, (wJ h o k v).2.1 q b = h.2.1 q b := fun b => by simp [wJ, up2, hq]
  unfold cE fds fv ln hI hJ hR hL
  simp only [wJ] at e1 ⊢
  simp only [e1]
theorem cE_wR_ne {cx : Cx} {ad : Nat → Nat} {h : Hp} {o k q : Nat} {v : Option Nat} (hq : q ≠ o) : cE cx ad (wR h o k v) q = cE cx ad h q := by
  have e1 : ∀ b, (wR h o k v).2.2.1 q b = h.2.2.1 q b := fun b => by simp [wR, up2, hq]
  unfold cE fds fv ln hI hJ hR hL
  simp only [wR] at e1 ⊢
  simp only [e1]
theorem hI_wI {h : Hp} {o k : Nat} {v : Int32} : hI (wI h o k v) o = upd (hI h o) k v := by
  funext b; show up2 h.1 o k v o b = upd (h.1 o) k v b; rw [up2_eq]
theorem hJ_wJ {h : Hp} {o k : Nat} {v : Int64} : hJ (wJ h o k v) o = vp_updL (hJ h o) k v := by
  funext b; show up2 h.2.1 o k v o b = vp_updL (h.2.1 o) k v b; rw [up2_eqL]
theorem cE_wI_20 {cx : Cx} {ad : Nat → Nat} {h : Hp} {o k : Nat} {v : Int32} (hk : kd o = 20) : cE cx ad (wI h o k v) o = .inl (cxA cx 0, ln h o, .inl (upd (hI h o) k v)) := by
  unfold cE; rw [hk]; show Sum.inl (_, _, Sum.inl (hI (wI h o k v) o)) = _; rw [hI_wI]; rfl
theorem cE_wI_22 {cx : Cx} {ad : Nat → Nat} {h : Hp} {o k : Nat} {v : Int32} (hk : kd o = 22) : cE cx ad (wI h o k v) o = .inl (cxA cx 2, ln h o, .inl (upd (hI h o) k v)) := by
  unfold cE; rw [hk]; show Sum.inl (_, _, Sum.inl (hI (wI h o k v) o)) = _; rw [hI_wI]; rfl
theorem cE_wI_23 {cx : Cx} {ad : Nat → Nat} {h : Hp} {o k : Nat} {v : Int32} (hk : kd o = 23) : cE cx ad (wI h o k v) o = .inl (cxA cx 3, ln h o, .inl (upd (hI h o) k v)) := by
  unfold cE; rw [hk]; show Sum.inl (_, _, Sum.inl (hI (wI h o k v) o)) = _; rw [hI_wI]; rfl
theorem cE_wJ_21 {cx : Cx} {ad : Nat → Nat} {h : Hp} {o k : Nat} {v : Int64} (hk : kd o = 21) : cE cx ad (wJ h o k v) o = .inl (cxA cx 1, ln h o, .inr (.inl (vp_updL (hJ h o) k v))) := by
  unfold cE; rw [hk]; show Sum.inl (_, _, Sum.inr (Sum.inl (hJ (wJ h o k v) o))) = _; rw [hJ_wJ]; rfl
theorem cE_obj {cx : Cx} {ad : Nat → Nat} {h : Hp} {o ci : Nat} (hk : kd o = ci) (hc : ci < 13) : cE cx ad h o = .inr (ci, fds ad h o ci) := by
  unfold cE
  rw [hk]
  match ci, hc with
  | 0, _ => rfl
  | 1, _ => rfl
  | 2, _ => rfl
  | 3, _ => rfl
  | 4, _ => rfl
  | 5, _ => rfl
  | 6, _ => rfl
  | 7, _ => rfl
  | 8, _ => rfl
  | 9, _ => rfl
  | 10, _ => rfl
  | 11, _ => rfl
  | 12, _ => rfl
theorem fds_get {ad : Nat → Nat} {h : Hp} {o ci k : Nat} (hk : k < tb_NN ci) : (fds ad h o ci)[k]? = some (fv ad h o ci k) := by
  unfold fds
  rw [List.getElem?_map, List.getElem?_range hk]
  rfl
theorem fds_set {ad : Nat → Nat} {h : Hp} {o ci k : Nat} {v : Int32} (hk : k < tb_NN ci) (hf : ly_fk ci k = false) : (fds ad h o ci).set k (.int v) = fds ad (wI h o k v) o ci := by
  refine List.ext_getElem? fun i => ?_
  by_cases hi : i = k
  · subst hi
    rw [List.getElem?_set_self (by simp [fds]; exact hk), fds_get hk]
    have e : hI (wI h o i v) o i = v := by show up2 h.1 o i v o i = v; simp [up2]
    unfold fv; rw [hf, e]; rfl
  · rw [List.getElem?_set_ne (fun q => hi q.symm)]
    by_cases hl : i < tb_NN ci
    · rw [fds_get hl, fds_get hl]
      have e : hI (wI h o k v) o i = hI h o i := by show up2 h.1 o k v o i = h.1 o i; simp [up2, hi]
      unfold fv; rw [e]
    · rw [List.getElem?_eq_none (by simp [fds]; omega), List.getElem?_eq_none (by simp [fds]; omega)]
section EH
variable {cx : Cx} {j d a pc : Nat} {loc : Lc} {st : List Value} {h : Hp} {Q : Option Value → Hp → Prop}
theorem e_get {idx o ci k hint : Nat} (hd : decode (mcode j) pc = .ok (.getfield idx, 3)) (hF : (mcn j, idx, ci, k, hint) ∈ tb_F) (ho1 : 64 ≤ o) (ho2 : o < 126 + 3 * hN h) (hk : kd o = ci) (v : Value) (hv : ∀ ad, fv ad h o ci k = cv ad v) (kk : E cx j d a (pc + 3) loc (v :: st) h Q) : E cx j d a pc loc (.ref o :: st) h Q := by
  intro p l e s m args below meth c h0 ad0 ad ls H locs nc ns mc ms hc h1 h2
  obtain ⟨hw, hkN, h13⟩ := tb_F_use hF
  have he : (cls cx ad h)[o - 64]? = some (ad o, .inr (ci, fds ad h o ci)) := by rw [cls_get ho1 ho2, cE_obj hk h13]
  exact va_get (D := cxD cx) (ci := ci) (v := cv ad v) (C := tb_RR ci) (T := tb_TT ci) (N := tb_NN ci) hc.1.1 hc.1.2.1 hc.1.2.2.2.2.2.1 (u_in h13) hc.1.2.2.2.2.1 hc.2.1.1 hc.2.1.2.1 (o - 64) he (vw_get h13) k hkN (hc.1.2.2.2.2.2.1 _ hw) (fun _ h9 => h9) (by rw [fds_get hkN, hv ad]) hd (kk p l e s m args below meth c h0 ad0 ad ls H locs nc ns mc ms hc h1 h2)
theorem e_put {idx o ci k hint : Nat} {v : Int32} (hd : decode (mcode j) pc = .ok (.putfield idx, 3)) (hF : (mcn j, idx, ci, k, hint) ∈ tb_F) (ho1 : 64 ≤ o) (ho2 : o < 126 + 3 * hN h) (hk : kd o = ci) (hf : ly_fk ci k = false) (hfin : (tb_TT ci k).2.2.2 = false) (hn : narrow (tb_ty ci k) (.int v) = .int v) (hfit : fits (tb_ty ci k) (.int v) = true) (kk : E cx j d a (pc + 3) loc st (wI h o k v) Q) : E cx j d a pc loc (.int v :: .ref o :: st) h Q := by
  intro p l e s m args below meth c h0 ad0 ad ls H locs nc ns mc ms hc h1 h2
  obtain ⟨hw, hkN, h13⟩ := tb_F_use hF
  have he : (cls cx ad h)[o - 64]? = some (ad o, .inr (ci, fds ad h o ci)) := by rw [cls_get ho1 ho2, cE_obj hk h13]
  have hset : (cls cx ad h).set (o - 64) (ad o, .inr (ci, (fds ad h o ci).set k (.int v))) = cls cx ad (wI h o k v) := by
    rw [fds_set hkN hf, ← cE_obj (cx := cx) hk h13]
    exact cls_set ho1 ho2 rfl (fun q hq => cE_wI_ne hq)
  refine va_put (D := cxD cx) (ci := ci) (v := .int v) (ty := tb_ty ci k) (C := tb_RR ci) (T := tb_TT ci) (N := tb_NN ci) hc.1.1 hc.1.2.1 hc.1.2.2.2.2.2.1 (u_in h13) (tb_ty ci) (tb_ty_ok h13) (tb_nm h13) hc.1.2.2.2.2.1 hc.2.1.1 hc.2.1.2.1 hc.2.1.2.2.1 hc.2.1.2.2.2.1 (o - 64) he (vw_get h13) k hkN (hc.1.2.2.2.2.2.1 _ hw) (fun _ h9 => h9) hfin (tb_ty_ok h13 k hkN) hn hfit (by simp [fds]; exact hkN) hd (fun H1 locs1 hP hD hS => ?_)
  rw [hset] at hP hD
  exact kk p l e s m args below meth c h0 ad0 ad ls H1 locs1 nc ns mc ms ⟨hc.1, ⟨hc.2.1.1, hP, hD, hS, hc.2.1.2.2.2.2⟩, hc.2.2.1, hc.2.2.2⟩ h1 h2
/-- an array of ints, bytes, booleans is read -/
theorem e_iald {o : Nat} {i : Int32} (hd : decode (mcode j) pc = .ok (.iaload, 1)) (ho1 : 64 ≤ o) (ho2 : o < 126 + 3 * hN h) (hk : kd o = 20) (hin : vp_in i (ln h o)) (kk : E cx j d a (pc + 1) loc (.int (hI h o i.toNatClampNeg) :: st) h Q) : E cx j d a pc loc (.int i :: .ref o :: st) h Q := by
  intro p l e s m args below meth c h0 ad0 ad ls H locs nc ns mc ms hc h1 h2
  have he : (cls cx ad h)[o - 64]? = some (ad o, .inl (cxA cx 0, ln h o, .inl (hI h o))) := by rw [cls_get ho1 ho2]; unfold cE; rw [hk]; rfl
  exact va_iald hc.1.1 hc.1.2.1 hc.2.1.1 hc.2.1.2.1 (o - 64) 0 he rfl hin hd (kk p l e s m args below meth c h0 ad0 ad ls H locs nc ns mc ms hc h1 h2)
theorem e_zald {o : Nat} {i : Int32} (hd : decode (mcode j) pc = .ok (.baload, 1)) (ho1 : 64 ≤ o) (ho2 : o < 126 + 3 * hN h) (hk : kd o = 22) (hin : vp_in i (ln h o)) (kk : E cx j d a (pc + 1) loc (.int (hI h o i.toNatClampNeg) :: st) h Q) : E cx j d a pc loc (.int i :: .ref o :: st) h Q := by
  intro p l e s m args below meth c h0 ad0 ad ls H locs nc ns mc ms hc h1 h2
  have he : (cls cx ad h)[o - 64]? = some (ad o, .inl (cxA cx 2, ln h o, .inl (hI h o))) := by rw [cls_get ho1 ho2]; unfold cE; rw [hk]; rfl
  exact va_zald hc.1.1 hc.1.2.1 hc.2.1.1 hc.2.1.2.1 (o - 64) 2 he rfl hin hd (kk p l e s m args below meth c h0 ad0 ad ls H locs nc ns mc ms hc h1 h2)
theorem e_bald {o : Nat} {i : Int32} (hd : decode (mcode j) pc = .ok (.baload, 1)) (ho1 : 64 ≤ o) (ho2 : o < 126 + 3 * hN h) (hk : kd o = 23) (hin : vp_in i (ln h o)) (kk : E cx j d a (pc + 1) loc (.int (hI h o i.toNatClampNeg) :: st) h Q) : E cx j d a pc loc (.int i :: .ref o :: st) h Q := by
  intro p l e s m args below meth c h0 ad0 ad ls H locs nc ns mc ms hc h1 h2
  have he : (cls cx ad h)[o - 64]? = some (ad o, .inl (cxA cx 3, ln h o, .inl (hI h o))) := by rw [cls_get ho1 ho2]; unfold cE; rw [hk]; rfl
  exact va_bald hc.1.1 hc.1.2.1 hc.2.1.1 hc.2.1.2.1 (o - 64) 3 he rfl hin hd (kk p l e s m args below meth c h0 ad0 ad ls H locs nc ns mc ms hc h1 h2)
theorem e_lald {o : Nat} {i : Int32} (hd : decode (mcode j) pc = .ok (.laload, 1)) (ho1 : 64 ≤ o) (ho2 : o < 126 + 3 * hN h) (hk : kd o = 21) (hin : vp_in i (ln h o)) (kk : E cx j d a (pc + 1) loc (.long (hJ h o i.toNatClampNeg) :: st) h Q) : E cx j d a pc loc (.int i :: .ref o :: st) h Q := by
  intro p l e s m args below meth c h0 ad0 ad ls H locs nc ns mc ms hc h1 h2
  have he : (cls cx ad h)[o - 64]? = some (ad o, .inl (cxA cx 1, ln h o, .inr (.inl (hJ h o)))) := by rw [cls_get ho1 ho2]; unfold cE; rw [hk]; rfl
  exact va_lald hc.1.1 hc.1.2.1 hc.2.1.1 hc.2.1.2.1 (o - 64) 1 he rfl hin hd (kk p l e s m args below meth c h0 ad0 ad ls H locs nc ns mc ms hc h1 h2)
/-- a cell's number, or null -/
def vr (r : Option Nat) : Value := match r with
  | some i => .ref i
  | none => .null
theorem cv_vr (ad : Nat → Nat) (r : Option Nat) : va_rf (r.map ad) = cv ad (vr r) := by cases r <;> rfl
theorem e_aald {o : Nat} {i : Int32} (hd : decode (mcode j) pc = .ok (.aaload, 1)) (ho1 : 64 ≤ o) (ho2 : o < 126 + 3 * hN h) (hk : kd o = 24 ∨ kd o = 25) (hin : vp_in i (ln h o)) (kk : E cx j d a (pc + 1) loc (vr (hR h o i.toNatClampNeg) :: st) h Q) : E cx j d a pc loc (.int i :: .ref o :: st) h Q := by
  intro p l e s m args below meth c h0 ad0 ad ls H locs nc ns mc ms hc h1 h2
  have kk := kk p l e s m args below meth c h0 ad0 ad ls H locs nc ns mc ms hc h1 h2
  rw [List.map_cons, ← cv_vr] at kk
  rcases hk with hk | hk
  · have he : (cls cx ad h)[o - 64]? = some (ad o, .inl (cxA cx 4, ln h o, .inr (.inr (.inr (.inr (fun k => (hR h o k).map ad)))))) := by rw [cls_get ho1 ho2]; unfold cE; rw [hk]; rfl
    exact va_aldq hc.1.1 hc.1.2.1 hc.2.1.1 hc.2.1.2.1 (o - 64) 4 he rfl hin hd kk
  · have he : (cls cx ad h)[o - 64]? = some (ad o, .inl (cxA cx 5, ln h o, .inr (.inr (.inr (.inr (fun k => (hR h o k).map ad)))))) := by rw [cls_get ho1 ho2]; unfold cE; rw [hk]; rfl
    exact va_aldq hc.1.1 hc.1.2.1 hc.2.1.1 hc.2.1.2.1 (o - 64) 5 he rfl hin hd kk
theorem e_alen {o : Nat} (hd : decode (mcode j) pc = .ok (.arraylength, 1)) (ho1 : 64 ≤ o) (ho2 : o < 126 + 3 * hN h) (hk : kd o = 20 ∨ kd o = 21 ∨ kd o = 23) (kk : E cx j d a (pc + 1) loc (.int (Int32.ofNat (ln h o)) :: st) h Q) : E cx j d a pc loc (.ref o :: st) h Q := by
  intro p l e s m args below meth c h0 ad0 ad ls H locs nc ns mc ms hc h1 h2
  rcases hk with hk | hk | hk
  · have he : (cls cx ad h)[o - 64]? = some (ad o, .inl (cxA cx 0, ln h o, .inl (hI h o))) := by rw [cls_get ho1 ho2]; unfold cE; rw [hk]; rfl
    exact va_alen hc.1.1 hc.1.2.1 hc.2.1.1 hc.2.1.2.1 (o - 64) 0 he (ty := .int) rfl rfl hd (kk p l e s m args below meth c h0 ad0 ad ls H locs nc ns mc ms hc h1 h2)
  · have he : (cls cx ad h)[o - 64]? = some (ad o, .inl (cxA cx 1, ln h o, .inr (.inl (hJ h o)))) := by rw [cls_get ho1 ho2]; unfold cE; rw [hk]; rfl
    exact va_alen hc.1.1 hc.1.2.1 hc.2.1.1 hc.2.1.2.1 (o - 64) 1 he (ty := .long) rfl rfl hd (kk p l e s m args below meth c h0 ad0 ad ls H locs nc ns mc ms hc h1 h2)
  · have he : (cls cx ad h)[o - 64]? = some (ad o, .inl (cxA cx 3, ln h o, .inl (hI h o))) := by rw [cls_get ho1 ho2]; unfold cE; rw [hk]; rfl
    exact va_alen hc.1.1 hc.1.2.1 hc.2.1.1 hc.2.1.2.1 (o - 64) 3 he (ty := .byte) rfl rfl hd (kk p l e s m args below meth c h0 ad0 ad ls H locs nc ns mc ms hc h1 h2)
theorem e_iast {o : Nat} {i x : Int32} (hd : decode (mcode j) pc = .ok (.iastore, 1)) (ho1 : 64 ≤ o) (ho2 : o < 126 + 3 * hN h) (hk : kd o = 20) (hin : vp_in i (ln h o)) (kk : E cx j d a (pc + 1) loc st (wI h o i.toNatClampNeg x) Q) : E cx j d a pc loc (.int x :: .int i :: .ref o :: st) h Q := by
  intro p l e s m args below meth c h0 ad0 ad ls H locs nc ns mc ms hc h1 h2
  have he : (cls cx ad h)[o - 64]? = some (ad o, .inl (cxA cx 0, ln h o, .inl (hI h o))) := by rw [cls_get ho1 ho2]; unfold cE; rw [hk]; rfl
  have hset : (cls cx ad h).set (o - 64) (ad o, .inl (cxA cx 0, ln h o, .inl (upd (hI h o) i.toNatClampNeg x))) = cls cx ad (wI h o i.toNatClampNeg x) := by
    rw [← cls_set ho1 ho2 (h' := wI h o i.toNatClampNeg x) rfl (fun q hq => cE_wI_ne hq)]
    rw [cE_wI_20 hk]
  refine va_iast hc.1.1 hc.1.2.1 hc.2.1.1 hc.2.1.2.1 hc.2.1.2.2.1 hc.2.1.2.2.2.1 (o - 64) 0 he rfl hin hd (fun H1 locs1 hP hD hS => ?_)
  rw [hset] at hP hD
  exact kk p l e s m args below meth c h0 ad0 ad ls H1 locs1 nc ns mc ms ⟨hc.1, ⟨hc.2.1.1, hP, hD, hS, hc.2.1.2.2.2.2⟩, hc.2.2.1, hc.2.2.2⟩ h1 h2
theorem e_bast {o : Nat} {i x : Int32} (hd : decode (mcode j) pc = .ok (.bastore, 1)) (ho1 : 64 ≤ o) (ho2 : o < 126 + 3 * hN h) (hk : kd o = 23) (hin : vp_in i (ln h o)) (kk : E cx j d a (pc + 1) loc st (wI h o i.toNatClampNeg (vp_nar .byte x)) Q) : E cx j d a pc loc (.int x :: .int i :: .ref o :: st) h Q := by
  intro p l e s m args below meth c h0 ad0 ad ls H locs nc ns mc ms hc h1 h2
  have he : (cls cx ad h)[o - 64]? = some (ad o, .inl (cxA cx 3, ln h o, .inl (hI h o))) := by rw [cls_get ho1 ho2]; unfold cE; rw [hk]; rfl
  have hset : (cls cx ad h).set (o - 64) (ad o, .inl (cxA cx 3, ln h o, .inl (upd (hI h o) i.toNatClampNeg (vp_nar .byte x)))) = cls cx ad (wI h o i.toNatClampNeg (vp_nar .byte x)) := by
    rw [← cls_set ho1 ho2 (h' := wI h o i.toNatClampNeg (vp_nar .byte x)) rfl (fun q hq => cE_wI_ne hq)]
    rw [cE_wI_23 hk]
  refine va_bast hc.1.1 hc.1.2.1 hc.2.1.1 hc.2.1.2.1 hc.2.1.2.2.1 hc.2.1.2.2.2.1 (o - 64) 3 he rfl hin hd (fun H1 locs1 hP hD hS => ?_)
  rw [hset] at hP hD
  exact kk p l e s m args below meth c h0 ad0 ad ls H1 locs1 nc ns mc ms ⟨hc.1, ⟨hc.2.1.1, hP, hD, hS, hc.2.1.2.2.2.2⟩, hc.2.2.1, hc.2.2.2⟩ h1 h2
theorem e_zast {o : Nat} {i x : Int32} (hd : decode (mcode j) pc = .ok (.bastore, 1)) (ho1 : 64 ≤ o) (ho2 : o < 126 + 3 * hN h) (hk : kd o = 22) (hin : vp_in i (ln h o)) (kk : E cx j d a (pc + 1) loc st (wI h o i.toNatClampNeg (vp_nar .boolean x)) Q) : E cx j d a pc loc (.int x :: .int i :: .ref o :: st) h Q := by
  intro p l e s m args below meth c h0 ad0 ad ls H locs nc ns mc ms hc h1 h2
  have he : (cls cx ad h)[o - 64]? = some (ad o, .inl (cxA cx 2, ln h o, .inl (hI h o))) := by rw [cls_get ho1 ho2]; unfold cE; rw [hk]; rfl
  have hset : (cls cx ad h).set (o - 64) (ad o, .inl (cxA cx 2, ln h o, .inl (upd (hI h o) i.toNatClampNeg (vp_nar .boolean x)))) = cls cx ad (wI h o i.toNatClampNeg (vp_nar .boolean x)) := by
    rw [← cls_set ho1 ho2 (h' := wI h o i.toNatClampNeg (vp_nar .boolean x)) rfl (fun q hq => cE_wI_ne hq)]
    rw [cE_wI_22 hk]
  refine va_zast hc.1.1 hc.1.2.1 hc.2.1.1 hc.2.1.2.1 hc.2.1.2.2.1 hc.2.1.2.2.2.1 (o - 64) 2 he rfl hin hd (fun H1 locs1 hP hD hS => ?_)
  rw [hset] at hP hD
  exact kk p l e s m args below meth c h0 ad0 ad ls H1 locs1 nc ns mc ms ⟨hc.1, ⟨hc.2.1.1, hP, hD, hS, hc.2.1.2.2.2.2⟩, hc.2.2.1, hc.2.2.2⟩ h1 h2
theorem e_last {o : Nat} {i : Int32} {x : Int64} (hd : decode (mcode j) pc = .ok (.lastore, 1)) (ho1 : 64 ≤ o) (ho2 : o < 126 + 3 * hN h) (hk : kd o = 21) (hin : vp_in i (ln h o)) (kk : E cx j d a (pc + 1) loc st (wJ h o i.toNatClampNeg x) Q) : E cx j d a pc loc (.long x :: .int i :: .ref o :: st) h Q := by
  intro p l e s m args below meth c h0 ad0 ad ls H locs nc ns mc ms hc h1 h2
  have he : (cls cx ad h)[o - 64]? = some (ad o, .inl (cxA cx 1, ln h o, .inr (.inl (hJ h o)))) := by rw [cls_get ho1 ho2]; unfold cE; rw [hk]; rfl
  have hset : (cls cx ad h).set (o - 64) (ad o, .inl (cxA cx 1, ln h o, .inr (.inl (vp_updL (hJ h o) i.toNatClampNeg x)))) = cls cx ad (wJ h o i.toNatClampNeg x) := by
    rw [← cls_set ho1 ho2 (h' := wJ h o i.toNatClampNeg x) rfl (fun q hq => cE_wJ_ne hq)]
    rw [cE_wJ_21 hk]
  refine va_last hc.1.1 hc.1.2.1 hc.2.1.1 hc.2.1.2.1 hc.2.1.2.2.1 hc.2.1.2.2.2.1 (o - 64) 1 he rfl hin hd (fun H1 locs1 hP hD hS => ?_)
  rw [hset] at hP hD
  exact kk p l e s m args below meth c h0 ad0 ad ls H1 locs1 nc ns mc ms ⟨hc.1, ⟨hc.2.1.1, hP, hD, hS, hc.2.1.2.2.2.2⟩, hc.2.2.1, hc.2.2.2⟩ h1 h2
end EH
end
section
/-! ends, constants, calls, and a contract out of its first instruction -/
section EC
variable {cx : Cx} {j d a pc : Nat} {loc : Lc} {st : List Value} {h : Hp} {Q : Option Value → Hp → Prop}
/-- what stands at an end -/
theorem q_end {p : Program} {s t : State} {m : MethodId} {args : Array Value} {meth : Method} {c : Code} {h0 : Hp} {ad0 ad : Nat → Nat} {ls : Array Slot} {H : Heap} {locs : List Loc} (hc : Ec cx j h0 h ad0 ad loc p s m args meth c ls H locs) {r : Option Value} (hq : Q r h) (ht : t.heap = H) (hW : s.WarmedH t.vm) : QQ cx ad0 h0 s.heap.size Q args s (.returned (r.map (cv ad))) t :=
  ⟨⟨r, h, ad, rfl, hq, hc.2.2.1.2.1, hc.2.2.1.1, hc.2.2.1.2.2, by rw [ht]; exact hc.2.1.2.1, va_K.moved hW.alike hc.2.1.1, hc.2.1.2.2.1⟩, hc.2.1.2.2.2.1.F ht⟩
theorem e_iret {v : Int32} (hd : decode (mcode j) pc = .ok (.ireturn, 1)) (hr : mret j = some .int) (hq : Q (some (.int v)) h) : E cx j d a pc loc [.int v] h Q := by
  intro p l e s m args below meth c h0 ad0 ad ls H locs nc ns mc ms hc h1 h2
  refine W.widen (k := mc) (n := ms) (by omega) (by omega) ?_
  exact W.iret hc.1.1 hc.1.2.1 (hc.1.2.2.1.trans hr) (fun t ht hW => q_end (r := some (.int v)) hc hq ht hW) hc.2.1.2.2.2.1.2.2 hd hc.1.2.2.2.2.2.2
theorem e_zret {v : Int32} (hd : decode (mcode j) pc = .ok (.ireturn, 1)) (hr : mret j = some .boolean) (hn : narrow .boolean (.int v) = .int v) (hq : Q (some (.int v)) h) : E cx j d a pc loc [.int v] h Q := by
  intro p l e s m args below meth c h0 ad0 ad ls H locs nc ns mc ms hc h1 h2
  refine W.widen (k := mc) (n := ms) (by omega) (by omega) ?_
  exact W.zret hc.1.1 hc.1.2.1 (hc.1.2.2.1.trans hr) hn (fun t ht hW => q_end (r := some (.int v)) hc hq ht hW) hc.2.1.2.2.2.1.2.2 hd hc.1.2.2.2.2.2.2
theorem e_lret {v : Int64} (hd : decode (mcode j) pc = .ok (.lreturn, 1)) (hr : mret j = some .long) (hq : Q (some (.long v)) h) : E cx j d a pc loc [.long v] h Q := by
  intro p l e s m args below meth c h0 ad0 ad ls H locs nc ns mc ms hc h1 h2
  refine W.widen (k := mc) (n := ms) (by omega) (by omega) ?_
  exact W.lret hc.1.1 hc.1.2.1 (hc.1.2.2.1.trans hr) (fun t ht hW => q_end (r := some (.long v)) hc hq ht hW) hc.2.1.2.2.2.1.2.2 hd hc.1.2.2.2.2.2.2
theorem e_vret (hd : decode (mcode j) pc = .ok (.return_, 1)) (hr : mret j = none) (hq : Q none h) : E cx j d a pc loc [] h Q := by
  intro p l e s m args below meth c h0 ad0 ad ls H locs nc ns mc ms hc h1 h2
  refine W.widen (k := mc) (n := ms) (by omega) (by omega) ?_
  exact W.vret hc.1.1 hc.1.2.1 (hc.1.2.2.1.trans hr) (fun t ht hW => q_end (r := none) hc hq ht hW) hc.2.1.2.2.2.1.2.2 hd hc.1.2.2.2.2.2.2
theorem e_aret {v : Value} {n : String} (hd : decode (mcode j) pc = .ok (.areturn, 1)) (hr : mret j = some (.object n)) (hv : v = .null ∨ ∃ i, v = .ref i) (hq : Q (some v) h) : E cx j d a pc loc [v] h Q := by
  intro p l e s m args below meth c h0 ad0 ad ls H locs nc ns mc ms hc h1 h2
  refine W.widen (k := mc) (n := ms) (by omega) (by omega) ?_
  exact W.aret hc.1.1 hc.1.2.1 (hc.1.2.2.1.trans hr) (Or.inl ⟨n, rfl⟩) (by rcases hv with rfl | ⟨i, rfl⟩; exact Or.inl rfl; exact Or.inr ⟨ad i, rfl⟩) (fun t ht hW => q_end (r := some v) hc hq ht hW) hc.2.1.2.2.2.1.2.2 hd hc.1.2.2.2.2.2.2
/-! constants -/
theorem e_ldcI {idx hint : Nat} {v : Int32} (hd : decode (mcode j) pc = .ok (.ldc idx, 2)) (hK : (mcn j, idx, v, hint) ∈ tb_KI) (k : E cx j d a (pc + 2) loc (.int v :: st) h Q) : E cx j d a pc loc st h Q := by
  intro p l e s m args below meth c h0 ad0 ad ls H locs nc ns mc ms hc h1 h2
  have hw := List.all_eq_true.mp tb_KI_ok _ hK
  simp only [Bool.and_eq_true, decide_eq_true_eq] at hw
  exact lv_ldc hc.1.1 hc.1.2.1 hc.1.2.2.2.2.1 (hc.1.2.2.2.2.2.1 _ (gT_of hw.1 hw.2)) hd (k p l e s m args below meth c h0 ad0 ad ls H locs nc ns mc ms hc h1 h2)
theorem e_ldcW {idx hint : Nat} {v : Int32} (hd : decode (mcode j) pc = .ok (.ldc_w idx, 3)) (hK : (mcn j, idx, v, hint) ∈ tb_KI) (k : E cx j d a (pc + 3) loc (.int v :: st) h Q) : E cx j d a pc loc st h Q := by
  intro p l e s m args below meth c h0 ad0 ad ls H locs nc ns mc ms hc h1 h2
  have hw := List.all_eq_true.mp tb_KI_ok _ hK
  simp only [Bool.and_eq_true, decide_eq_true_eq] at hw
  exact lv_ldcw hc.1.1 hc.1.2.1 hc.1.2.2.2.2.1 (hc.1.2.2.2.2.2.1 _ (gT_of hw.1 hw.2)) hd (k p l e s m args below meth c h0 ad0 ad ls H locs nc ns mc ms hc h1 h2)
theorem e_ldcL {idx hint : Nat} {v : Int64} (hd : decode (mcode j) pc = .ok (.ldc2_w idx, 3)) (hK : (mcn j, idx, v, hint) ∈ tb_KL) (k : E cx j d a (pc + 3) loc (.long v :: st) h Q) : E cx j d a pc loc st h Q := by
  intro p l e s m args below meth c h0 ad0 ad ls H locs nc ns mc ms hc h1 h2
  have hw := List.all_eq_true.mp tb_KL_ok _ hK
  simp only [Bool.and_eq_true, decide_eq_true_eq] at hw
  exact lv_ldc2 hc.1.1 hc.1.2.1 hc.1.2.2.2.2.1 (hc.1.2.2.2.2.2.1 _ (gT_of hw.1 hw.2)) hd (k p l e s m args below meth c h0 ad0 ad ls H locs nc ns mc ms hc h1 h2)
theorem e_ldcS {idx n : Nat} {tx : String} (hd : decode (mcode j) pc = .ok (.ldc idx, 2)) (hj : mcn j = 5) (hS : tb_S[n]? = some (idx, tx)) (hn : n < 26) (k : E cx j d a (pc + 2) loc (.ref (1 + n) :: st) h Q) : E cx j d a pc loc st h Q := by
  intro p l e s m args below meth c h0 ad0 ad ls H locs nc ns mc ms hc h1 h2
  have hZ := hc.2.1.2.2.2.2.2.1.2 n _ hS
  have hown : s.vm.findClass RX5 = some m.cls := by have q := hc.1.2.2.2.2.1; rw [hj] at q; exact q
  have e0 : ad (1 + n) = ad0 (1 + n) := hc.2.2.1.1 _ (by omega)
  have kk := k p l e s m args below meth c h0 ad0 ad ls H locs nc ns mc ms hc h1 h2
  rw [List.map_cons, show cv ad (.ref (1 + n)) = .ref (ad0 (1 + n)) by simp [cv, e0]] at kk
  exact va_ldcS hc.1.1 hc.1.2.1 hown hZ hd kk
/-! a reference is stored in an array of laws -/
theorem cE_wR_25 {ad : Nat → Nat} {o k : Nat} {v : Option Nat} (hk : kd o = 25) : cE cx ad (wR h o k v) o = .inl (cxA cx 5, ln h o, .inr (.inr (.inr (.inr (va_up (fun k => (hR h o k).map ad) k (v.map ad)))))) := by
  have e : (fun i => (hR (wR h o k v) o i).map ad) = va_up (fun k => (hR h o k).map ad) k (v.map ad) := by
    funext i
    show (up2 h.2.2.1 o k v o i).map ad = _
    by_cases hi : i = k <;> simp [up2, va_up, hi]
  unfold cE; rw [hk]; show Sum.inl (_, _, Sum.inr (Sum.inr (Sum.inr (Sum.inr (fun i => (hR (wR h o k v) o i).map ad))))) = _; rw [e]; rfl
theorem e_aast {o o' : Nat} {i : Int32} (hd : decode (mcode j) pc = .ok (.aastore, 1)) (ho1 : 64 ≤ o) (ho2 : o < 126 + 3 * hN h) (hk : kd o = 25) (hin : vp_in i (ln h o)) (hv1 : 64 ≤ o') (hv2 : o' < 126 + 3 * hN h) (hvk : kd o' = 3) (kk : E cx j d a (pc + 1) loc st (wR h o i.toNatClampNeg (some o')) Q) : E cx j d a pc loc (.ref o' :: .int i :: .ref o :: st) h Q := by
  intro p l e s m args below meth c h0 ad0 ad ls H locs nc ns mc ms hc h1 h2
  have he : (cls cx ad h)[o - 64]? = some (ad o, .inl (cxA cx 5, ln h o, .inr (.inr (.inr (.inr (fun k => (hR h o k).map ad)))))) := by rw [cls_get ho1 ho2]; unfold cE; rw [hk]; rfl
  have hv : (cls cx ad h)[o' - 64]? = some (ad o', .inr (3, fds ad h o' 3)) := by rw [cls_get hv1 hv2, cE_obj hvk (by decide)]
  have hset : (cls cx ad h).set (o - 64) (ad o, .inl (cxA cx 5, ln h o, .inr (.inr (.inr (.inr (va_up (fun k => (hR h o k).map ad) i.toNatClampNeg (some (ad o')))))))) = cls cx ad (wR h o i.toNatClampNeg (some o')) := by
    rw [← cls_set ho1 ho2 (h' := wR h o i.toNatClampNeg (some o')) rfl (fun q hq => cE_wR_ne hq), cE_wR_25 hk]; rfl
  refine va_astq hc.1.1 hc.1.2.1 hc.2.1.1 hc.2.1.2.1 hc.2.1.2.2.1 hc.2.1.2.2.2.1 (o - 64) 5 (o' - 64) 3 he (r := (tb_RR 3, tb_TT 3, tb_NN 3)) rfl hv (vw_get (by decide)) hin hd (fun H1 locs1 hP hD hS => ?_)
  rw [hset] at hP hD
  exact kk p l e s m args below meth c h0 ad0 ad ls H1 locs1 nc ns mc ms ⟨hc.1, ⟨hc.2.1.1, hP, hD, hS, hc.2.1.2.2.2.2⟩, hc.2.2.1, hc.2.2.2⟩ h1 h2
theorem e_aastN {o : Nat} {i : Int32} (hd : decode (mcode j) pc = .ok (.aastore, 1)) (ho1 : 64 ≤ o) (ho2 : o < 126 + 3 * hN h) (hk : kd o = 25) (hin : vp_in i (ln h o)) (kk : E cx j d a (pc + 1) loc st (wR h o i.toNatClampNeg none) Q) : E cx j d a pc loc (.null :: .int i :: .ref o :: st) h Q := by
  intro p l e s m args below meth c h0 ad0 ad ls H locs nc ns mc ms hc h1 h2
  have he : (cls cx ad h)[o - 64]? = some (ad o, .inl (cxA cx 5, ln h o, .inr (.inr (.inr (.inr (fun k => (hR h o k).map ad)))))) := by rw [cls_get ho1 ho2]; unfold cE; rw [hk]; rfl
  have hset : (cls cx ad h).set (o - 64) (ad o, .inl (cxA cx 5, ln h o, .inr (.inr (.inr (.inr (va_up (fun k => (hR h o k).map ad) i.toNatClampNeg none)))))) = cls cx ad (wR h o i.toNatClampNeg none) := by
    rw [← cls_set ho1 ho2 (h' := wR h o i.toNatClampNeg none) rfl (fun q hq => cE_wR_ne hq), cE_wR_25 hk]; rfl
  refine va_astqN hc.1.1 hc.1.2.1 hc.2.1.1 hc.2.1.2.1 hc.2.1.2.2.1 hc.2.1.2.2.2.1 (o - 64) 5 he (C := "FiveTouch$Law") rfl hin hd (fun H1 locs1 hP hD hS => ?_)
  rw [hset] at hP hD
  exact kk p l e s m args below meth c h0 ad0 ad ls H1 locs1 nc ns mc ms ⟨hc.1, ⟨hc.2.1.1, hP, hD, hS, hc.2.1.2.2.2.2⟩, hc.2.2.1, hc.2.2.2⟩ h1 h2
/-! calls -/
/-- the references of a frame are of cells that stand from the start -/
def rok1 (v : Value) : Bool := match v with
  | .ref i => decide (i < 126)
  | _ => true
def rok (loc : Lc) (st : List Value) : Bool := loc.all (fun x => match x with | some v => rok1 v | none => true) && st.all rok1
theorem cv_same {ad ad' : Nat → Nat} {n : Nat} (hag : ∀ o, o < 126 + 3 * n → ad' o = ad o) {v : Value} (hv : rok1 v = true) : cv ad' v = cv ad v := by
  cases v <;> try rfl
  rename_i i
  simp only [rok1, decide_eq_true_eq] at hv
  simp only [cv]
  rw [hag i (Nat.lt_of_lt_of_le hv (Nat.le_add_right 126 _))]
theorem lnth_mem {loc : Lc} {i : Nat} {v : Value} (q : lnth loc i = some v) : some v ∈ loc := by
  induction loc generalizing i with
  | nil => simp [lnth] at q
  | cons x t ih =>
    match i, q with
    | 0, q => simp [lnth] at q; rw [q]; exact List.mem_cons_self
    | i + 1, q => exact List.mem_cons_of_mem _ (ih (i := i) (by simpa [lnth] using q))
theorem lvok_same {ad ad' : Nat → Nat} {n k : Nat} (hag : ∀ o, o < 126 + 3 * n → ad' o = ad o) {ls : Array Slot} {st : List Value} (hr : rok loc st = true) (q : lvok ad ls k loc) : lvok ad' ls k loc ∧ st.map (cv ad') = st.map (cv ad) := by
  simp only [rok, Bool.and_eq_true, List.all_eq_true] at hr
  refine ⟨⟨q.1, q.2.1, fun i v hv => ?_⟩, ?_⟩
  · rw [cv_same hag (hr.1 _ (lnth_mem hv))]
    exact q.2.2 i v hv
  · exact List.map_congr_left (fun v hv => cv_same hag (hr.2 v hv))
theorem wst_call {ad0 ad : Nat → Nat} {h0 : Hp} {s U : State} {H : Heap} {locs : List Loc} (hw : Wst cx ad0 (va_A (cls cx ad0 h0) s.heap.size) s s.heap) (hag : ∀ o, o < 126 → ad o = ad0 o) (hS : va_S (va_A (cls cx ad0 h0) s.heap.size) s.heap H locs) (hA : ∀ q, va_A (cls cx ad h) H.size q → va_A (cls cx ad0 h0) s.heap.size q) (hU : U.heap = H) (hW : s.WarmedH U.vm) : Wst cx ad (va_A (cls cx ad h) H.size) U U.heap := by
  obtain ⟨⟨x1, x2, x3⟩, ⟨k1, k2⟩, n1⟩ := hw
  have e0 : ad 0 = ad0 0 := hag 0 (by omega)
  have e1 : ∀ k, k < 26 → ad (1 + k) = ad0 (1 + k) := fun k hk => hag _ (by omega)
  rw [hU]
  refine ⟨⟨?_, ?_, ?_⟩, ⟨?_, fun k q hq => ?_⟩, fun q hq hk => ?_⟩
  · rw [e0]; exact (x1.kept (hS.2.1 _ x2 x3)).moved hW.alike
  · rw [e0]; exact Nat.lt_of_lt_of_le x2 hS.1
  · rw [e0]; exact fun z => x3 (hA _ z)
  · have k3 := ((k1.kept (H1 := H) hS.2.1).moved hW.alike).narrow hA
    refine ⟨fun i hi => ?_, fun i i' hi hi' e => ?_⟩
    · have := k3.1 i hi
      show va_O _ (ad (1 + i)) _ _ _ ∧ va_OF _ _ _ _ (ad (1 + i)) _ _ _ ∧ va_OF _ _ _ (.ref (ad (30 + i))) (ad (1 + i)) _ _ _ ∧ va_T _ (ad (30 + i)) _ _ _ _ _
      rw [hag (1 + i) (by omega), hag (30 + i) (by omega)]
      exact this
    · have e : ad (1 + i) = ad (1 + i') := e
      rw [hag (1 + i) (by omega), hag (1 + i') (by omega)] at e
      exact k3.2 i i' hi hi' e
  · have hk : k < 26 := (List.getElem?_eq_some_iff.mp hq).1
    rw [e1 k hk]
    exact (k2 k q hq).warm hW
  · exact (n1 q hq hk).warmM hW
theorem wst_calling {ad : Nat → Nat} {A : Nat → Prop} {U : State} {g : JFrame} {mk : MethodId} {av : Array Value} (hw : Wst cx ad A U U.heap) : Wst cx ad A (U.calling g mk av) (U.calling g mk av).heap := by
  obtain ⟨⟨x1, x2, x3⟩, ⟨k1, k2⟩, n1⟩ := hw
  exact ⟨⟨va_X.moved (U := U.calling g mk av) (Vm.Alike.refl U.vm) x1, x2, x3⟩, ⟨vk_S.moved (U := U.calling g mk av) (Vm.Alike.refl U.vm) k1, fun k q hq => vk_R.same (U := U.calling g mk av) rfl (k2 k q hq)⟩, fun q hq hk => va_Nw.same (U := U.calling g mk av) rfl rfl (n1 q hq hk)⟩
theorem blind {ad : Nat → Nat} {vs : List Value} {sz : Nat} : FrameBlind (va_Pc (vs.map (cv ad)) (fun U => U.heap.size = sz ∧ va_P (cxD cx) vwCl (cls cx ad h) U.heap ∧ va_K (cxD cx) vwCl (tys cx) U ∧ va_D (fun _ => True) (cls cx ad h) ∧ Wst cx ad (va_A (cls cx ad h) sz) U U.heap)) := by
  intro av U g mk q
  obtain ⟨q1, q2, q3, q4, q5, q6⟩ := q
  exact ⟨q1, q2, q3, va_K.moved (u := U) (U := U.calling g mk av) (Vm.Alike.refl U.vm) q4, q5, wst_calling q6⟩
/-- behind a call: the caller goes on with what the callee left -/
theorem e_back {j' a' : Nat} {vs : List Value} {Q' : Option Value → Hp → Prop} (ha : a' ≤ a) (hok : rok loc st = true ∨ ∀ r h', Q' r h' → hN h' = hN h) (kk : ∀ r h', Q' r h' → E cx j d (a - a') (pc + 3) loc (r.toList ++ st) h' Q)
    {p : Program} {l : Launch} {e : Env} {s : State} {m : MethodId} {args : Array Value} {below : List Frame} {meth : Method} {c : Code} {h0 : Hp} {ad0 ad : Nat → Nat} {ls : Array Slot} {H : Heap} {locs : List Loc} {nc ns mc ms : Nat} {st0 : List Value} {av : Array Value} (hc : Ec cx j h0 h ad0 ad loc p s m args meth c ls H locs) (h1 : nc + 3 * a ≤ mc) (h2 : ns + 500 * a ≤ ms) (hAA : ∀ q, va_A (cls cx ad h) H.size q → va_A (cls cx ad0 h0) s.heap.size q)
    (hr : va_Run p l e (rm d mc ms) s m args below meth c H locs nc ns (3 * a') (500 * a') (F0 m pc ls st0) (st.map (cv ad)) (QQ cx ad h H.size Q' av) (va_A (cls cx ad h) H.size)) :
    W p l e (rm d mc ms) s m args below meth c H locs nc ns (MQ below (QQ cx ad0 h0 s.heap.size Q) args s mc ms (va_A (cls cx ad0 h0) s.heap.size)) (F0 m pc ls st0) := by
  intro T hT X
  obtain ⟨v, st₀, t, T', L, g0, X', hL, e1, e2, ⟨⟨r, h', ad', hv, hq, hn, hag, hsm, hP, hK, hD⟩, hz, hk⟩, stp⟩ := hr T hT X
  cases hv
  rw [g0] at hz hk
  have hS := hc.2.1.2.2.2.1
  have hS' : va_S (va_A (cls cx ad0 h0) s.heap.size) s.heap T'.heap (locs ++ L) := ⟨Nat.le_trans hS.1 (by rw [e1]; exact hz), fun q z1 z2 => by rw [e1, hk q (Nat.lt_of_lt_of_le z1 hS.1) (fun z => z2 (hAA q z))]; exact hS.2.1 q z1 z2, fun q hq => by
      rcases List.mem_append.mp hq with z | z
      · exact hS.2.2 q z
      · exact hAA _ (hL q z)⟩
  have hlv : lvok ad' ls (mmax j) loc ∧ st.map (cv ad') = st.map (cv ad) := by
    rcases hok with ho | ho
    · exact lvok_same hag ho hc.2.2.2
    · have := hsm (ho r h' hq); subst this; exact ⟨hc.2.2.2, rfl⟩
  have hE : Ec cx j h0 h' ad0 ad' loc p s m args meth c ls T'.heap (locs ++ L) := ⟨hc.1, ⟨hc.2.1.1, by rw [e1]; exact hP, hD.weaken (fun k q _ z => hAA _ z), hS', hc.2.1.2.2.2.2⟩, ⟨fun o ho => (hag o (by have := hc.2.2.1.2.1; omega)).trans (hc.2.2.1.1 o ho), Nat.le_trans hc.2.2.1.2.1 hn, fun z => by
      have z1 := hc.2.2.1.2.1
      rw [hsm (by omega)]
      exact hc.2.2.1.2.2 (by omega)⟩, hlv.1⟩
  obtain ⟨t2, a1, b1⟩ := kk r h' hq p l e s m args below meth c h0 ad0 ad' ls T'.heap (locs ++ L) (nc + 3 * a') (ns + 500 * a') mc ms hE (by omega) (by omega) T' rfl X'
  refine ⟨t2, stp t2 ?_, b1⟩
  have hst : (r.toList ++ st).map (cv ad') = (r.map (cv ad')).toList ++ st.map (cv ad) := by
    rw [List.map_append, hlv.2]; cases r <;> rfl
  rw [hst] at a1
  exact a1
theorem hAA_of {p : Program} {s : State} {m : MethodId} {args : Array Value} {meth : Method} {c : Code} {h0 : Hp} {ad0 ad : Nat → Nat} {ls : Array Slot} {H : Heap} {locs : List Loc} (hc : Ec cx j h0 h ad0 ad loc p s m args meth c ls H locs) : ∀ q, va_A (cls cx ad h) H.size q → va_A (cls cx ad0 h0) s.heap.size q := by
  intro q z
  rcases z with ⟨k, e, z⟩ | z
  · exact hc.2.1.2.2.1.2 k (q, e) z
  · exact Or.inr (Nat.le_trans hc.2.1.2.2.2.1.1 z)
/-- a method of the tables: its words -/
theorem mk_use {k : Nat} (hk : mk_ok k = true) : mw_code k ∈ gT ∧ mw_init k ∈ gT ∧ mmax k ≤ 45 ∧ ((my k).cls ≠ "java/lang/invoke/MethodHandle" ∧ (my k).cls ≠ "java/lang/invoke/VarHandle") ∧ tb_RR (mcn k) = (my k).cls ∧ plainName (my k).cls = true := by
  simp only [mk_ok, Bool.and_eq_true, decide_eq_true_eq] at hk
  obtain ⟨⟨⟨⟨⟨⟨k1, k2⟩, k3⟩, k4⟩, k5⟩, k6⟩, k7⟩ := hk
  exact ⟨gT_of (is_code_ok k1) rfl, gT_of k2 rfl, k3, ⟨k5, k6⟩, k4, k7⟩
theorem good_wsj {k : Nat} (hk : mk_ok k = true) : GoodIn gT (wsj k) := by
  intro w hw
  rcases List.mem_cons.mp hw with rfl | hw
  · exact ⟨(mk_use hk).1, Or.inl rfl⟩
  · exact ⟨hw, good_of_word (List.mem_filter.mp hw).2⟩
theorem e_callV {idx j' hint o a' : Nat} {vs : List Value} {Q' : Option Value → Hp → Prop} (hd : decode (mcode j) pc = .ok (.invokevirtual idx, 3)) (hC : (mcn j, idx, j', 0, hint) ∈ tb_C) (hmk : mk_ok j' = true) (hmv : mk_v j' = true) (hnp : (parseMethodDescriptor (my j').desc).map (fun q => q.parameters.length) = some vs.length) (ho1 : 64 ≤ o) (ho2 : o < 126 + 3 * hN h) (hk : kd o = mcn j') (hsm : (st.map fun v => v.category).sum ≤ 8) (hd0 : 0 < d) (ha : a' ≤ a) (hok : rok loc st = true ∨ ∀ r h', Q' r h' → hN h' = hN h)
    (hM : M cx j' (d - 1) a' (.ref o :: vs) h Q') (kk : ∀ r h', Q' r h' → E cx j d (a - a') (pc + 3) loc (r.toList ++ st) h' Q) : E cx j d a pc loc (vs.reverse ++ .ref o :: st) h Q := by
  intro p l e s m args below meth c h0 ad0 ad ls H locs nc ns mc ms hc h1 h2
  have hAA := hAA_of hc
  obtain ⟨w1, w2, w3, w4, w5, w6⟩ := mk_use hmk
  simp only [mk_v, Bool.and_eq_true, decide_eq_true_eq] at hmv
  have hl := List.all_eq_true.mp tb_C_ok _ hC
  simp only [ct_ok, decide_eq_true_eq] at hl
  have hts := hc.1.2.2.2.2.2.1
  have he : (cls cx ad h)[o - 64]? = some (ad o, .inr (mcn j', fds ad h o (mcn j'))) := by rw [cls_get ho1 ho2, cE_obj hk hmv.2]
  have cb : CallB (rm d mc ms) s args (tb_RR (mcn j)) idx (my j') (mcode j') (mmax j') (mret j') (wsj j') (rm (d - 1) (3 * a') (500 * a')) (3 * a') (500 * a') vs.length :=
    callB_of vs.length hts (good_wsj hmk) (ws' := gT) rfl rfl rfl (hts _ w2) (hts _ (gT_of hl rfl)) ⟨w4.1, w4.2, hnp⟩ ⟨by show d - 1 + 1 ≤ d; omega, by show 8 + (mmax j' + 11) + 64 * (d - 1) ≤ 64 * d; omega⟩
  have run := va_runV (p := p) (l := l) (e := e) (below := below) (meth := meth) (locs := locs) (cells := nc) (slots := ns) (R := rm d mc ms) (H := H) (C := (my j').cls) (b := ad o) (As := vs.map (cv ad)) (rest := st.map (cv ad)) (g := F0 m pc ls ((vs.reverse ++ .ref o :: st).map (cv ad))) (Ts := gT) (own := tb_RR (mcn j)) (nL := mmax j) (cc := mcode j)
    ⟨hc.1.1, hc.1.2.1, hc.1.2.2.2.1, hc.1.2.2.2.2.1, hts⟩ (hM l ad H.size) ⟨cb, hts _ (gT_of hmv.1.1 rfl), hts _ (gT_of hmv.1.2 rfl)⟩
    ⟨blind, by
      obtain ⟨cell, z1, z2, z3⟩ := va_recv hc.2.1.1 hc.2.1.2.1 (vw_get hmv.2) he
      exact ⟨cell, z1, z2, by rw [← w5]; exact z3⟩, fun U hU hW => ⟨rfl, by rw [hU], by rw [hU]; exact hc.2.1.2.1, va_K.moved hW.alike hc.2.1.1, hc.2.1.2.2.1.weaken (fun _ _ _ _ => trivial), wst_call hc.2.1.2.2.2.2 (fun o ho => hc.2.2.1.1 o (by omega)) hc.2.1.2.2.2.1 hAA hU hW⟩⟩
    rfl (by simp) hc.2.2.2.1 (by simp [cv, List.map_reverse]) (lv_room (by
      have : ((st.map (cv ad)).map fun v => v.category) = st.map fun v => v.category := by rw [List.map_map]; exact List.map_congr_left (fun v _ => cv_cat ad v)
      rw [this]; exact hsm)) hd ⟨by show nc + 3 * a' ≤ mc; omega, by show ns + 500 * a' ≤ ms; omega⟩
  exact e_back (j' := j') (vs := vs) ha hok kk hc h1 h2 hAA run
theorem e_callS {idx j' hint a' : Nat} {vs : List Value} {Q' : Option Value → Hp → Prop} (hd : decode (mcode j) pc = .ok (.invokestatic idx, 3)) (hC : (mcn j, idx, j', 1, hint) ∈ tb_C) (hmk : mk_ok j' = true) (hms : mk_s j' = true) (hnp : (parseMethodDescriptor (my j').desc).map (fun q => q.parameters.length) = some vs.length) (hsm : (st.map fun v => v.category).sum ≤ 8) (hd0 : 0 < d) (ha : a' ≤ a) (hok : rok loc st = true ∨ ∀ r h', Q' r h' → hN h' = hN h)
    (hM : M cx j' (d - 1) a' vs h Q') (kk : ∀ r h', Q' r h' → E cx j d (a - a') (pc + 3) loc (r.toList ++ st) h' Q) : E cx j d a pc loc (vs.reverse ++ st) h Q := by
  intro p l e s m args below meth c h0 ad0 ad ls H locs nc ns mc ms hc h1 h2
  have hAA := hAA_of hc
  obtain ⟨w1, w2, w3, w4, w5, w6⟩ := mk_use hmk
  simp only [mk_s, decide_eq_true_eq] at hms
  have hl := List.all_eq_true.mp tb_C_ok _ hC
  simp only [ct_ok, decide_eq_true_eq] at hl
  have hts := hc.1.2.2.2.2.2.1
  have cb : CallB (rm d mc ms) s args (tb_RR (mcn j)) idx (my j') (mcode j') (mmax j') (mret j') (wsj j') (rm (d - 1) (3 * a') (500 * a')) (3 * a') (500 * a') vs.length :=
    callB_of vs.length hts (good_wsj hmk) (ws' := gT) rfl rfl rfl (hts _ w2) (hts _ (gT_of hl rfl)) ⟨w4.1, w4.2, hnp⟩ ⟨by show d - 1 + 1 ≤ d; omega, by show 8 + (mmax j' + 11) + 64 * (d - 1) ≤ 64 * d; omega⟩
  have run := va_runS (p := p) (l := l) (e := e) (below := below) (meth := meth) (locs := locs) (cells := nc) (slots := ns) (R := rm d mc ms) (H := H) (As := vs.map (cv ad)) (rest := st.map (cv ad)) (g := F0 m pc ls ((vs.reverse ++ st).map (cv ad))) (Ts := gT) (own := tb_RR (mcn j)) (nL := mmax j) (cc := mcode j)
    ⟨hc.1.1, hc.1.2.1, hc.1.2.2.2.1, hc.1.2.2.2.2.1, hts⟩ (hM l ad H.size) ⟨cb, hts _ (gT_of hms rfl)⟩
    ⟨blind, fun U hU hW => ⟨rfl, by rw [hU], by rw [hU]; exact hc.2.1.2.1, va_K.moved hW.alike hc.2.1.1, hc.2.1.2.2.1.weaken (fun _ _ _ _ => trivial), wst_call hc.2.1.2.2.2.2 (fun o ho => hc.2.2.1.1 o (by omega)) hc.2.1.2.2.2.1 hAA hU hW⟩⟩
    rfl (by simp) hc.2.2.2.1 (by simp [List.map_reverse]) (lv_room (by
      have : ((st.map (cv ad)).map fun v => v.category) = st.map fun v => v.category := by rw [List.map_map]; exact List.map_congr_left (fun v _ => cv_cat ad v)
      rw [this]; exact hsm)) hd ⟨by show nc + 3 * a' ≤ mc; omega, by show ns + 500 * a' ≤ ms; omega⟩
  exact e_back (j' := j') (vs := vs) ha hok kk hc h1 h2 hAA run
theorem e_callN {idx j' hint a' : Nat} {vs : List Value} {Q' : Option Value → Hp → Prop} (hd : decode (mcode j) pc = .ok (.invokestatic idx, 3)) (hC : (mcn j, idx, j', 2, hint) ∈ tb_C) (hmk : mk_ok j' = true) (hms : mk_s j' = true) (hnp : (parseMethodDescriptor (my j').desc).map (fun q => q.parameters.length) = some vs.length) (hsm : (st.map fun v => v.category).sum ≤ 8) (hd0 : 0 < d) (ha : a' ≤ a) (hok : rok loc st = true ∨ ∀ r h', Q' r h' → hN h' = hN h)
    (hM : M cx j' (d - 1) a' vs h Q') (kk : ∀ r h', Q' r h' → E cx j d (a - a') (pc + 3) loc (r.toList ++ st) h' Q) : E cx j d a pc loc (vs.reverse ++ st) h Q := by
  intro p l e s m args below meth c h0 ad0 ad ls H locs nc ns mc ms hc h1 h2
  have hAA := hAA_of hc
  obtain ⟨w1, w2, w3, w4, w5, w6⟩ := mk_use hmk
  simp only [mk_s, decide_eq_true_eq] at hms
  have hts := hc.1.2.2.2.2.2.1
  have hnw := hc.2.1.2.2.2.2.2.2 _ hC rfl
  have cb : va_CN (rm d mc ms) s args (tb_RR (mcn j)) idx (my j') "FiveTouch" (mcode j') (mmax j') (mret j') (wsj j') (rm (d - 1) (3 * a') (500 * a')) (3 * a') (500 * a') vs.length :=
    va_cnB vs.length hts (good_wsj hmk) (ws' := gT) rfl rfl rfl hnw (hts _ w2) ⟨w4.1, w4.2, hnp⟩ ⟨by show d - 1 + 1 ≤ d; omega, by show 8 + (mmax j' + 11) + 64 * (d - 1) ≤ 64 * d; omega⟩
  have run := va_runSN (p := p) (l := l) (e := e) (below := below) (meth := meth) (locs := locs) (cells := nc) (slots := ns) (R := rm d mc ms) (H := H) (As := vs.map (cv ad)) (rest := st.map (cv ad)) (g := F0 m pc ls ((vs.reverse ++ st).map (cv ad))) (Ts := gT) (own := tb_RR (mcn j)) (nL := mmax j) (cc := mcode j)
    ⟨hc.1.1, hc.1.2.1, hc.1.2.2.2.1, hc.1.2.2.2.2.1, hts⟩ (hM l ad H.size) ⟨cb, hts _ (gT_of hms rfl), trivial⟩
    ⟨blind, fun U hU hW => ⟨rfl, by rw [hU], by rw [hU]; exact hc.2.1.2.1, va_K.moved hW.alike hc.2.1.1, hc.2.1.2.2.1.weaken (fun _ _ _ _ => trivial), wst_call hc.2.1.2.2.2.2 (fun o ho => hc.2.2.1.1 o (by omega)) hc.2.1.2.2.2.1 hAA hU hW⟩⟩
    rfl (by simp) hc.2.2.2.1 (by simp [List.map_reverse]) (lv_room (by
      have : ((st.map (cv ad)).map fun v => v.category) = st.map fun v => v.category := by rw [List.map_map]; exact List.map_congr_left (fun v _ => cv_cat ad v)
      rw [this]; exact hsm)) hd ⟨by show nc + 3 * a' ≤ mc; omega, by show ns + 500 * a' ≤ ms; omega⟩
  exact e_back (j' := j') (vs := vs) ha hok kk hc h1 h2 hAA run
/-! a contract out of its first instruction -/
def lent : List Value → Lc
  | [] => []
  | v :: t => if v.category = 2 then some v :: none :: lent t else some v :: lent t
theorem lent_args {ad : Nat → Nat} {vs : List Value} : ∀ (i n : Nat) (v : Value), lnth (lent vs) i = some v → (n + i, cv ad v) ∈ lv_args n (vs.map (cv ad)) := by
  induction vs with
  | nil => intro i n v h; simp [lent, lnth] at h
  | cons w t ih =>
    intro i n v h
    by_cases hw : w.category = 2
    · simp only [lent, hw, if_true] at h
      simp only [List.map_cons, lv_args, cv_cat, hw, if_true]
      match i, h with
      | 0, h => simp [lnth] at h; subst h; exact List.mem_cons_self
      | 1, h => simp [lnth] at h
      | i + 2, h =>
        have := ih i (n + 2) v (by simpa [lnth] using h)
        rw [show n + (i + 2) = n + 2 + i by omega]
        exact List.mem_cons_of_mem _ this
    · simp only [lent, hw, if_false] at h
      simp only [List.map_cons, lv_args, cv_cat, hw, if_false]
      match i, h with
      | 0, h => simp [lnth] at h; subst h; exact List.mem_cons_self
      | i + 1, h =>
        have := ih i (n + 1) v (by simpa [lnth] using h)
        rw [show n + (i + 1) = n + 1 + i by omega]
        exact List.mem_cons_of_mem _ this
theorem lent_len {ad : Nat → Nat} {vs : List Value} : (lg_sl (vs.map (cv ad))).length = (lent vs).length := by
  induction vs with
  | nil => rfl
  | cons w t ih =>
    by_cases hw : w.category = 2
    · simp [lg_sl, lent, cv_cat, hw] at ih ⊢; omega
    · simp [lg_sl, lent, cv_cat, hw] at ih ⊢; omega
theorem m_of {vs : List Value} (hmk : mk_ok j = true) (hn : (lent vs).length ≤ mmax j) (k : E cx j d a 0 (lent vs) [] h Q) : M cx j d a vs h Q := by
  intro l ad sz
  obtain ⟨w1, w2, w3, w4, w5, w6⟩ := mk_use hmk
  refine Met.ofW (cc := mcode j) (maxL := mmax j) (ret := mret j) w6 (ws' := gT) rfl ?_
  intro p e s m args below meth c s₁ B hml hv
  obtain ⟨rfl, hsz, hP, hK, hD0, hWst⟩ := hv
  have hts := atoms_spec (ws := wsj j) B.pre
  have hown : s.vm.findClass (my j).cls = some m.cls := findClass_of_methodNamed B.named
  subst hsz
  have hl := lv_entry (vs.map (cv ad)) (n := mmax j) (by rw [lent_len]; exact hn)
  rw [lg_entry_eq]
  generalize (lg_sl (vs.map (cv ad)) ++ List.replicate (mmax j - (lg_sl (vs.map (cv ad))).length) Slot.unset).toArray = ls at hl ⊢
  have hlv : lvok ad ls (mmax j) (lent vs) := ⟨hl.1, hl.2.1, fun i v hv => by
    have := hl.2.2 _ (lent_args (ad := ad) i 0 v hv)
    simpa using this⟩
  exact k p l e s m _ below meth c h ad ad ls s.heap [] 0 0 (3 * a) (500 * a) ⟨⟨B.exec, B.bytes, B.returns, hml, by rw [w5]; exact hown, fun w hw => hts w (List.mem_cons_of_mem _ hw), B.notSynchronized⟩, ⟨hK, hP, hD0.self, va_S.rf, hWst⟩, ⟨fun _ _ => rfl, Nat.le_refl _, fun _ => rfl⟩, hlv⟩ (by omega) (by omega)
end EC
end
section
/-! how many arguments a method takes; calls by the tables -/
def tb_np : List Nat := [0, 4, 3, 4, 4, 3, 1, 0, 0, 0, 1, 1, 0, 1, 2, 2, 1, 1, 1, 2, 1, 1, 1, 1, 2, 3, 3, 4, 1, 1, 1, 0, 0, 2, 1, 1, 1, 0, 1, 1, 1, 1, 1, 1, 1, 3, 0, 0, 0, 1, 1, 2, 1, 0, 0, 4, 1, 2, 1, 3, 0, 0, 1, 1, 2, 2, 0, 1, 1, 2, 0, 1, 1, 0, 0, 0, 0, 1, 2, 1, 0, 0, 0, 1, 0, 1, 5, 5, 6, 3, 2, 1, 2, 1, 0, 1, 1, 0, 5, 4, 1, 0, 5, 5, 3, 2, 2, 5, 1, 0, 0, 0, 0, 1, 2, 2, 0, 0, 1, 2, 2, 1, 2, 1, 1, 1, 1, 5, 1, 1, 2, 2, 1, 1, 1, 1, 0, 1, 1, 6, 1, 0, 3, 2, 3, 1, 1, 2, 1, 0, 1, 1, 0, 0, 1, 2, 1, 3, 5, 4, 6, 5, 5, 5, 3, 2, 2, 0, 0, 5, 1, 1, 1, 2, 1, 0, 0, 1, 1, 0, 1, 0, 1, 1, 1, 1, 1, 1, 0, 0, 0, 1, 1, 1, 2, 1, 1, 1, 1, 1, 1, 1, 1, 2, 0, 2, 1, 1, 2, 2, 0, 0, 1, 1, 1, 2, 2, 1, 2, 0, 2, 1, 1, 1, 1, 1, 1, 5, 1, 1, 2, 1, 2, 1, 1, 0, 1, 2, 2, 2, 2, 0, 1, 0, 0, 2, 2, 2, 1, 2, 2, 3, 1]
def np_f (j : Nat) : Bool := decide ((parseMethodDescriptor (my j).desc).map (fun q => q.parameters.length) = some (tb_np.getD j 0))
theorem np_ok_0 : ((rg 0).all np_f) = true := by decide +kernel
theorem np_ok_1 : ((rg 1).all np_f) = true := by decide +kernel
theorem np_ok_2 : ((rg 2).all np_f) = true := by decide +kernel
theorem np_ok_3 : ((rg 3).all np_f) = true := by decide +kernel
theorem np_ok_4 : ((rg 4).all np_f) = true := by decide +kernel
theorem np_ok_5 : ((rg 5).all np_f) = true := by decide +kernel
theorem np_ok_6 : ((rg 6).all np_f) = true := by decide +kernel
theorem np_ok_7 : ((rg 7).all np_f) = true := by decide +kernel
theorem np_ok_8 : ((rg 8).all np_f) = true := by decide +kernel
theorem np_ok : ((List.range 252).all np_f) = true := by
  refine List.all_eq_true.mpr fun k hk => ?_
  have hk := List.mem_range.mp hk
  have key : ∀ i, ((rg i).all np_f) = true → k / 28 = i → np_f k = true := fun i hi e => List.all_eq_true.mp hi k (rg_mem e)
  by_cases c0 : k / 28 = 0
  · exact key _ np_ok_0 c0
  by_cases c1 : k / 28 = 1
  · exact key _ np_ok_1 c1
  by_cases c2 : k / 28 = 2
  · exact key _ np_ok_2 c2
  by_cases c3 : k / 28 = 3
  · exact key _ np_ok_3 c3
  by_cases c4 : k / 28 = 4
  · exact key _ np_ok_4 c4
  by_cases c5 : k / 28 = 5
  · exact key _ np_ok_5 c5
  by_cases c6 : k / 28 = 6
  · exact key _ np_ok_6 c6
  by_cases c7 : k / 28 = 7
  · exact key _ np_ok_7 c7
  by_cases c8 : k / 28 = 8
  · exact key _ np_ok_8 c8
  omega
theorem ct_v : (tb_C.all (fun q => !(q.2.2.2.1 == 0) || !decide (mcn q.2.2.1 < 13) || decide ((my q.2.2.1).name ≠ "<init>") && decide ((mh q.2.2.1).1 = 0) && decide (q.2.2.1 < 252))) = true := by decide +kernel
theorem ct_s : (tb_C.all (fun q => !(q.2.2.2.1 == 1 || q.2.2.2.1 == 2) || !decide (mcn q.2.2.1 < 13) || decide ((mh q.2.2.1).1 = 1) && decide (q.2.2.1 < 252))) = true := by decide +kernel
theorem use_np {k : Nat} (hk : k < 252) : (parseMethodDescriptor (my k).desc).map (fun q => q.parameters.length) = some (tb_np.getD k 0) := by
  have := List.all_eq_true.mp np_ok k (List.mem_range.mpr hk)
  simpa only [np_f, decide_eq_true_eq] using this
theorem use_mk {k : Nat} (hk : k < 252) (hc : mcn k < 13) : mk_ok k = true := by
  have := List.all_eq_true.mp mk_all k (List.mem_range.mpr hk)
  simp only [mk_f1, Bool.or_eq_true, decide_eq_true_eq] at this
  rcases this with h | h
  · omega
  · exact h
theorem use_v {k own idx hint : Nat} (hc : mcn k < 13) (h : (own, idx, k, 0, hint) ∈ tb_C) : mk_ok k = true ∧ mk_v k = true ∧ k < 252 := by
  have h1 := List.all_eq_true.mp ct_v _ h
  simp only [beq_self_eq_true, Bool.not_true, Bool.false_or, hc, decide_true, Bool.and_eq_true, decide_eq_true_eq] at h1
  refine ⟨use_mk h1.2 hc, ?_, h1.2⟩
  have := List.all_eq_true.mp mk_all2 k (List.mem_range.mpr h1.2)
  unfold mk_f2 at this
  rw [h1.1.2] at this
  simp only [Bool.or_eq_true, decide_eq_true_eq] at this
  rcases this with h | h | h
  · omega
  · exact absurd h h1.1.1
  · exact h
theorem use_s {k own idx hint t : Nat} (ht : t = 1 ∨ t = 2) (hc : mcn k < 13) (h : (own, idx, k, t, hint) ∈ tb_C) : mk_ok k = true ∧ mk_s k = true ∧ k < 252 := by
  have h1 := List.all_eq_true.mp ct_s _ h
  have h2 : decide ((mh k).1 = 1) && decide (k < 252) = true := by
    rcases ht with rfl | rfl <;> simpa [hc] using h1
  simp only [Bool.and_eq_true, decide_eq_true_eq] at h2
  refine ⟨use_mk h2.2 hc, ?_, h2.2⟩
  have := List.all_eq_true.mp mk_all2 k (List.mem_range.mpr h2.2)
  unfold mk_f2 at this
  rw [h2.1] at this
  simp only [Bool.or_eq_true, decide_eq_true_eq] at this
  rcases this with h | h
  · omega
  · exact h
end
section
/-! what must hold for a stretch of code to go on: computed from the listed instructions -/
abbrev Ins : Type := Instr × Nat × Nat × Nat × Int32
def ilen (i : Instr) : Nat := match i with
  | .bipush _ | .iload _ | .istore _ | .aload _ | .astore _ | .lload _ | .lstore _ | .ldc _ => 2
  | .sipush _ | .iinc _ _ | .getfield _ | .putfield _ | .invokevirtual _ | .invokestatic _ | .invokespecial _ | .ldc_w _ | .ldc2_w _ | .ifCond _ _ | .if_icmp _ _ | .goto _ | .ifnull _ | .ifnonnull _ | .new _ => 3
  | _ => 1
def lawp (h : Hp) (o : Nat) : Prop := 126 ≤ o ∧ o < 126 + 3 * hN h ∧ (o - 126) % 3 = 0
def lawa (h : Hp) (o : Nat) : Prop := 126 ≤ o ∧ o < 126 + 3 * hN h ∧ (o - 126) % 3 ≠ 0
def g1i (st : List Value) (k : Int32 → List Value → Prop) : Prop := match st with | .int x :: r => k x r | _ => False
def g2i (st : List Value) (k : Int32 → Int32 → List Value → Prop) : Prop := match st with | .int y :: .int x :: r => k x y r | _ => False
def g1l (st : List Value) (k : Int64 → List Value → Prop) : Prop := match st with | .long x :: r => k x r | _ => False
def g2l (st : List Value) (k : Int64 → Int64 → List Value → Prop) : Prop := match st with | .long y :: .long x :: r => k x y r | _ => False
def gil (st : List Value) (k : Int64 → Int32 → List Value → Prop) : Prop := match st with | .int y :: .long x :: r => k x y r | _ => False
def g1r (st : List Value) (k : Nat → List Value → Prop) : Prop := match st with | .ref o :: r => k o r | _ => False
def gir (st : List Value) (k : Int32 → Nat → List Value → Prop) : Prop := match st with | .int i :: .ref o :: r => k i o r | _ => False
def giir (st : List Value) (k : Int32 → Int32 → Nat → List Value → Prop) : Prop := match st with | .int x :: .int i :: .ref o :: r => k x i o r | _ => False
def glir (st : List Value) (k : Int64 → Int32 → Nat → List Value → Prop) : Prop := match st with | .long x :: .int i :: .ref o :: r => k x i o r | _ => False
def gv (st : List Value) (k : Value → List Value → Prop) : Prop := match st with | .int x :: r => k (.int x) r | .ref x :: r => k (.ref x) r | .null :: r => k .null r | _ => False
def ga (st : List Value) (k : Value → List Value → Prop) : Prop := match st with | .ref x :: r => k (.ref x) r | .null :: r => k .null r | _ => False
def lI (loc : Lc) (i : Nat) (k : Int32 → Prop) : Prop := match lnth loc i with | some (.int x) => k x | _ => False
def lJ (loc : Lc) (i : Nat) (k : Int64 → Prop) : Prop := match lnth loc i with | some (.long x) => k x | _ => False
def lA (loc : Lc) (i : Nat) (k : Value → Prop) : Prop := match lnth loc i with | some (.ref x) => k (.ref x) | some .null => k .null | _ => False
/-- the last n values, the first of them in front -/
def popn : Nat → List Value → List Value → (List Value → List Value → Prop) → Prop
  | 0, st, acc, k => k acc st
  | n + 1, v :: st, acc, k => popn n st (v :: acc) k
  | _ + 1, [], _, _ => False
def sw (cx : Cx) (j d a : Nat) (loc : Lc) (st : List Value) (h : Hp) (Q : Option Value → Hp → Prop) (v : Int32) (pc : Nat) : Nat → List Int → Prop
  | _, [] => True
  | k, t :: ts => (v = Int32.ofNat k → E cx j d a ((pc : Int) + t).toNat loc st h Q) ∧ sw cx j d a loc st h Q v pc (k + 1) ts
def isB (v : Int32) : Prop := v = 0 ∨ v = 1
def kl (x y : Nat) : Int64 := match y with | 0 => Int64.ofNat x | _ => -Int64.ofNat x
def wp (cx : Cx) (j d : Nat) (Q : Option Value → Hp → Prop) : List Ins → Nat → Nat → Lc → List Value → Hp → Prop
  | [], pc, a, loc, st, h => E cx j d a pc loc st h Q
  | (ins, x, y, z, c) :: r, pc, a, loc, st, h => match ins with
    | .iload_n n => lI loc n fun v => wp cx j d Q r (pc + 1) a loc (.int v :: st) h
    | .iload n => lI loc n fun v => wp cx j d Q r (pc + 2) a loc (.int v :: st) h
    | .lload_n n => lJ loc n fun v => wp cx j d Q r (pc + 1) a loc (.long v :: st) h
    | .lload n => lJ loc n fun v => wp cx j d Q r (pc + 2) a loc (.long v :: st) h
    | .aload_n n => lA loc n fun v => wp cx j d Q r (pc + 1) a loc (v :: st) h
    | .aload n => lA loc n fun v => wp cx j d Q r (pc + 2) a loc (v :: st) h
    | .istore_n n => g1i st fun v st => wp cx j d Q r (pc + 1) a (lsto loc n (.int v)) st h
    | .istore n => g1i st fun v st => wp cx j d Q r (pc + 2) a (lsto loc n (.int v)) st h
    | .lstore_n n => g1l st fun v st => wp cx j d Q r (pc + 1) a (lst2 loc n (.long v)) st h
    | .lstore n => g1l st fun v st => wp cx j d Q r (pc + 2) a (lst2 loc n (.long v)) st h
    | .astore_n n => ga st fun v st => wp cx j d Q r (pc + 1) a (lsto loc n v) st h
    | .astore n => ga st fun v st => wp cx j d Q r (pc + 2) a (lsto loc n v) st h
    | .iinc n _ => lI loc n fun v => wp cx j d Q r (pc + 3) a (lsto loc n (.int (v + c))) st h
    | .iconst _ => wp cx j d Q r (pc + 1) a loc (.int c :: st) h
    | .bipush _ => wp cx j d Q r (pc + 2) a loc (.int c :: st) h
    | .sipush _ => wp cx j d Q r (pc + 3) a loc (.int c :: st) h
    | .lconst _ => wp cx j d Q r (pc + 1) a loc (.long (kl x 0) :: st) h
    | .ldc _ => match y with
      | 0 => wp cx j d Q r (pc + 2) a loc (.int c :: st) h
      | _ => wp cx j d Q r (pc + 2) a loc (.ref (1 + x) :: st) h
    | .ldc_w _ => wp cx j d Q r (pc + 3) a loc (.int c :: st) h
    | .ldc2_w _ => wp cx j d Q r (pc + 3) a loc (.long (kl x y) :: st) h
    | .aconst_null => wp cx j d Q r (pc + 1) a loc (.null :: st) h
    | .dup => gv st fun v st => wp cx j d Q r (pc + 1) a loc (v :: v :: st) h
    | .dup2 => gir st fun v w st => wp cx j d Q r (pc + 1) a loc (.int v :: .ref w :: .int v :: .ref w :: st) h
    | .pop => gv st fun _ st => wp cx j d Q r (pc + 1) a loc st h
    | .iadd => g2i st fun p q st => wp cx j d Q r (pc + 1) a loc (.int (p + q) :: st) h
    | .isub => g2i st fun p q st => wp cx j d Q r (pc + 1) a loc (.int (p - q) :: st) h
    | .imul => g2i st fun p q st => wp cx j d Q r (pc + 1) a loc (.int (p * q) :: st) h
    | .iand => g2i st fun p q st => wp cx j d Q r (pc + 1) a loc (.int (p &&& q) :: st) h
    | .ior => g2i st fun p q st => wp cx j d Q r (pc + 1) a loc (.int (p ||| q) :: st) h
    | .ixor => g2i st fun p q st => wp cx j d Q r (pc + 1) a loc (.int (p ^^^ q) :: st) h
    | .ishl => g2i st fun p q st => wp cx j d Q r (pc + 1) a loc (.int (p <<< (q &&& 31)) :: st) h
    | .ishr => g2i st fun p q st => wp cx j d Q r (pc + 1) a loc (.int (p >>> (q &&& 31)) :: st) h
    | .iushr => g2i st fun p q st => wp cx j d Q r (pc + 1) a loc (.int ((p.toUInt32 >>> (q.toUInt32 &&& Int32.toUInt32 31)).toInt32) :: st) h
    | .idiv => g2i st fun p q st => ¬ q = 0 ∧ wp cx j d Q r (pc + 1) a loc (.int (p / q) :: st) h
    | .irem => g2i st fun p q st => ¬ q = 0 ∧ wp cx j d Q r (pc + 1) a loc (.int (p - p / q * q) :: st) h
    | .ineg => g1i st fun p st => wp cx j d Q r (pc + 1) a loc (.int (-p) :: st) h
    | .ladd => g2l st fun p q st => wp cx j d Q r (pc + 1) a loc (.long (p + q) :: st) h
    | .lsub => g2l st fun p q st => wp cx j d Q r (pc + 1) a loc (.long (p - q) :: st) h
    | .lmul => g2l st fun p q st => wp cx j d Q r (pc + 1) a loc (.long (p * q) :: st) h
    | .land => g2l st fun p q st => wp cx j d Q r (pc + 1) a loc (.long (p &&& q) :: st) h
    | .lor => g2l st fun p q st => wp cx j d Q r (pc + 1) a loc (.long (p ||| q) :: st) h
    | .ldiv => g2l st fun p q st => ¬ q = 0 ∧ wp cx j d Q r (pc + 1) a loc (.long (p / q) :: st) h
    | .lrem => g2l st fun p q st => ¬ q = 0 ∧ wp cx j d Q r (pc + 1) a loc (.long (p - p / q * q) :: st) h
    | .lshl => gil st fun p q st => wp cx j d Q r (pc + 1) a loc (.long (p <<< (q.toInt64 &&& 63)) :: st) h
    | .lshr => gil st fun p q st => wp cx j d Q r (pc + 1) a loc (.long (p >>> (q.toInt64 &&& 63)) :: st) h
    | .lcmp => g2l st fun p q st => wp cx j d Q r (pc + 1) a loc (.int (lg_cmp p q) :: st) h
    | .i2l => g1i st fun p st => wp cx j d Q r (pc + 1) a loc (.long p.toInt64 :: st) h
    | .l2i => g1l st fun p st => wp cx j d Q r (pc + 1) a loc (.int p.toInt32 :: st) h
    | .i2b => g1i st fun p st => wp cx j d Q r (pc + 1) a loc (.int p.toInt8.toInt32 :: st) h
    | .getfield _ => g1r st fun o st => match x with
      | 3 => lawp h o ∧ (match y with
        | 2 => wp cx j d Q r (pc + 3) a loc (.int (hI h o 2) :: st) h
        | _ => wp cx j d Q r (pc + 3) a loc (.ref (o + 1 + y) :: st) h)
      | _ => match Nat.beq (ly_sk o) x with
        | true => (match ly_fk x y with
          | true => wp cx j d Q r (pc + 3) a loc (.ref (ly_rf o y) :: st) h
          | false => wp cx j d Q r (pc + 3) a loc (.int (hI h o y) :: st) h)
        | false => False
    | .putfield _ => match st with
      | .int v :: .ref o :: st => (match Nat.beq (ly_sk o) x with
        | true => (match z with
          | 0 => wp cx j d Q r (pc + 3) a loc st (wI h o y v)
          | _ => isB v ∧ wp cx j d Q r (pc + 3) a loc st (wI h o y v))
        | false => False)
      | _ => False
    | .iaload => gir st fun i o st => match x with
      | 0 => (match Nat.beq (ly_sk o) 20 with
        | true => vp_in i (ly_al o) ∧ wp cx j d Q r (pc + 1) a loc (.int (hI h o i.toNatClampNeg) :: st) h
        | false => False)
      | 1 => lawa h o ∧ vp_in i (hL h o) ∧ wp cx j d Q r (pc + 1) a loc (.int (hI h o i.toNatClampNeg) :: st) h
      | _ => (match o with
        | 0 => vp_in i (cxL cx) ∧ wp cx j d Q r (pc + 1) a loc (.int (cxX cx i.toNatClampNeg) :: st) h
        | _ => False)
    | .baload => gir st fun i o st => match ly_sk o with
      | 22 => vp_in i (ly_al o) ∧ wp cx j d Q r (pc + 1) a loc (.int (hI h o i.toNatClampNeg) :: st) h
      | 23 => vp_in i (ly_al o) ∧ wp cx j d Q r (pc + 1) a loc (.int (hI h o i.toNatClampNeg) :: st) h
      | _ => False
    | .laload => gir st fun i o st => match Nat.beq (ly_sk o) 21 with
      | true => vp_in i (ly_al o) ∧ wp cx j d Q r (pc + 1) a loc (.long (hJ h o i.toNatClampNeg) :: st) h
      | false => False
    | .aaload => gir st fun i o st => match ly_sk o with
      | 24 => vp_in i (ly_al o) ∧ wp cx j d Q r (pc + 1) a loc (vr (hR h o i.toNatClampNeg) :: st) h
      | 25 => vp_in i (ly_al o) ∧ wp cx j d Q r (pc + 1) a loc (vr (hR h o i.toNatClampNeg) :: st) h
      | _ => False
    | .iastore => giir st fun v i o st => match Nat.beq (ly_sk o) 20 with
      | true => vp_in i (ly_al o) ∧ wp cx j d Q r (pc + 1) a loc st (wI h o i.toNatClampNeg v)
      | false => False
    | .bastore => giir st fun v i o st => match ly_sk o with
      | 22 => vp_in i (ly_al o) ∧ wp cx j d Q r (pc + 1) a loc st (wI h o i.toNatClampNeg (vp_nar .boolean v))
      | 23 => vp_in i (ly_al o) ∧ wp cx j d Q r (pc + 1) a loc st (wI h o i.toNatClampNeg (vp_nar .byte v))
      | _ => False
    | .lastore => glir st fun v i o st => match Nat.beq (ly_sk o) 21 with
      | true => vp_in i (ly_al o) ∧ wp cx j d Q r (pc + 1) a loc st (wJ h o i.toNatClampNeg v)
      | false => False
    | .aastore => match st with
      | .ref v :: .int i :: .ref o :: st => (match Nat.beq (ly_sk o) 25 with
        | true => vp_in i (ly_al o) ∧ lawp h v ∧ wp cx j d Q r (pc + 1) a loc st (wR h o i.toNatClampNeg (some v))
        | false => False)
      | .null :: .int i :: .ref o :: st => (match Nat.beq (ly_sk o) 25 with
        | true => vp_in i (ly_al o) ∧ wp cx j d Q r (pc + 1) a loc st (wR h o i.toNatClampNeg none)
        | false => False)
      | _ => False
    | .arraylength => g1r st fun o st => match x with
      | 0 => (match ly_sk o with
        | 20 => wp cx j d Q r (pc + 1) a loc (.int (Int32.ofNat (ly_al o)) :: st) h
        | 21 => wp cx j d Q r (pc + 1) a loc (.int (Int32.ofNat (ly_al o)) :: st) h
        | 23 => wp cx j d Q r (pc + 1) a loc (.int (Int32.ofNat (ly_al o)) :: st) h
        | _ => False)
      | 1 => lawa h o ∧ wp cx j d Q r (pc + 1) a loc (.int (Int32.ofNat (hL h o)) :: st) h
      | _ => (match o with
        | 0 => wp cx j d Q r (pc + 1) a loc (.int (Int32.ofNat (cxL cx)) :: st) h
        | _ => False)
    | .ifCond b _ => g1i st fun v st => match b with
      | .eq => (v = 0 → E cx j d a x loc st h Q) ∧ (¬ v = 0 → wp cx j d Q r (pc + 3) a loc st h)
      | .ne => (¬ v = 0 → E cx j d a x loc st h Q) ∧ (v = 0 → wp cx j d Q r (pc + 3) a loc st h)
      | .lt => (v < 0 → E cx j d a x loc st h Q) ∧ (¬ v < 0 → wp cx j d Q r (pc + 3) a loc st h)
      | .ge => (0 ≤ v → E cx j d a x loc st h Q) ∧ (¬ 0 ≤ v → wp cx j d Q r (pc + 3) a loc st h)
      | .gt => (0 < v → E cx j d a x loc st h Q) ∧ (¬ 0 < v → wp cx j d Q r (pc + 3) a loc st h)
      | .le => (v ≤ 0 → E cx j d a x loc st h Q) ∧ (¬ v ≤ 0 → wp cx j d Q r (pc + 3) a loc st h)
    | .if_icmp b _ => g2i st fun v w st => match b with
      | .eq => (v = w → E cx j d a x loc st h Q) ∧ (¬ v = w → wp cx j d Q r (pc + 3) a loc st h)
      | .ne => (¬ v = w → E cx j d a x loc st h Q) ∧ (v = w → wp cx j d Q r (pc + 3) a loc st h)
      | .lt => (v < w → E cx j d a x loc st h Q) ∧ (¬ v < w → wp cx j d Q r (pc + 3) a loc st h)
      | .ge => (w ≤ v → E cx j d a x loc st h Q) ∧ (¬ w ≤ v → wp cx j d Q r (pc + 3) a loc st h)
      | .gt => (w < v → E cx j d a x loc st h Q) ∧ (¬ w < v → wp cx j d Q r (pc + 3) a loc st h)
      | .le => (v ≤ w → E cx j d a x loc st h Q) ∧ (¬ v ≤ w → wp cx j d Q r (pc + 3) a loc st h)
    | .ifnull _ => match st with
      | .ref _ :: st => wp cx j d Q r (pc + 3) a loc st h
      | .null :: st => E cx j d a x loc st h Q
      | _ => False
    | .ifnonnull _ => match st with
      | .ref _ :: st => E cx j d a x loc st h Q
      | .null :: st => wp cx j d Q r (pc + 3) a loc st h
      | _ => False
    | .goto _ => E cx j d a x loc st h Q
    | .tableswitch _ _ _ offs => g1i st fun v st => ((∀ k : Nat, k < offs.size → v ≠ Int32.ofNat k) → E cx j d a x loc st h Q) ∧ sw cx j d a loc st h Q v pc 0 offs.toList
    | .ireturn => match st with
      | [.int v] => (match x with
        | 0 => Q (some (.int v)) h
        | _ => isB v ∧ Q (some (.int v)) h)
      | _ => False
    | .lreturn => match st with
      | [.long v] => Q (some (.long v)) h
      | _ => False
    | .areturn => match st with
      | [.ref v] => Q (some (.ref v)) h
      | [.null] => Q (some .null) h
      | _ => False
    | .return_ => match st with
      | [] => Q none h
      | _ => False
    | .invokevirtual _ => popn y st [] fun vs st => g1r st fun o st =>
        (match z with | 3 => lawp h o | _ => Nat.beq (ly_sk o) z = true) ∧ (st.map fun v => v.category).sum ≤ 8 ∧ 0 < d ∧
        ∃ (a' : Nat) (Q' : Option Value → Hp → Prop), a' ≤ a ∧ (rok loc st = true ∨ ∀ r h', Q' r h' → hN h' = hN h) ∧ M cx x (d - 1) a' (.ref o :: vs) h Q' ∧ ∀ v h', Q' v h' → wp cx j d Q r (pc + 3) (a - a') loc (v.toList ++ st) h'
    | .invokestatic _ => match z with
      | 0 => popn y st [] fun vs st => (st.map fun v => v.category).sum ≤ 8 ∧ 0 < d ∧
        ∃ (a' : Nat) (Q' : Option Value → Hp → Prop), a' ≤ a ∧ (rok loc st = true ∨ ∀ r h', Q' r h' → hN h' = hN h) ∧ M cx x (d - 1) a' vs h Q' ∧ ∀ v h', Q' v h' → wp cx j d Q r (pc + 3) (a - a') loc (v.toList ++ st) h'
      | _ => (match x with
        | 237 => g2i st fun p q st => ((st.map fun v => v.category).sum ≤ 40 ∧ 0 < d) ∧ wp cx j d Q r (pc + 3) a loc (.int (if p < q then q else p) :: st) h
        | 239 => g2i st fun p q st => ((st.map fun v => v.category).sum ≤ 40 ∧ 0 < d) ∧ wp cx j d Q r (pc + 3) a loc (.int (if q < p then q else p) :: st) h
        | 238 => g2l st fun p q st => ((st.map fun v => v.category).sum ≤ 40 ∧ 0 < d) ∧ wp cx j d Q r (pc + 3) a loc (.long (if q < p then p else q) :: st) h
        | 240 => g2l st fun p q st => ((st.map fun v => v.category).sum ≤ 40 ∧ 0 < d) ∧ wp cx j d Q r (pc + 3) a loc (.long (if q < p then q else p) :: st) h
        | _ => False)
    | _ => False
end
section
/-! the listed instructions are the method's, and their words stand in the tables -/
def dec1 (j pc : Nat) (ins : Instr) : Bool := match decode (mcode j) pc with
  | .ok (i, n) => decide (i = ins) && (n == ilen ins)
  | .error _ => false
def dec2 (j pc : Nat) (ins : Instr) : Bool := match decode (mcode j) pc with
  | .ok (i, _) => decide (i = ins)
  | .error _ => false
theorem dec1_ok {j pc : Nat} {ins : Instr} (h : dec1 j pc ins = true) : decode (mcode j) pc = .ok (ins, ilen ins) := by
  unfold dec1 at h
  match hq : decode (mcode j) pc, h with
  | .ok (i, n), h =>
    simp only [Bool.and_eq_true, decide_eq_true_eq, beq_iff_eq] at h
    rw [h.1, h.2]
theorem dec2_ok {j pc : Nat} {ins : Instr} (h : dec2 j pc ins = true) : ∃ n, decode (mcode j) pc = .ok (ins, n) := by
  unfold dec2 at h
  match hq : decode (mcode j) pc, h with
  | .ok (i, n), h =>
    simp only [decide_eq_true_eq] at h
    exact ⟨n, by rw [h]⟩
def chF (j idx x y : Nat) : Bool := tb_F.any (fun q => q.1 == mcn j && q.2.1 == idx && q.2.2.1 == x && q.2.2.2.1 == y)
def chC (j idx x t : Nat) : Bool := tb_C.any (fun q => q.1 == mcn j && q.2.1 == idx && q.2.2.1 == x && q.2.2.2.1 == t)
theorem chF_ok {j idx x y : Nat} (h : chF j idx x y = true) : ∃ hint, (mcn j, idx, x, y, hint) ∈ tb_F := by
  obtain ⟨q, hq, h⟩ := List.any_eq_true.mp h
  simp only [Bool.and_eq_true, beq_iff_eq] at h
  obtain ⟨⟨⟨h1, h2⟩, h3⟩, h4⟩ := h
  refine ⟨q.2.2.2.2, ?_⟩
  rw [← h1, ← h2, ← h3, ← h4]; exact hq
theorem chC_ok {j idx x t : Nat} (h : chC j idx x t = true) : ∃ hint, (mcn j, idx, x, t, hint) ∈ tb_C := by
  obtain ⟨q, hq, h⟩ := List.any_eq_true.mp h
  simp only [Bool.and_eq_true, beq_iff_eq] at h
  obtain ⟨⟨⟨h1, h2⟩, h3⟩, h4⟩ := h
  refine ⟨q.2.2.2.2, ?_⟩
  rw [← h1, ← h2, ← h3, ← h4]; exact hq
def chI (j idx : Nat) (c : Int32) : Bool := tb_KI.any (fun q => q.1 == mcn j && q.2.1 == idx && decide (q.2.2.1 = c))
theorem chI_ok {j idx : Nat} {c : Int32} (h : chI j idx c = true) : ∃ hint, (mcn j, idx, c, hint) ∈ tb_KI := by
  obtain ⟨q, hq, h⟩ := List.any_eq_true.mp h
  simp only [Bool.and_eq_true, beq_iff_eq, decide_eq_true_eq] at h
  obtain ⟨⟨h1, h2⟩, h3⟩ := h
  refine ⟨q.2.2.2, ?_⟩
  rw [← h1, ← h2, ← h3]; exact hq
def chL (j idx : Nat) (c : Int64) : Bool := tb_KL.any (fun q => q.1 == mcn j && q.2.1 == idx && decide (q.2.2.1 = c))
theorem chL_ok {j idx : Nat} {c : Int64} (h : chL j idx c = true) : ∃ hint, (mcn j, idx, c, hint) ∈ tb_KL := by
  obtain ⟨q, hq, h⟩ := List.any_eq_true.mp h
  simp only [Bool.and_eq_true, beq_iff_eq, decide_eq_true_eq] at h
  obtain ⟨⟨h1, h2⟩, h3⟩ := h
  refine ⟨q.2.2.2, ?_⟩
  rw [← h1, ← h2, ← h3]; exact hq
def tgt (pc : Nat) (off : Int) (x : Nat) : Bool := decide ((pc : Int) + off = (x : Int))
def chk1 (j pc : Nat) (ins : Instr) (x y z : Nat) (c : Int32) : Bool := match ins with
  | .istore_n n => decide ((n : Nat) < mmax j)
  | .istore n => decide (n < mmax j)
  | .lstore_n n => decide ((n : Nat) + 1 < mmax j)
  | .lstore n => decide (n + 1 < mmax j)
  | .astore_n n => decide ((n : Nat) < mmax j)
  | .astore n => decide (n < mmax j)
  | .iinc n k => decide (n < mmax j) && decide (Int32.ofInt k = c)
  | .iconst n => decide (Int32.ofInt n = c)
  | .bipush n => decide ((Int8.ofInt n).toInt32 = c)
  | .sipush n => decide ((Int16.ofInt n).toInt32 = c)
  | .lconst n => decide ((n : Nat) = x)
  | .ldc idx => match y with
    | 0 => chI j idx c
    | _ => decide ((tb_S.getD x (0, "")).1 = idx) && decide (x < 26) && decide (mcn j = 5)
  | .ldc_w idx => chI j idx c
  | .ldc2_w idx => chL j idx (kl x y)
  | .getfield idx => chF j idx x y
  | .putfield idx => chF j idx x y && !ly_fk x y && !(tb_TT x y).2.2.2 && (match z with | 0 => decide (tb_ty x y = .int) | _ => decide (tb_ty x y = .boolean))
  | .ifCond _ off => tgt pc off x
  | .if_icmp _ off => tgt pc off x
  | .ifnull off => tgt pc off x
  | .ifnonnull off => tgt pc off x
  | .goto off => tgt pc off x
  | .tableswitch dflt lo hi offs => tgt pc dflt x && decide (lo = 0) && decide (hi + 1 = offs.size) && offs.toList.all (fun o => decide (0 ≤ (pc : Int) + o)) && decide (offs.size < 1000)
  | .ireturn => match x with
    | 0 => decide (mret j = some .int)
    | _ => decide (mret j = some .boolean)
  | .lreturn => decide (mret j = some .long)
  | .areturn => match mret j with | some (.object _) => true | _ => false
  | .return_ => decide (mret j = none)
  | .invokevirtual idx => chC j idx x 0 && decide (mcn x = z) && decide (z < 13) && decide (tb_np.getD x 0 = y)
  | .invokestatic idx => match z with
    | 0 => (chC j idx x 1 || chC j idx x 2) && (decide (mcn x < 13) || decide (x = 236)) && decide (tb_np.getD x 0 = y)
    | _ => chC j idx x 1
  | _ => true
def isSw (i : Instr) : Bool := match i with | .tableswitch _ _ _ _ => true | _ => false
def chk (j : Nat) : List Ins → Nat → Bool
  | [], _ => true
  | (ins, x, y, z, c) :: r, pc => (if isSw ins then dec2 j pc ins else dec1 j pc ins) && chk1 j pc ins x y z c && (if isSw ins then true else chk j r (pc + ilen ins))
theorem sk_use {o c : Nat} (h : ly_sk o = c) (hc : c < 99) : 64 ≤ o ∧ o < 126 ∧ kd o = c := by
  have key : 64 ≤ o ∧ o < 126 := by
    unfold ly_sk at h
    split at h <;> omega
  refine ⟨key.1, key.2, ?_⟩
  unfold kd
  rw [if_pos key.2]
  exact h
theorem lawp_kd {h : Hp} {o : Nat} (q : lawp h o) : kd o = 3 := by
  unfold kd; rw [if_neg (by have := q.1; omega), if_pos q.2.2]
theorem lawa_kd {h : Hp} {o : Nat} (q : lawa h o) : kd o = 20 := by
  unfold kd; rw [if_neg (by have := q.1; omega), if_neg q.2.2]
theorem ln_s {h : Hp} {o : Nat} (q : o < 126) : ln h o = ly_al o := by unfold ln; rw [if_pos q]
theorem ln_d {h : Hp} {o : Nat} (q : 126 ≤ o) : ln h o = hL h o := by unfold ln; rw [if_neg (by omega)]
theorem rf_d {o k : Nat} (q : 126 ≤ o) : ly_rf o k = o + 1 + k := by
  unfold ly_rf
  split <;> first | omega | rfl
section ES
variable {cx : Cx} {j d a pc : Nat} {loc : Lc} {st : List Value} {h : Hp} {Q : Option Value → Hp → Prop}
theorem mm_use {k : Nat} (hk : k = 237 ∨ k = 238 ∨ k = 239 ∨ k = 240) : mw_stat k ∈ gT ∧ Cond.initialized "java/lang/Math" ∈ gT ∧ mm_w k ∈ gT := by
  have := List.all_eq_true.mp mm_all k (by rcases hk with rfl | rfl | rfl | rfl <;> decide)
  simp only [mm_ok, Bool.and_eq_true, decide_eq_true_eq] at this
  refine ⟨gT_of this.1.1 rfl, gT_of this.1.2 rfl, gT_of this.2 ?_⟩
  rcases hk with rfl | rfl | rfl | rfl <;> rfl
theorem cat_same {ad : Nat → Nat} {st : List Value} : ((st.map (cv ad)).map fun v => v.category) = st.map fun v => v.category := by
  rw [List.map_map]; exact List.map_congr_left (fun v _ => cv_cat ad v)
theorem e_mmax {idx hint : Nat} {x y : Int32} (hd : decode (mcode j) pc = .ok (.invokestatic idx, 3)) (hC : (mcn j, idx, 237, 1, hint) ∈ tb_C) (hs : (st.map fun v => v.category).sum ≤ 40) (hd0 : 0 < d) (kk : E cx j d a (pc + 3) loc (.int (if x < y then y else x) :: st) h Q) : E cx j d a pc loc (.int y :: .int x :: st) h Q := by
  intro p l e s m args below meth c h0 ad0 ad ls H locs nc ns mc ms hc h1 h2
  have hts := hc.1.2.2.2.2.2.1
  obtain ⟨w1, w2, w3⟩ := mm_use (k := 237) (by omega)
  have hl := List.all_eq_true.mp tb_C_ok _ hC
  simp only [ct_ok, decide_eq_true_eq] at hl
  have hl := hts _ (gT_of hl rfl)
  have w1 := hts _ w1
  simp only [ml_w, mw_stat, my_237] at hl w1
  exact va_mmax hc.1.1 hc.1.2.1 (hc.1.2.2.2.1.trans hc.2.2.2.1.symm) hc.1.2.2.2.2.1 hl w1 (hts _ w2) (hts _ w3) (by show 1 ≤ d; omega) (by rw [cat_same]; show _ + 13 ≤ 64 * d; omega) (by show nc ≤ mc; omega) (by show ns ≤ ms; omega) hd (kk p l e s m args below meth c h0 ad0 ad ls H locs nc ns mc ms hc h1 h2)
theorem e_mmin {idx hint : Nat} {x y : Int32} (hd : decode (mcode j) pc = .ok (.invokestatic idx, 3)) (hC : (mcn j, idx, 239, 1, hint) ∈ tb_C) (hs : (st.map fun v => v.category).sum ≤ 40) (hd0 : 0 < d) (kk : E cx j d a (pc + 3) loc (.int (if y < x then y else x) :: st) h Q) : E cx j d a pc loc (.int y :: .int x :: st) h Q := by
  intro p l e s m args below meth c h0 ad0 ad ls H locs nc ns mc ms hc h1 h2
  have hts := hc.1.2.2.2.2.2.1
  obtain ⟨w1, w2, w3⟩ := mm_use (k := 239) (by omega)
  have hl := List.all_eq_true.mp tb_C_ok _ hC
  simp only [ct_ok, decide_eq_true_eq] at hl
  have hl := hts _ (gT_of hl rfl)
  have w1 := hts _ w1
  simp only [ml_w, mw_stat, my_239] at hl w1
  exact va_mmin hc.1.1 hc.1.2.1 (hc.1.2.2.2.1.trans hc.2.2.2.1.symm) hc.1.2.2.2.2.1 hl w1 (hts _ w2) (hts _ w3) (by show 1 ≤ d; omega) (by rw [cat_same]; show _ + 13 ≤ 64 * d; omega) (by show nc ≤ mc; omega) (by show ns ≤ ms; omega) hd (kk p l e s m args below meth c h0 ad0 ad ls H locs nc ns mc ms hc h1 h2)
theorem e_lmax {idx hint : Nat} {x y : Int64} (hd : decode (mcode j) pc = .ok (.invokestatic idx, 3)) (hC : (mcn j, idx, 238, 1, hint) ∈ tb_C) (hs : (st.map fun v => v.category).sum ≤ 40) (hd0 : 0 < d) (kk : E cx j d a (pc + 3) loc (.long (if y < x then x else y) :: st) h Q) : E cx j d a pc loc (.long y :: .long x :: st) h Q := by
  intro p l e s m args below meth c h0 ad0 ad ls H locs nc ns mc ms hc h1 h2
  have hts := hc.1.2.2.2.2.2.1
  obtain ⟨w1, w2, w3⟩ := mm_use (k := 238) (by omega)
  have hl := List.all_eq_true.mp tb_C_ok _ hC
  simp only [ct_ok, decide_eq_true_eq] at hl
  have hl := hts _ (gT_of hl rfl)
  have w1 := hts _ w1
  simp only [ml_w, mw_stat, my_238] at hl w1
  exact va_mmax_long hc.1.1 hc.1.2.1 (hc.1.2.2.2.1.trans hc.2.2.2.1.symm) hc.1.2.2.2.2.1 hl w1 (hts _ w2) (hts _ w3) (by show 1 ≤ d; omega) (by rw [cat_same]; show _ + 15 ≤ 64 * d; omega) (by show nc ≤ mc; omega) (by show ns ≤ ms; omega) hd (kk p l e s m args below meth c h0 ad0 ad ls H locs nc ns mc ms hc h1 h2)
theorem e_lmin {idx hint : Nat} {x y : Int64} (hd : decode (mcode j) pc = .ok (.invokestatic idx, 3)) (hC : (mcn j, idx, 240, 1, hint) ∈ tb_C) (hs : (st.map fun v => v.category).sum ≤ 40) (hd0 : 0 < d) (kk : E cx j d a (pc + 3) loc (.long (if y < x then y else x) :: st) h Q) : E cx j d a pc loc (.long y :: .long x :: st) h Q := by
  intro p l e s m args below meth c h0 ad0 ad ls H locs nc ns mc ms hc h1 h2
  have hts := hc.1.2.2.2.2.2.1
  obtain ⟨w1, w2, w3⟩ := mm_use (k := 240) (by omega)
  have hl := List.all_eq_true.mp tb_C_ok _ hC
  simp only [ct_ok, decide_eq_true_eq] at hl
  have hl := hts _ (gT_of hl rfl)
  have w1 := hts _ w1
  simp only [ml_w, mw_stat, my_240] at hl w1
  exact va_mmin_long hc.1.1 hc.1.2.1 (hc.1.2.2.2.1.trans hc.2.2.2.1.symm) hc.1.2.2.2.2.1 hl w1 (hts _ w2) (hts _ w3) (by show 1 ≤ d; omega) (by rw [cat_same]; show _ + 15 ≤ 64 * d; omega) (by show nc ≤ mc; omega) (by show ns ≤ ms; omega) hd (kk p l e s m args below meth c h0 ad0 ad ls H locs nc ns mc ms hc h1 h2)
/-- the script is read -/
theorem e_sld {i : Int32} (hd : decode (mcode j) pc = .ok (.iaload, 1)) (hin : vp_in i (cxL cx)) (kk : E cx j d a (pc + 1) loc (.int (cxX cx i.toNatClampNeg) :: st) h Q) : E cx j d a pc loc (.int i :: .ref 0 :: st) h Q := by
  intro p l e s m args below meth c h0 ad0 ad ls H locs nc ns mc ms hc h1 h2
  have e0 : ad 0 = ad0 0 := hc.2.2.1.1 0 (by omega)
  have hw := hc.2.1.2.2.2.2.1
  show W _ _ _ _ _ _ _ _ _ _ _ _ _ _ _ (F0 m pc ls (.int i :: .ref (ad 0) :: st.map (cv ad)))
  rw [e0]
  exact va_sld hc.1.1 hc.1.2.1 hw.1 hw.2.1 hw.2.2 hc.2.1.2.2.2.1 hin hd (kk p l e s m args below meth c h0 ad0 ad ls H locs nc ns mc ms hc h1 h2)
theorem e_slen (hd : decode (mcode j) pc = .ok (.arraylength, 1)) (kk : E cx j d a (pc + 1) loc (.int (Int32.ofNat (cxL cx)) :: st) h Q) : E cx j d a pc loc (.ref 0 :: st) h Q := by
  intro p l e s m args below meth c h0 ad0 ad ls H locs nc ns mc ms hc h1 h2
  have e0 : ad 0 = ad0 0 := hc.2.2.1.1 0 (by omega)
  have hw := hc.2.1.2.2.2.2.1
  show W _ _ _ _ _ _ _ _ _ _ _ _ _ _ _ (F0 m pc ls (.ref (ad 0) :: st.map (cv ad)))
  rw [e0]
  exact va_slen hc.1.1 hc.1.2.1 hw.1 hw.2.1 hw.2.2 hc.2.1.2.2.2.1 hd (kk p l e s m args below meth c h0 ad0 ad ls H locs nc ns mc ms hc h1 h2)
theorem nar_b {v : Int32} (h : isB v) : narrow .boolean (.int v) = .int v ∧ fits .boolean (.int v) = true := by
  rcases h with rfl | rfl <;> exact ⟨by decide, by decide⟩
theorem popn_ok : ∀ (n : Nat) (st acc : List Value) (k : List Value → List Value → Prop), popn n st acc k → ∃ vs r, st = vs.reverse ++ r ∧ vs.length = n ∧ k (vs ++ acc) r
  | 0, st, acc, k, h => ⟨[], st, rfl, rfl, h⟩
  | n + 1, [], acc, k, h => False.elim h
  | n + 1, v :: st, acc, k, h => by
    obtain ⟨vs, r, e, hl, hk⟩ := popn_ok n st (v :: acc) k h
    refine ⟨vs ++ [v], r, by rw [e]; simp, by simp [hl], ?_⟩
    rw [List.append_assoc]; exact hk
end ES
end
section
/-! the stretch of code is sound -/
theorem g1i_ok {st : List Value} {k : Int32 → List Value → Prop} (H : g1i st k) : ∃ (x : Int32) (r : List Value), st = .int x :: r ∧ k x r := by
  unfold g1i at H; split at H
  · exact ⟨_, _, rfl, H⟩
  · exact H.elim
theorem g2i_ok {st : List Value} {k : Int32 → Int32 → List Value → Prop} (H : g2i st k) : ∃ (x : Int32) (y : Int32) (r : List Value), st = .int y :: .int x :: r ∧ k x y r := by
  unfold g2i at H; split at H
  · exact ⟨_, _, _, rfl, H⟩
  · exact H.elim
theorem g1l_ok {st : List Value} {k : Int64 → List Value → Prop} (H : g1l st k) : ∃ (x : Int64) (r : List Value), st = .long x :: r ∧ k x r := by
  unfold g1l at H; split at H
  · exact ⟨_, _, rfl, H⟩
  · exact H.elim
theorem g2l_ok {st : List Value} {k : Int64 → Int64 → List Value → Prop} (H : g2l st k) : ∃ (x : Int64) (y : Int64) (r : List Value), st = .long y :: .long x :: r ∧ k x y r := by
  unfold g2l at H; split at H
  · exact ⟨_, _, _, rfl, H⟩
  · exact H.elim
theorem gil_ok {st : List Value} {k : Int64 → Int32 → List Value → Prop} (H : gil st k) : ∃ (x : Int64) (y : Int32) (r : List Value), st = .int y :: .long x :: r ∧ k x y r := by
  unfold gil at H; split at H
  · exact ⟨_, _, _, rfl, H⟩
  · exact H.elim
theorem g1r_ok {st : List Value} {k : Nat → List Value → Prop} (H : g1r st k) : ∃ (x : Nat) (r : List Value), st = .ref x :: r ∧ k x r := by
  unfold g1r at H; split at H
  · exact ⟨_, _, rfl, H⟩
  · exact H.elim
theorem gir_ok {st : List Value} {k : Int32 → Nat → List Value → Prop} (H : gir st k) : ∃ (i : Int32) (x : Nat) (r : List Value), st = .int i :: .ref x :: r ∧ k i x r := by
  unfold gir at H; split at H
  · exact ⟨_, _, _, rfl, H⟩
  · exact H.elim
theorem giir_ok {st : List Value} {k : Int32 → Int32 → Nat → List Value → Prop} (H : giir st k) : ∃ (v : Int32) (i : Int32) (x : Nat) (r : List Value), st = .int v :: .int i :: .ref x :: r ∧ k v i x r := by
  unfold giir at H; split at H
  · exact ⟨_, _, _, _, rfl, H⟩
  · exact H.elim
theorem glir_ok {st : List Value} {k : Int64 → Int32 → Nat → List Value → Prop} (H : glir st k) : ∃ (v : Int64) (i : Int32) (x : Nat) (r : List Value), st = .long v :: .int i :: .ref x :: r ∧ k v i x r := by
  unfold glir at H; split at H
  · exact ⟨_, _, _, _, rfl, H⟩
  · exact H.elim
theorem ga_ok {st : List Value} {k : Value → List Value → Prop} (H : ga st k) : ∃ (v : Value) (r : List Value), st = v :: r ∧ ((∃ x, v = .ref x) ∧ k v r ∨ v = .null ∧ k v r) := by
  unfold ga at H; split at H
  · exact ⟨_, _, rfl, Or.inl ⟨⟨_, rfl⟩, H⟩⟩
  · exact ⟨_, _, rfl, Or.inr ⟨rfl, H⟩⟩
  · exact H.elim
theorem gv_ok {st : List Value} {k : Value → List Value → Prop} (H : gv st k) : ∃ (v : Value) (r : List Value), st = v :: r ∧ v.category = 1 ∧ ((∃ x, v = .int x) ∨ (∃ x, v = .ref x) ∨ v = .null) ∧ k v r := by
  unfold gv at H; split at H
  · exact ⟨_, _, rfl, rfl, Or.inl ⟨_, rfl⟩, H⟩
  · exact ⟨_, _, rfl, rfl, Or.inr (Or.inl ⟨_, rfl⟩), H⟩
  · exact ⟨_, _, rfl, rfl, Or.inr (Or.inr rfl), H⟩
  · exact H.elim
theorem lI_ok {loc : Lc} {i : Nat} {k : Int32 → Prop} (H : lI loc i k) : ∃ x, lnth loc i = some (.int x) ∧ k x := by
  unfold lI at H; split at H
  · rename_i x e; exact ⟨x, e, H⟩
  · exact H.elim
theorem lJ_ok {loc : Lc} {i : Nat} {k : Int64 → Prop} (H : lJ loc i k) : ∃ x, lnth loc i = some (.long x) ∧ k x := by
  unfold lJ at H; split at H
  · rename_i x e; exact ⟨x, e, H⟩
  · exact H.elim
theorem lA_ok {loc : Lc} {i : Nat} {k : Value → Prop} (H : lA loc i k) : (∃ x, lnth loc i = some (.ref x) ∧ k (.ref x)) ∨ (lnth loc i = some .null ∧ k .null) := by
  unfold lA at H; split at H
  · rename_i x e; exact Or.inl ⟨x, e, H⟩
  · rename_i e; exact Or.inr ⟨e, H⟩
  · exact H.elim
theorem chk_cons {j pc x y z : Nat} {ins : Instr} {c : Int32} {r : List Ins} (hs : isSw ins = false) (hC : chk j ((ins, x, y, z, c) :: r) pc = true) : decode (mcode j) pc = .ok (ins, ilen ins) ∧ chk1 j pc ins x y z c = true ∧ chk j r (pc + ilen ins) = true := by
  simp only [chk, hs, Bool.and_eq_true] at hC
  exact ⟨dec1_ok hC.1.1, hC.1.2, hC.2⟩
theorem beq_sk {o x : Nat} (h : Nat.beq (ly_sk o) x = true) : ly_sk o = x := Nat.eq_of_beq_eq_true h
theorem sw_ok {cx : Cx} {j d a pc : Nat} {loc : Lc} {st : List Value} {h : Hp} {Q : Option Value → Hp → Prop} {v : Int32} : ∀ (ts : List Int) (k : Nat), sw cx j d a loc st h Q v pc k ts → ∀ (i : Nat) (t : Int), ts[i]? = some t → v = Int32.ofNat (k + i) → E cx j d a ((pc : Int) + t).toNat loc st h Q
  | [], k, _, i, t, hi, _ => by simp at hi
  | s :: ts, k, H, 0, t, hi, hv => by
    simp at hi; subst hi
    exact H.1 (by simpa using hv)
  | s :: ts, k, H, i + 1, t, hi, hv => by
    simp at hi
    exact sw_ok ts (k + 1) H.2 i t hi (by rw [hv, show k + (i + 1) = k + 1 + i by omega])
theorem fk3 : ly_fk 3 0 = true ∧ ly_fk 3 1 = true := by decide +kernel
theorem fk3b {y : Nat} (hy : y < 3) (h2 : ¬ y = 2) : ly_fk 3 y = true := by
  have h : y = 0 ∨ y = 1 := by omega
  rcases h with rfl | rfl
  · exact fk3.1
  · exact fk3.2
set_option maxHeartbeats 4000000 in
theorem wp_ok {cx : Cx} {j d : Nat} {Q : Option Value → Hp → Prop} (L : List Ins) : ∀ (pc a : Nat) (loc : Lc) (st : List Value) (h : Hp), chk j L pc = true → wp cx j d Q L pc a loc st h → E cx j d a pc loc st h Q := by
  induction L with
  | nil => intro pc a loc st h _ H; exact H
  | cons e r ih =>
    intro pc a loc st h hC H
    obtain ⟨ins, x, y, z, c⟩ := e
    cases ins
    case iadd =>
      replace H : g2i st fun p q st => wp cx j d Q r (pc + 1) a loc (.int (p + q) :: st) h := H
      obtain ⟨hd, h1, h2⟩ := chk_cons rfl hC
      obtain ⟨p, q, st, rfl, K⟩ := g2i_ok H
      exact e_iadd hd (ih _ _ _ _ _ h2 K)
    case isub =>
      replace H : g2i st fun p q st => wp cx j d Q r (pc + 1) a loc (.int (p - q) :: st) h := H
      obtain ⟨hd, h1, h2⟩ := chk_cons rfl hC
      obtain ⟨p, q, st, rfl, K⟩ := g2i_ok H
      exact e_isub hd (ih _ _ _ _ _ h2 K)
    case imul =>
      replace H : g2i st fun p q st => wp cx j d Q r (pc + 1) a loc (.int (p * q) :: st) h := H
      obtain ⟨hd, h1, h2⟩ := chk_cons rfl hC
      obtain ⟨p, q, st, rfl, K⟩ := g2i_ok H
      exact e_imul hd (ih _ _ _ _ _ h2 K)
    case iand =>
      replace H : g2i st fun p q st => wp cx j d Q r (pc + 1) a loc (.int (p &&& q) :: st) h := H
      obtain ⟨hd, h1, h2⟩ := chk_cons rfl hC
      obtain ⟨p, q, st, rfl, K⟩ := g2i_ok H
      exact e_iand hd (ih _ _ _ _ _ h2 K)
    case ior =>
      replace H : g2i st fun p q st => wp cx j d Q r (pc + 1) a loc (.int (p ||| q) :: st) h := H
      obtain ⟨hd, h1, h2⟩ := chk_cons rfl hC
      obtain ⟨p, q, st, rfl, K⟩ := g2i_ok H
      exact e_ior hd (ih _ _ _ _ _ h2 K)
    case ixor =>
      replace H : g2i st fun p q st => wp cx j d Q r (pc + 1) a loc (.int (p ^^^ q) :: st) h := H
      obtain ⟨hd, h1, h2⟩ := chk_cons rfl hC
      obtain ⟨p, q, st, rfl, K⟩ := g2i_ok H
      exact e_ixor hd (ih _ _ _ _ _ h2 K)
    case ishl =>
      replace H : g2i st fun p q st => wp cx j d Q r (pc + 1) a loc (.int (p <<< (q &&& 31)) :: st) h := H
      obtain ⟨hd, h1, h2⟩ := chk_cons rfl hC
      obtain ⟨p, q, st, rfl, K⟩ := g2i_ok H
      exact e_ishl hd (ih _ _ _ _ _ h2 K)
    case ishr =>
      replace H : g2i st fun p q st => wp cx j d Q r (pc + 1) a loc (.int (p >>> (q &&& 31)) :: st) h := H
      obtain ⟨hd, h1, h2⟩ := chk_cons rfl hC
      obtain ⟨p, q, st, rfl, K⟩ := g2i_ok H
      exact e_ishr hd (ih _ _ _ _ _ h2 K)
    case iushr =>
      replace H : g2i st fun p q st => wp cx j d Q r (pc + 1) a loc (.int ((p.toUInt32 >>> (q.toUInt32 &&& Int32.toUInt32 31)).toInt32) :: st) h := H
      obtain ⟨hd, h1, h2⟩ := chk_cons rfl hC
      obtain ⟨p, q, st, rfl, K⟩ := g2i_ok H
      exact e_iushr hd (ih _ _ _ _ _ h2 K)
    case idiv =>
      replace H : g2i st fun p q st => ¬ q = 0 ∧ wp cx j d Q r (pc + 1) a loc (.int (p / q) :: st) h := H
      obtain ⟨hd, h1, h2⟩ := chk_cons rfl hC
      obtain ⟨p, q, st, rfl, K0, K⟩ := g2i_ok H
      exact e_idiv hd K0 (ih _ _ _ _ _ h2 K)
    case irem =>
      replace H : g2i st fun p q st => ¬ q = 0 ∧ wp cx j d Q r (pc + 1) a loc (.int (p - p / q * q) :: st) h := H
      obtain ⟨hd, h1, h2⟩ := chk_cons rfl hC
      obtain ⟨p, q, st, rfl, K0, K⟩ := g2i_ok H
      exact e_irem hd K0 (ih _ _ _ _ _ h2 K)
    case ladd =>
      replace H : g2l st fun p q st => wp cx j d Q r (pc + 1) a loc (.long (p + q) :: st) h := H
      obtain ⟨hd, h1, h2⟩ := chk_cons rfl hC
      obtain ⟨p, q, st, rfl, K⟩ := g2l_ok H
      exact e_ladd hd (ih _ _ _ _ _ h2 K)
    case lsub =>
      replace H : g2l st fun p q st => wp cx j d Q r (pc + 1) a loc (.long (p - q) :: st) h := H
      obtain ⟨hd, h1, h2⟩ := chk_cons rfl hC
      obtain ⟨p, q, st, rfl, K⟩ := g2l_ok H
      exact e_lsub hd (ih _ _ _ _ _ h2 K)
    case lmul =>
      replace H : g2l st fun p q st => wp cx j d Q r (pc + 1) a loc (.long (p * q) :: st) h := H
      obtain ⟨hd, h1, h2⟩ := chk_cons rfl hC
      obtain ⟨p, q, st, rfl, K⟩ := g2l_ok H
      exact e_lmul hd (ih _ _ _ _ _ h2 K)
    case land =>
      replace H : g2l st fun p q st => wp cx j d Q r (pc + 1) a loc (.long (p &&& q) :: st) h := H
      obtain ⟨hd, h1, h2⟩ := chk_cons rfl hC
      obtain ⟨p, q, st, rfl, K⟩ := g2l_ok H
      exact e_land hd (ih _ _ _ _ _ h2 K)
    case lor =>
      replace H : g2l st fun p q st => wp cx j d Q r (pc + 1) a loc (.long (p ||| q) :: st) h := H
      obtain ⟨hd, h1, h2⟩ := chk_cons rfl hC
      obtain ⟨p, q, st, rfl, K⟩ := g2l_ok H
      exact e_lor hd (ih _ _ _ _ _ h2 K)
    case lcmp =>
      replace H : g2l st fun p q st => wp cx j d Q r (pc + 1) a loc (.int (lg_cmp p q) :: st) h := H
      obtain ⟨hd, h1, h2⟩ := chk_cons rfl hC
      obtain ⟨p, q, st, rfl, K⟩ := g2l_ok H
      exact e_lcmp hd (ih _ _ _ _ _ h2 K)
    case ldiv =>
      replace H : g2l st fun p q st => ¬ q = 0 ∧ wp cx j d Q r (pc + 1) a loc (.long (p / q) :: st) h := H
      obtain ⟨hd, h1, h2⟩ := chk_cons rfl hC
      obtain ⟨p, q, st, rfl, K0, K⟩ := g2l_ok H
      exact e_ldiv hd K0 (ih _ _ _ _ _ h2 K)
    case lrem =>
      replace H : g2l st fun p q st => ¬ q = 0 ∧ wp cx j d Q r (pc + 1) a loc (.long (p - p / q * q) :: st) h := H
      obtain ⟨hd, h1, h2⟩ := chk_cons rfl hC
      obtain ⟨p, q, st, rfl, K0, K⟩ := g2l_ok H
      exact e_lrem hd K0 (ih _ _ _ _ _ h2 K)
    case lshl =>
      replace H : gil st fun p q st => wp cx j d Q r (pc + 1) a loc (.long (p <<< (q.toInt64 &&& 63)) :: st) h := H
      obtain ⟨hd, h1, h2⟩ := chk_cons rfl hC
      obtain ⟨p, q, st, rfl, K⟩ := gil_ok H
      exact e_lshl hd (ih _ _ _ _ _ h2 K)
    case lshr =>
      replace H : gil st fun p q st => wp cx j d Q r (pc + 1) a loc (.long (p >>> (q.toInt64 &&& 63)) :: st) h := H
      obtain ⟨hd, h1, h2⟩ := chk_cons rfl hC
      obtain ⟨p, q, st, rfl, K⟩ := gil_ok H
      exact e_lshr hd (ih _ _ _ _ _ h2 K)
    case ineg =>
      replace H : g1i st fun p st => wp cx j d Q r (pc + 1) a loc (.int (-p) :: st) h := H
      obtain ⟨hd, h1, h2⟩ := chk_cons rfl hC
      obtain ⟨p, st, rfl, K⟩ := g1i_ok H
      exact e_ineg hd (ih _ _ _ _ _ h2 K)
    case i2l =>
      replace H : g1i st fun p st => wp cx j d Q r (pc + 1) a loc (.long p.toInt64 :: st) h := H
      obtain ⟨hd, h1, h2⟩ := chk_cons rfl hC
      obtain ⟨p, st, rfl, K⟩ := g1i_ok H
      exact e_i2l hd (ih _ _ _ _ _ h2 K)
    case i2b =>
      replace H : g1i st fun p st => wp cx j d Q r (pc + 1) a loc (.int p.toInt8.toInt32 :: st) h := H
      obtain ⟨hd, h1, h2⟩ := chk_cons rfl hC
      obtain ⟨p, st, rfl, K⟩ := g1i_ok H
      exact e_i2b hd (ih _ _ _ _ _ h2 K)
    case l2i =>
      replace H : g1l st fun p st => wp cx j d Q r (pc + 1) a loc (.int p.toInt32 :: st) h := H
      obtain ⟨hd, h1, h2⟩ := chk_cons rfl hC
      obtain ⟨p, st, rfl, K⟩ := g1l_ok H
      exact e_l2i hd (ih _ _ _ _ _ h2 K)
    case iload_n n =>
      replace H : lI loc n fun v => wp cx j d Q r (pc + 1) a loc (.int v :: st) h := H
      obtain ⟨hd, h1, h2⟩ := chk_cons rfl hC
      obtain ⟨v, hv, K⟩ := lI_ok H
      exact e_iload_n hd hv (ih _ _ _ _ _ h2 K)
    case iload n =>
      replace H : lI loc n fun v => wp cx j d Q r (pc + 2) a loc (.int v :: st) h := H
      obtain ⟨hd, h1, h2⟩ := chk_cons rfl hC
      obtain ⟨v, hv, K⟩ := lI_ok H
      exact e_iload hd hv (ih _ _ _ _ _ h2 K)
    case lload_n n =>
      replace H : lJ loc n fun v => wp cx j d Q r (pc + 1) a loc (.long v :: st) h := H
      obtain ⟨hd, h1, h2⟩ := chk_cons rfl hC
      obtain ⟨v, hv, K⟩ := lJ_ok H
      exact e_lload_n hd hv (ih _ _ _ _ _ h2 K)
    case lload n =>
      replace H : lJ loc n fun v => wp cx j d Q r (pc + 2) a loc (.long v :: st) h := H
      obtain ⟨hd, h1, h2⟩ := chk_cons rfl hC
      obtain ⟨v, hv, K⟩ := lJ_ok H
      exact e_lload hd hv (ih _ _ _ _ _ h2 K)
    case aload_n n =>
      replace H : lA loc n fun v => wp cx j d Q r (pc + 1) a loc (v :: st) h := H
      obtain ⟨hd, h1, h2⟩ := chk_cons rfl hC
      rcases lA_ok H with ⟨v, hv, K⟩ | ⟨hv, K⟩
      · exact e_aload_n hd hv (ih _ _ _ _ _ h2 K)
      · exact e_aload_nN hd hv (ih _ _ _ _ _ h2 K)
    case aload n =>
      replace H : lA loc n fun v => wp cx j d Q r (pc + 2) a loc (v :: st) h := H
      obtain ⟨hd, h1, h2⟩ := chk_cons rfl hC
      rcases lA_ok H with ⟨v, hv, K⟩ | ⟨hv, K⟩
      · exact e_aload hd hv (ih _ _ _ _ _ h2 K)
      · exact e_aloadN hd hv (ih _ _ _ _ _ h2 K)
    case istore_n n =>
      replace H : g1i st fun v st => wp cx j d Q r (pc + 1) a (lsto loc n (.int v)) st h := H
      obtain ⟨hd, h1, h2⟩ := chk_cons rfl hC
      obtain ⟨v, st, rfl, K⟩ := g1i_ok H
      simp only [chk1, decide_eq_true_eq] at h1
      exact e_istore_n hd h1 (ih _ _ _ _ _ h2 K)
    case istore n =>
      replace H : g1i st fun v st => wp cx j d Q r (pc + 2) a (lsto loc n (.int v)) st h := H
      obtain ⟨hd, h1, h2⟩ := chk_cons rfl hC
      obtain ⟨v, st, rfl, K⟩ := g1i_ok H
      simp only [chk1, decide_eq_true_eq] at h1
      exact e_istore hd h1 (ih _ _ _ _ _ h2 K)
    case lstore_n n =>
      replace H : g1l st fun v st => wp cx j d Q r (pc + 1) a (lst2 loc n (.long v)) st h := H
      obtain ⟨hd, h1, h2⟩ := chk_cons rfl hC
      obtain ⟨v, st, rfl, K⟩ := g1l_ok H
      simp only [chk1, decide_eq_true_eq] at h1
      exact e_lstore_n hd h1 (ih _ _ _ _ _ h2 K)
    case lstore n =>
      replace H : g1l st fun v st => wp cx j d Q r (pc + 2) a (lst2 loc n (.long v)) st h := H
      obtain ⟨hd, h1, h2⟩ := chk_cons rfl hC
      obtain ⟨v, st, rfl, K⟩ := g1l_ok H
      simp only [chk1, decide_eq_true_eq] at h1
      exact e_lstore hd h1 (ih _ _ _ _ _ h2 K)
    case astore_n n =>
      replace H : ga st fun v st => wp cx j d Q r (pc + 1) a (lsto loc n v) st h := H
      obtain ⟨hd, h1, h2⟩ := chk_cons rfl hC
      simp only [chk1, decide_eq_true_eq] at h1
      obtain ⟨v, st, rfl, K⟩ := ga_ok H
      rcases K with ⟨⟨w, rfl⟩, K⟩ | ⟨rfl, K⟩
      · exact e_astore_n hd h1 (ih _ _ _ _ _ h2 K)
      · exact e_astore_nN hd h1 (ih _ _ _ _ _ h2 K)
    case astore n =>
      replace H : ga st fun v st => wp cx j d Q r (pc + 2) a (lsto loc n v) st h := H
      obtain ⟨hd, h1, h2⟩ := chk_cons rfl hC
      simp only [chk1, decide_eq_true_eq] at h1
      obtain ⟨v, st, rfl, K⟩ := ga_ok H
      rcases K with ⟨⟨w, rfl⟩, K⟩ | ⟨rfl, K⟩
      · exact e_astore hd h1 (ih _ _ _ _ _ h2 K)
      · exact e_astoreN hd h1 (ih _ _ _ _ _ h2 K)
    case iinc n k =>
      replace H : lI loc n fun v => wp cx j d Q r (pc + 3) a (lsto loc n (.int (v + c))) st h := H
      obtain ⟨hd, h1, h2⟩ := chk_cons rfl hC
      obtain ⟨v, hv, K⟩ := lI_ok H
      simp only [chk1, Bool.and_eq_true, decide_eq_true_eq] at h1
      exact e_iinc hd h1.1 hv (by rw [h1.2]) (ih _ _ _ _ _ h2 K)
    case iconst n =>
      replace H : wp cx j d Q r (pc + 1) a loc (.int c :: st) h := H
      obtain ⟨hd, h1, h2⟩ := chk_cons rfl hC
      simp only [chk1, decide_eq_true_eq] at h1
      exact e_iconst hd h1 (ih _ _ _ _ _ h2 H)
    case bipush n =>
      replace H : wp cx j d Q r (pc + 2) a loc (.int c :: st) h := H
      obtain ⟨hd, h1, h2⟩ := chk_cons rfl hC
      simp only [chk1, decide_eq_true_eq] at h1
      exact e_bipush hd h1 (ih _ _ _ _ _ h2 H)
    case sipush n =>
      replace H : wp cx j d Q r (pc + 3) a loc (.int c :: st) h := H
      obtain ⟨hd, h1, h2⟩ := chk_cons rfl hC
      simp only [chk1, decide_eq_true_eq] at h1
      exact e_sipush hd h1 (ih _ _ _ _ _ h2 H)
    case lconst n =>
      replace H : wp cx j d Q r (pc + 1) a loc (.long (kl x 0) :: st) h := H
      obtain ⟨hd, h1, h2⟩ := chk_cons rfl hC
      simp only [chk1, decide_eq_true_eq] at h1
      exact e_lconst hd (by rw [h1]; rfl) (ih _ _ _ _ _ h2 H)
    case aconst_null =>
      replace H : wp cx j d Q r (pc + 1) a loc (.null :: st) h := H
      obtain ⟨hd, h1, h2⟩ := chk_cons rfl hC
      exact e_null hd (ih _ _ _ _ _ h2 H)
    case ldc idx =>
      unfold wp at H
      dsimp only at H
      obtain ⟨hd, h1, h2⟩ := chk_cons rfl hC
      match y, h1, H with
      | 0, h1, H =>
        obtain ⟨hint, hk⟩ := chI_ok h1
        exact e_ldcI hd hk (ih _ _ _ _ _ h2 H)
      | y + 1, h1, H =>
        simp only [chk1, Bool.and_eq_true, decide_eq_true_eq] at h1
        obtain ⟨⟨s1, s2⟩, s3⟩ := h1
        have hx : x < tb_S.length := s2
        refine e_ldcS hd s3 (n := x) (tx := (tb_S.getD x (0, "")).2) ?_ s2 (ih _ _ _ _ _ h2 H)
        rw [List.getD_eq_getElem?_getD, List.getElem?_eq_getElem hx] at s1 ⊢
        simp only [Option.getD_some] at s1 ⊢; rw [← s1]
    case ldc_w idx =>
      replace H : wp cx j d Q r (pc + 3) a loc (.int c :: st) h := H
      obtain ⟨hd, h1, h2⟩ := chk_cons rfl hC
      obtain ⟨hint, hk⟩ := chI_ok h1
      exact e_ldcW hd hk (ih _ _ _ _ _ h2 H)
    case ldc2_w idx =>
      replace H : wp cx j d Q r (pc + 3) a loc (.long (kl x y) :: st) h := H
      obtain ⟨hd, h1, h2⟩ := chk_cons rfl hC
      obtain ⟨hint, hk⟩ := chL_ok h1
      exact e_ldcL hd hk (ih _ _ _ _ _ h2 H)
    case dup =>
      replace H : gv st fun v st => wp cx j d Q r (pc + 1) a loc (v :: v :: st) h := H
      obtain ⟨hd, h1, h2⟩ := chk_cons rfl hC
      obtain ⟨v, st, rfl, hv, -, K⟩ := gv_ok H
      exact e_dup hd hv (ih _ _ _ _ _ h2 K)
    case pop =>
      replace H : gv st fun _ st => wp cx j d Q r (pc + 1) a loc st h := H
      obtain ⟨hd, h1, h2⟩ := chk_cons rfl hC
      obtain ⟨v, st, rfl, hv, -, K⟩ := gv_ok H
      exact e_pop hd hv (ih _ _ _ _ _ h2 K)
    case dup2 =>
      replace H : gir st fun v w st => wp cx j d Q r (pc + 1) a loc (.int v :: .ref w :: .int v :: .ref w :: st) h := H
      obtain ⟨hd, h1, h2⟩ := chk_cons rfl hC
      obtain ⟨v, w, st, rfl, K⟩ := gir_ok H
      exact e_dup2 hd rfl rfl (ih _ _ _ _ _ h2 K)
    case getfield idx =>
      unfold wp at H
      dsimp only at H
      obtain ⟨hd, h1, h2⟩ := chk_cons rfl hC
      obtain ⟨o, st, rfl, K⟩ := g1r_ok H
      obtain ⟨hint, hF⟩ := chF_ok h1
      split at K
      · obtain ⟨hl, K⟩ := K
        have hk := lawp_kd hl
        split at K
        · exact e_get hd hF (by have := hl.1; omega) hl.2.1 hk (.int (hI h o 2)) (fun ad => rfl) (ih _ _ _ _ _ h2 K)
        · have hy : y < 3 := (tb_F_use hF).2.1
          exact e_get hd hF (by have := hl.1; omega) hl.2.1 hk (.ref (o + 1 + y)) (fun ad => by
            have hy2 : ¬ y = 2 := by assumption
            have hf : ly_fk 3 y = true := fk3b hy hy2
            unfold fv; rw [hf, rf_d hl.1]; rfl) (ih _ _ _ _ _ h2 K)
      · split at K
        · rename_i hb
          have hx := (tb_F_use hF).2.2
          obtain ⟨s1, s2, s3⟩ := sk_use (beq_sk hb) (by omega)
          split at K
          · rename_i hf
            exact e_get hd hF s1 (by omega) s3 (.ref (ly_rf o y)) (fun ad => by unfold fv; rw [hf]; rfl) (ih _ _ _ _ _ h2 K)
          · rename_i hf
            exact e_get hd hF s1 (by omega) s3 (.int (hI h o y)) (fun ad => by unfold fv; rw [hf]; rfl) (ih _ _ _ _ _ h2 K)
        · exact K.elim
    case putfield idx =>
      unfold wp at H
      dsimp only at H
      obtain ⟨hd, h1, h2⟩ := chk_cons rfl hC
      split at H
      · rename_i v o st
        split at H
        · rename_i hb
          simp only [chk1, Bool.and_eq_true, Bool.not_eq_true'] at h1
          obtain ⟨⟨⟨q1, q2⟩, q3⟩, q4⟩ := h1
          obtain ⟨hint, hF⟩ := chF_ok q1
          have hx := (tb_F_use hF).2.2
          obtain ⟨s1, s2, s3⟩ := sk_use (beq_sk hb) (by omega)
          split at H
          · simp only [decide_eq_true_eq] at q4
            exact e_put hd hF s1 (by omega) s3 q2 q3 (by rw [q4]; rfl) (by rw [q4]; rfl) (ih _ _ _ _ _ h2 H)
          · obtain ⟨hB, H⟩ := H
            have q4 : tb_ty x y = .boolean := by
              revert q4; split
              · intro; contradiction
              · intro q4; simpa using q4
            exact e_put hd hF s1 (by omega) s3 q2 q3 (by rw [q4]; exact (nar_b hB).1) (by rw [q4]; exact (nar_b hB).2) (ih _ _ _ _ _ h2 H)
        · exact H.elim
      · exact H.elim
    case iaload =>
      unfold wp at H
      dsimp only at H
      obtain ⟨hd, h1, h2⟩ := chk_cons rfl hC
      obtain ⟨i, o, st, rfl, K⟩ := gir_ok H
      split at K
      · split at K
        · rename_i hb
          obtain ⟨s1, s2, s3⟩ := sk_use (beq_sk hb) (by omega)
          exact e_iald hd s1 (by omega) s3 (by rw [ln_s s2]; exact K.1) (ih _ _ _ _ _ h2 K.2)
        · exact K.elim
      · obtain ⟨l1, l2, K⟩ := K
        exact e_iald hd (by have := l1.1; omega) l1.2.1 (lawa_kd l1) (by rw [ln_d l1.1]; exact l2) (ih _ _ _ _ _ h2 K)
      · split at K
        · exact e_sld hd K.1 (ih _ _ _ _ _ h2 K.2)
        · exact K.elim
    case baload =>
      unfold wp at H
      dsimp only at H
      obtain ⟨hd, h1, h2⟩ := chk_cons rfl hC
      obtain ⟨i, o, st, rfl, K⟩ := gir_ok H
      split at K
      · rename_i hb
        obtain ⟨s1, s2, s3⟩ := sk_use hb (by omega)
        exact e_zald hd s1 (by omega) s3 (by rw [ln_s s2]; exact K.1) (ih _ _ _ _ _ h2 K.2)
      · rename_i hb
        obtain ⟨s1, s2, s3⟩ := sk_use hb (by omega)
        exact e_bald hd s1 (by omega) s3 (by rw [ln_s s2]; exact K.1) (ih _ _ _ _ _ h2 K.2)
      · exact K.elim
    case laload =>
      unfold wp at H
      dsimp only at H
      obtain ⟨hd, h1, h2⟩ := chk_cons rfl hC
      obtain ⟨i, o, st, rfl, K⟩ := gir_ok H
      split at K
      · rename_i hb
        obtain ⟨s1, s2, s3⟩ := sk_use (beq_sk hb) (by omega)
        exact e_lald hd s1 (by omega) s3 (by rw [ln_s s2]; exact K.1) (ih _ _ _ _ _ h2 K.2)
      · exact K.elim
    case aaload =>
      unfold wp at H
      dsimp only at H
      obtain ⟨hd, h1, h2⟩ := chk_cons rfl hC
      obtain ⟨i, o, st, rfl, K⟩ := gir_ok H
      split at K
      · rename_i hb
        obtain ⟨s1, s2, s3⟩ := sk_use hb (by omega)
        exact e_aald hd s1 (by omega) (Or.inl s3) (by rw [ln_s s2]; exact K.1) (ih _ _ _ _ _ h2 K.2)
      · rename_i hb
        obtain ⟨s1, s2, s3⟩ := sk_use hb (by omega)
        exact e_aald hd s1 (by omega) (Or.inr s3) (by rw [ln_s s2]; exact K.1) (ih _ _ _ _ _ h2 K.2)
      · exact K.elim
    case iastore =>
      unfold wp at H
      dsimp only at H
      obtain ⟨hd, h1, h2⟩ := chk_cons rfl hC
      obtain ⟨v, i, o, st, rfl, K⟩ := giir_ok H
      split at K
      · rename_i hb
        obtain ⟨s1, s2, s3⟩ := sk_use (beq_sk hb) (by omega)
        exact e_iast hd s1 (by omega) s3 (by rw [ln_s s2]; exact K.1) (ih _ _ _ _ _ h2 K.2)
      · exact K.elim
    case bastore =>
      unfold wp at H
      dsimp only at H
      obtain ⟨hd, h1, h2⟩ := chk_cons rfl hC
      obtain ⟨v, i, o, st, rfl, K⟩ := giir_ok H
      split at K
      · rename_i hb
        obtain ⟨s1, s2, s3⟩ := sk_use hb (by omega)
        exact e_zast hd s1 (by omega) s3 (by rw [ln_s s2]; exact K.1) (ih _ _ _ _ _ h2 K.2)
      · rename_i hb
        obtain ⟨s1, s2, s3⟩ := sk_use hb (by omega)
        exact e_bast hd s1 (by omega) s3 (by rw [ln_s s2]; exact K.1) (ih _ _ _ _ _ h2 K.2)
      · exact K.elim
    case lastore =>
      unfold wp at H
      dsimp only at H
      obtain ⟨hd, h1, h2⟩ := chk_cons rfl hC
      obtain ⟨v, i, o, st, rfl, K⟩ := glir_ok H
      split at K
      · rename_i hb
        obtain ⟨s1, s2, s3⟩ := sk_use (beq_sk hb) (by omega)
        exact e_last hd s1 (by omega) s3 (by rw [ln_s s2]; exact K.1) (ih _ _ _ _ _ h2 K.2)
      · exact K.elim
    case aastore =>
      unfold wp at H
      dsimp only at H
      obtain ⟨hd, h1, h2⟩ := chk_cons rfl hC
      split at H
      · rename_i v i o st
        split at H
        · rename_i hb
          obtain ⟨s1, s2, s3⟩ := sk_use (beq_sk hb) (by omega)
          obtain ⟨k1, k2, K⟩ := H
          exact e_aast hd s1 (by omega) s3 (by rw [ln_s s2]; exact k1) (by have := k2.1; omega) k2.2.1 (lawp_kd k2) (ih _ _ _ _ _ h2 K)
        · exact H.elim
      · rename_i i o st
        split at H
        · rename_i hb
          obtain ⟨s1, s2, s3⟩ := sk_use (beq_sk hb) (by omega)
          exact e_aastN hd s1 (by omega) s3 (by rw [ln_s s2]; exact H.1) (ih _ _ _ _ _ h2 H.2)
        · exact H.elim
      · exact H.elim
    case arraylength =>
      unfold wp at H
      dsimp only at H
      obtain ⟨hd, h1, h2⟩ := chk_cons rfl hC
      obtain ⟨o, st, rfl, K⟩ := g1r_ok H
      split at K
      · split at K
        · rename_i hb
          obtain ⟨s1, s2, s3⟩ := sk_use hb (by omega)
          exact e_alen hd s1 (by omega) (Or.inl s3) (by rw [ln_s s2]; exact ih _ _ _ _ _ h2 K)
        · rename_i hb
          obtain ⟨s1, s2, s3⟩ := sk_use hb (by omega)
          exact e_alen hd s1 (by omega) (Or.inr (Or.inl s3)) (by rw [ln_s s2]; exact ih _ _ _ _ _ h2 K)
        · rename_i hb
          obtain ⟨s1, s2, s3⟩ := sk_use hb (by omega)
          exact e_alen hd s1 (by omega) (Or.inr (Or.inr s3)) (by rw [ln_s s2]; exact ih _ _ _ _ _ h2 K)
        · exact K.elim
      · obtain ⟨l1, K⟩ := K
        exact e_alen hd (by have := l1.1; omega) l1.2.1 (Or.inl (lawa_kd l1)) (by rw [ln_d l1.1]; exact ih _ _ _ _ _ h2 K)
      · split at K
        · exact e_slen hd (ih _ _ _ _ _ h2 K)
        · exact K.elim
    case ifCond b off =>
      unfold wp at H
      dsimp only at H
      obtain ⟨hd, h1, h2⟩ := chk_cons rfl hC
      obtain ⟨v, st, rfl, K⟩ := g1i_ok H
      simp only [chk1, tgt, decide_eq_true_eq] at h1
      cases b
      case eq => exact e_if_eq hd h1 K.1 (fun q => ih _ _ _ _ _ h2 (K.2 q))
      case ne => exact e_if_ne hd h1 K.1 (fun q => ih _ _ _ _ _ h2 (K.2 q))
      case lt => exact e_if_lt hd h1 K.1 (fun q => ih _ _ _ _ _ h2 (K.2 q))
      case ge => exact e_if_ge hd h1 K.1 (fun q => ih _ _ _ _ _ h2 (K.2 q))
      case gt => exact e_if_gt hd h1 K.1 (fun q => ih _ _ _ _ _ h2 (K.2 q))
      case le => exact e_if_le hd h1 K.1 (fun q => ih _ _ _ _ _ h2 (K.2 q))
    case if_icmp b off =>
      unfold wp at H
      dsimp only at H
      obtain ⟨hd, h1, h2⟩ := chk_cons rfl hC
      obtain ⟨v, w, st, rfl, K⟩ := g2i_ok H
      simp only [chk1, tgt, decide_eq_true_eq] at h1
      cases b
      case eq => exact e_icmp_eq hd h1 K.1 (fun q => ih _ _ _ _ _ h2 (K.2 q))
      case ne => exact e_icmp_ne hd h1 K.1 (fun q => ih _ _ _ _ _ h2 (K.2 q))
      case lt => exact e_icmp_lt hd h1 K.1 (fun q => ih _ _ _ _ _ h2 (K.2 q))
      case ge => exact e_icmp_ge hd h1 K.1 (fun q => ih _ _ _ _ _ h2 (K.2 q))
      case gt => exact e_icmp_gt hd h1 K.1 (fun q => ih _ _ _ _ _ h2 (K.2 q))
      case le => exact e_icmp_le hd h1 K.1 (fun q => ih _ _ _ _ _ h2 (K.2 q))
    case ifnull off =>
      unfold wp at H
      dsimp only at H
      obtain ⟨hd, h1, h2⟩ := chk_cons rfl hC
      simp only [chk1, tgt, decide_eq_true_eq] at h1
      split at H
      · exact e_ifnull hd (ih _ _ _ _ _ h2 H)
      · exact e_ifnullN hd h1 H
      · exact H.elim
    case ifnonnull off =>
      unfold wp at H
      dsimp only at H
      obtain ⟨hd, h1, h2⟩ := chk_cons rfl hC
      simp only [chk1, tgt, decide_eq_true_eq] at h1
      split at H
      · exact e_ifnonnull hd h1 H
      · exact e_ifnonnullN hd (ih _ _ _ _ _ h2 H)
      · exact H.elim
    case goto off =>
      replace H : E cx j d a x loc st h Q := H
      obtain ⟨hd, h1, h2⟩ := chk_cons rfl hC
      simp only [chk1, tgt, decide_eq_true_eq] at h1
      exact e_goto hd h1 H
    case tableswitch dflt lo hi offs =>
      replace H : g1i st fun v st => ((∀ k : Nat, k < offs.size → v ≠ Int32.ofNat k) → E cx j d a x loc st h Q) ∧ sw cx j d a loc st h Q v pc 0 offs.toList := H
      obtain ⟨v, st, rfl, K⟩ := g1i_ok H
      simp only [chk, isSw, chk1, tgt, Bool.and_eq_true, decide_eq_true_eq, if_true] at hC
      obtain ⟨⟨hd, ⟨⟨⟨t1, t2⟩, t3⟩, t4⟩, t5⟩, -⟩ := hC
      obtain ⟨n, hd⟩ := dec2_ok hd
      subst t2
      refine e_table hd t1 (fun i => ((pc : Int) + offs[i]?.getD 0).toNat) (fun i hi => ?_) (fun hv => K.1 (fun k hk e => ?_)) (fun i hv hi => ?_)
      · have hi2 : i < offs.size := by omega
        refine ⟨offs[i], Array.getElem?_eq_getElem hi2, ?_⟩
        have := List.all_eq_true.mp t4 offs[i] (Array.getElem_mem_toList hi2)
        simp only [decide_eq_true_eq] at this
        rw [Array.getElem?_eq_getElem hi2, Option.getD_some]; omega
      · have : v.toInt = (k : Int) := by rw [e]; exact nI_toInt (n := k) (by omega)
        omega
      · have hi2 : i < offs.size := by omega
        have hs := sw_ok _ _ K.2 i offs[i] (by rw [Array.getElem?_toList, Array.getElem?_eq_getElem hi2]) (by
          rw [Nat.zero_add]; apply Int32.toInt_inj.mp; rw [hv, show Int32.ofNat i = nI i from rfl, nI_toInt (by omega)]; omega)
        show E cx j d a ((pc : Int) + offs[i]?.getD 0).toNat loc st h Q
        rw [Array.getElem?_eq_getElem hi2, Option.getD_some]; exact hs
    case ireturn =>
      unfold wp at H
      dsimp only at H
      obtain ⟨hd, h1, h2⟩ := chk_cons rfl hC
      split at H
      · match x, h1, H with
        | 0, h1, H => simp only [chk1, decide_eq_true_eq] at h1; exact e_iret hd h1 H
        | x + 1, h1, H => simp only [chk1, decide_eq_true_eq] at h1; exact e_zret hd h1 (nar_b H.1).1 H.2
      · exact H.elim
    case lreturn =>
      unfold wp at H
      dsimp only at H
      obtain ⟨hd, h1, h2⟩ := chk_cons rfl hC
      simp only [chk1, decide_eq_true_eq] at h1
      split at H
      · exact e_lret hd h1 H
      · exact H.elim
    case return_ =>
      unfold wp at H
      dsimp only at H
      obtain ⟨hd, h1, h2⟩ := chk_cons rfl hC
      simp only [chk1, decide_eq_true_eq] at h1
      split at H
      · exact e_vret hd h1 H
      · exact H.elim
    case areturn =>
      unfold wp at H
      dsimp only at H
      obtain ⟨hd, h1, h2⟩ := chk_cons rfl hC
      have h1 : ∃ n, mret j = some (.object n) := by
        revert h1; unfold chk1; dsimp only; split
        · rename_i e; intro _; exact ⟨_, e⟩
        · intro q; cases q
      obtain ⟨n, h1⟩ := h1
      split at H
      · exact e_aret hd h1 (Or.inr ⟨_, rfl⟩) H
      · exact e_aret hd h1 (Or.inl rfl) H
      · exact H.elim
    case invokevirtual idx =>
      unfold wp at H
      dsimp only at H
      obtain ⟨hd, h1, h2⟩ := chk_cons rfl hC
      obtain ⟨vs, st1, e1, hl, K⟩ := popn_ok _ _ _ _ H
      obtain ⟨o, st, rfl, K0, ks, kd0, a1, Q1, ka, kr, kM, kk⟩ := g1r_ok K
      simp only [chk1, Bool.and_eq_true, decide_eq_true_eq] at h1
      obtain ⟨⟨⟨q1, q2⟩, q3⟩, q4⟩ := h1
      obtain ⟨hint, hCt⟩ := chC_ok q1
      obtain ⟨m1, m2, m3⟩ := use_v (by omega) hCt
      have ho : 64 ≤ o ∧ o < 126 + 3 * hN h ∧ kd o = mcn x := by
        split at K0
        · exact ⟨by have := K0.1; omega, K0.2.1, by rw [lawp_kd K0, q2]⟩
        · obtain ⟨s1, s2, s3⟩ := sk_use (beq_sk K0) (by omega)
          exact ⟨s1, by omega, by rw [s3, q2]⟩
      subst e1
      rw [List.append_nil] at kM
      exact e_callV hd hCt m1 m2 (by rw [use_np m3, q4, hl]) ho.1 ho.2.1 ho.2.2 ks kd0 ka kr kM (fun r h' q => ih _ _ _ _ _ h2 (kk r h' q))
    case invokestatic idx =>
      unfold wp at H
      dsimp only at H
      obtain ⟨hd, h1, h2⟩ := chk_cons rfl hC
      match z, h1, H with
      | 0, h1, H =>
        obtain ⟨vs, st1, e1, hl, ks, kd0, a1, Q1, ka, kr, kM, kk⟩ := popn_ok _ _ _ _ H
        simp only [chk1, Bool.and_eq_true, Bool.or_eq_true, decide_eq_true_eq] at h1
        obtain ⟨⟨q1, q3⟩, q4⟩ := h1
        subst e1
        rw [List.append_nil] at kM
        have mk : ∀ t hint, (t = 1 ∨ t = 2) → (mcn j, idx, x, t, hint) ∈ tb_C → mk_ok x = true ∧ mk_s x = true ∧ x < 252 := fun t hint ht hq => by
          rcases q3 with q3 | q3
          · exact use_s ht q3 hq
          · subst q3; have := jk_236; simp only [Bool.and_eq_true] at this; exact ⟨this.1, this.2, by decide⟩
        rcases q1 with q1 | q1
        · obtain ⟨hint, hCt⟩ := chC_ok q1
          obtain ⟨m1, m2, m3⟩ := mk _ _ (Or.inl rfl) hCt
          exact e_callS hd hCt m1 m2 (by rw [use_np m3, q4, hl]) ks kd0 ka kr kM (fun r h' q => ih _ _ _ _ _ h2 (kk r h' q))
        · obtain ⟨hint, hCt⟩ := chC_ok q1
          obtain ⟨m1, m2, m3⟩ := mk _ _ (Or.inr rfl) hCt
          exact e_callN hd hCt m1 m2 (by rw [use_np m3, q4, hl]) ks kd0 ka kr kM (fun r h' q => ih _ _ _ _ _ h2 (kk r h' q))
      | z + 1, h1, H =>
        obtain ⟨hint, hCt⟩ := chC_ok (show chC j idx x 1 = true from h1)
        split at H
        · exact absurd ‹z + 1 = 0› (by omega)
        · split at H
          · obtain ⟨p, q, st, rfl, K0, K⟩ := g2i_ok H; exact e_mmax hd hCt K0.1 K0.2 (ih _ _ _ _ _ h2 K)
          · obtain ⟨p, q, st, rfl, K0, K⟩ := g2i_ok H; exact e_mmin hd hCt K0.1 K0.2 (ih _ _ _ _ _ h2 K)
          · obtain ⟨p, q, st, rfl, K0, K⟩ := g2l_ok H; exact e_lmax hd hCt K0.1 K0.2 (ih _ _ _ _ _ h2 K)
          · obtain ⟨p, q, st, rfl, K0, K⟩ := g2l_ok H; exact e_lmin hd hCt K0.1 K0.2 (ih _ _ _ _ _ h2 K)
          · exact H.elim
    all_goals exact False.elim H
end
section
/-! the code of the methods, as lists (wip/gen/code.py) -/
def bX0_need : Nat → List Ins := fun pc => match pc with
  | 0 => [(.iload 4, 0, 0, 0, 0), (.istore 5, 0, 0, 0, 0), (.iconst 0, 0, 0, 0, 0), (.istore 6, 0, 0, 0, 0)]
  | 7 => [(.iload 6, 0, 0, 0, 0), (.aload_n 1, 0, 0, 0, 0), (.getfield 15, 3, 2, 0, 0), (.if_icmp .ge 76, 89, 0, 0, 0), (.aload_n 1, 0, 0, 0, 0), (.iconst 2, 0, 0, 0, 2), (.iload 6, 0, 0, 0, 0), (.imul, 0, 0, 0, 0), (.invokevirtual 21, 30, 1, 3, 0), (.ifCond .ne 59, 83, 0, 0, 0), (.aload_n 0, 0, 0, 0, 0), (.aload_n 1, 0, 0, 0, 0), (.iconst 2, 0, 0, 0, 2), (.iload 6, 0, 0, 0, 0), (.imul, 0, 0, 0, 0), (.iconst 1, 0, 0, 0, 1), (.iadd, 0, 0, 0, 0), (.aload_n 2, 0, 0, 0, 0), (.iload_n 3, 0, 0, 0, 0), (.invokevirtual 25, 3, 4, 0, 0), (.ifCond .eq 43, 83, 0, 0, 0), (.aload_n 0, 0, 0, 0, 0), (.aload_n 1, 0, 0, 0, 0), (.iconst 2, 0, 0, 0, 2), (.iload 6, 0, 0, 0, 0), (.imul, 0, 0, 0, 0), (.aload_n 2, 0, 0, 0, 0), (.iload_n 3, 0, 0, 0, 0), (.invokevirtual 29, 4, 4, 0, 0), (.lstore 7, 0, 0, 0, 0), (.aload_n 0, 0, 0, 0, 0), (.getfield 33, 0, 2, 0, 0), (.ifCond .eq 8, 68, 0, 0, 0), (.iload 5, 0, 0, 0, 0), (.goto 16, 81, 0, 0, 0)]
  | 68 => [(.lconst 0, 0, 0, 0, 0), (.ldc2_w 37, 12, 0, 0, 0), (.lload 7, 0, 0, 0, 0), (.invokestatic 39, 240, 2, 1, 0), (.invokestatic 45, 238, 2, 1, 0), (.l2i, 0, 0, 0, 0)]
  | 81 => [(.istore 5, 0, 0, 0, 0)]
  | 83 => [(.iinc 6 1, 0, 0, 0, 1), (.goto (-79), 7, 0, 0, 0)]
  | 89 => [(.iload 5, 0, 0, 0, 0), (.ireturn, 0, 0, 0, 0)]
  | _ => []
theorem kX0_need (pc : Nat) : chk 1 (bX0_need pc) pc = true := by
  unfold bX0_need; split
  · decide +kernel
  · decide +kernel
  · decide +kernel
  · decide +kernel
  · decide +kernel
  · decide +kernel
  · rfl
def bX0_isBound : Nat → List Ins := fun pc => match pc with
  | 0 => [(.iconst 0, 0, 0, 0, 0), (.istore 4, 0, 0, 0, 0)]
  | 3 => [(.iload 4, 0, 0, 0, 0), (.aload_n 1, 0, 0, 0, 0), (.getfield 15, 3, 2, 0, 0), (.if_icmp .ge 38, 47, 0, 0, 0), (.aload_n 1, 0, 0, 0, 0), (.iconst 2, 0, 0, 0, 2), (.iload 4, 0, 0, 0, 0), (.imul, 0, 0, 0, 0), (.invokevirtual 21, 30, 1, 3, 0), (.ifCond .eq 21, 41, 0, 0, 0), (.aload_n 0, 0, 0, 0, 0), (.aload_n 1, 0, 0, 0, 0), (.iconst 2, 0, 0, 0, 2), (.iload 4, 0, 0, 0, 0), (.imul, 0, 0, 0, 0), (.iconst 1, 0, 0, 0, 1), (.iadd, 0, 0, 0, 0), (.aload_n 2, 0, 0, 0, 0), (.iload_n 3, 0, 0, 0, 0), (.invokevirtual 25, 3, 4, 0, 0), (.ifCond .eq 5, 41, 0, 0, 0), (.iconst 1, 0, 0, 0, 1), (.ireturn, 1, 0, 0, 0)]
  | 41 => [(.iinc 4 1, 0, 0, 0, 1), (.goto (-41), 3, 0, 0, 0)]
  | 47 => [(.iconst 0, 0, 0, 0, 0), (.ireturn, 1, 0, 0, 0)]
  | _ => []
theorem kX0_isBound (pc : Nat) : chk 2 (bX0_isBound pc) pc = true := by
  unfold bX0_isBound; split
  · decide +kernel
  · decide +kernel
  · decide +kernel
  · decide +kernel
  · rfl
def bX0_isSo : Nat → List Ins := fun pc => match pc with
  | 0 => [(.aload_n 1, 0, 0, 0, 0), (.iload_n 2, 0, 0, 0, 0), (.invokevirtual 21, 30, 1, 3, 0), (.ifCond .ne 24, 29, 0, 0, 0), (.aload_n 0, 0, 0, 0, 0), (.aload_n 1, 0, 0, 0, 0), (.iload_n 2, 0, 0, 0, 0), (.aload_n 3, 0, 0, 0, 0), (.iload 4, 0, 0, 0, 0), (.invokevirtual 29, 4, 4, 0, 0), (.lconst 0, 0, 0, 0, 0), (.lcmp, 0, 0, 0, 0), (.ifCond .eq 14, 33, 0, 0, 0), (.aload_n 0, 0, 0, 0, 0), (.getfield 33, 0, 2, 0, 0), (.ifCond .ne 7, 33, 0, 0, 0)]
  | 29 => [(.iconst 1, 0, 0, 0, 1), (.goto 4, 34, 0, 0, 0)]
  | 33 => [(.iconst 0, 0, 0, 0, 0)]
  | 34 => [(.ireturn, 1, 0, 0, 0)]
  | _ => []
theorem kX0_isSo (pc : Nat) : chk 3 (bX0_isSo pc) pc = true := by
  unfold bX0_isSo; split
  · decide +kernel
  · decide +kernel
  · decide +kernel
  · decide +kernel
  · rfl
def bX0_value : Nat → List Ins := fun pc => match pc with
  | 0 => [(.aload_n 0, 0, 0, 0, 0), (.iconst 0, 0, 0, 0, 0), (.putfield 48, 0, 1, 0, 0), (.aload_n 0, 0, 0, 0, 0), (.iconst 0, 0, 0, 0, 0), (.putfield 33, 0, 2, 1, 0), (.aload_n 1, 0, 0, 0, 0), (.iload_n 2, 0, 0, 0, 0), (.iconst 1, 0, 0, 0, 1), (.iadd, 0, 0, 0, 0), (.invokevirtual 51, 29, 1, 3, 0), (.istore 5, 0, 0, 0, 0), (.aload_n 1, 0, 0, 0, 0), (.iload_n 2, 0, 0, 0, 0), (.invokevirtual 51, 29, 1, 3, 0), (.istore 6, 0, 0, 0, 0)]
  | 26 => [(.iload 6, 0, 0, 0, 0), (.iload 5, 0, 0, 0, 0), (.if_icmp .ge 206, 236, 0, 0, 0), (.aload_n 0, 0, 0, 0, 0), (.getfield 33, 0, 2, 0, 0), (.ifCond .ne 199, 236, 0, 0, 0), (.aload_n 1, 0, 0, 0, 0), (.iload 6, 0, 0, 0, 0), (.invokevirtual 55, 28, 1, 3, 0), (.bipush 10, 0, 0, 0, 10), (.ishr, 0, 0, 0, 0), (.istore 7, 0, 0, 0, 0), (.aload_n 1, 0, 0, 0, 0), (.iload 6, 0, 0, 0, 0), (.invokevirtual 55, 28, 1, 3, 0), (.sipush 1023, 0, 0, 0, 1023), (.iand, 0, 0, 0, 0), (.istore 8, 0, 0, 0, 0), (.iload 7, 0, 0, 0, 0), (.ifCond .ne 13, 78, 0, 0, 0), (.aload_n 0, 0, 0, 0, 0), (.iload 8, 0, 0, 0, 0), (.i2l, 0, 0, 0, 0), (.invokevirtual 58, 6, 1, 0, 0), (.goto 155, 230, 0, 0, 0)]
  | 78 => [(.iload 7, 0, 0, 0, 0), (.iconst 1, 0, 0, 0, 1), (.if_icmp .ne 32, 113, 0, 0, 0), (.aload_n 0, 0, 0, 0, 0), (.iload 8, 0, 0, 0, 0), (.bipush 7, 0, 0, 0, 7), (.if_icmp .ne 9, 98, 0, 0, 0), (.iload 4, 0, 0, 0, 0), (.i2l, 0, 0, 0, 0), (.goto 12, 107, 0, 0, 0)]
  | 98 => [(.aload_n 3, 0, 0, 0, 0), (.iload 4, 0, 0, 0, 0), (.iload 8, 0, 0, 0, 0), (.invokevirtual 62, 90, 2, 10, 0), (.i2l, 0, 0, 0, 0)]
  | 107 => [(.invokevirtual 58, 6, 1, 0, 0), (.goto 120, 230, 0, 0, 0)]
  | 113 => [(.iload 7, 0, 0, 0, 0), (.bipush 9, 0, 0, 0, 9), (.if_icmp .ne 24, 141, 0, 0, 0), (.aload_n 0, 0, 0, 0, 0), (.aload_n 0, 0, 0, 0, 0), (.invokevirtual 68, 7, 0, 0, 0), (.lconst 0, 0, 0, 0, 0), (.lcmp, 0, 0, 0, 0), (.ifCond .ne 7, 134, 0, 0, 0), (.lconst 1, 1, 0, 0, 0), (.goto 4, 135, 0, 0, 0)]
  | 134 => [(.lconst 0, 0, 0, 0, 0)]
  | 135 => [(.invokevirtual 58, 6, 1, 0, 0), (.goto 92, 230, 0, 0, 0)]
  | 141 => [(.iload 7, 0, 0, 0, 0), (.bipush 10, 0, 0, 0, 10), (.if_icmp .eq 10, 155, 0, 0, 0), (.iload 7, 0, 0, 0, 0), (.bipush 11, 0, 0, 0, 11), (.if_icmp .ne 56, 208, 0, 0, 0)]
  | 155 => [(.aload_n 0, 0, 0, 0, 0), (.invokevirtual 68, 7, 0, 0, 0), (.lstore 9, 0, 0, 0, 0), (.lload 9, 0, 0, 0, 0), (.lconst 0, 0, 0, 0, 0), (.lcmp, 0, 0, 0, 0), (.ifCond .eq 7, 172, 0, 0, 0), (.iconst 1, 0, 0, 0, 1), (.goto 4, 173, 0, 0, 0)]
  | 172 => [(.iconst 0, 0, 0, 0, 0)]
  | 173 => [(.iload 7, 0, 0, 0, 0), (.bipush 11, 0, 0, 0, 11), (.if_icmp .ne 7, 184, 0, 0, 0), (.iconst 1, 0, 0, 0, 1), (.goto 4, 185, 0, 0, 0)]
  | 184 => [(.iconst 0, 0, 0, 0, 0)]
  | 185 => [(.if_icmp .ne 20, 205, 0, 0, 0), (.aload_n 0, 0, 0, 0, 0), (.lload 9, 0, 0, 0, 0), (.invokevirtual 58, 6, 1, 0, 0), (.iload 6, 0, 0, 0, 0), (.iload 8, 0, 0, 0, 0), (.iconst 1, 0, 0, 0, 1), (.isub, 0, 0, 0, 0), (.invokestatic 72, 237, 2, 1, 0), (.istore 6, 0, 0, 0, 0)]
  | 205 => [(.goto 25, 230, 0, 0, 0)]
  | 208 => [(.aload_n 0, 0, 0, 0, 0), (.invokevirtual 68, 7, 0, 0, 0), (.lstore 9, 0, 0, 0, 0), (.aload_n 0, 0, 0, 0, 0), (.aload_n 0, 0, 0, 0, 0), (.iload 7, 0, 0, 0, 0), (.aload_n 0, 0, 0, 0, 0), (.invokevirtual 68, 7, 0, 0, 0), (.lload 9, 0, 0, 0, 0), (.invokevirtual 74, 5, 3, 0, 0), (.invokevirtual 58, 6, 1, 0, 0)]
  | 230 => [(.iinc 6 1, 0, 0, 0, 1), (.goto (-207), 26, 0, 0, 0)]
  | 236 => [(.aload_n 0, 0, 0, 0, 0), (.invokevirtual 68, 7, 0, 0, 0), (.lreturn, 0, 0, 0, 0)]
  | _ => []
theorem kX0_value (pc : Nat) : chk 4 (bX0_value pc) pc = true := by
  unfold bX0_value; split
  · decide +kernel
  · decide +kernel
  · decide +kernel
  · decide +kernel
  · decide +kernel
  · decide +kernel
  · decide +kernel
  · decide +kernel
  · decide +kernel
  · decide +kernel
  · decide +kernel
  · decide +kernel
  · decide +kernel
  · decide +kernel
  · decide +kernel
  · decide +kernel
  · decide +kernel
  · decide +kernel
  · rfl
def bX0_joined : Nat → List Ins := fun pc => match pc with
  | 0 => [(.iload_n 1, 0, 0, 0, 0), (.bipush 6, 0, 0, 0, 6), (.if_icmp .ne 16, 19, 0, 0, 0), (.lload_n 2, 0, 0, 0, 0), (.lload 4, 0, 0, 0, 0), (.lcmp, 0, 0, 0, 0), (.ifCond .ge 7, 17, 0, 0, 0), (.lconst 1, 1, 0, 0, 0), (.goto 4, 18, 0, 0, 0)]
  | 17 => [(.lconst 0, 0, 0, 0, 0)]
  | 18 => [(.lreturn, 0, 0, 0, 0)]
  | 19 => [(.iload_n 1, 0, 0, 0, 0), (.bipush 7, 0, 0, 0, 7), (.if_icmp .ne 16, 38, 0, 0, 0), (.lload_n 2, 0, 0, 0, 0), (.lload 4, 0, 0, 0, 0), (.lcmp, 0, 0, 0, 0), (.ifCond .le 7, 36, 0, 0, 0), (.lconst 1, 1, 0, 0, 0), (.goto 4, 37, 0, 0, 0)]
  | 36 => [(.lconst 0, 0, 0, 0, 0)]
  | 37 => [(.lreturn, 0, 0, 0, 0)]
  | 38 => [(.iload_n 1, 0, 0, 0, 0), (.bipush 8, 0, 0, 0, 8), (.if_icmp .ne 16, 57, 0, 0, 0), (.lload_n 2, 0, 0, 0, 0), (.lload 4, 0, 0, 0, 0), (.lcmp, 0, 0, 0, 0), (.ifCond .ne 7, 55, 0, 0, 0), (.lconst 1, 1, 0, 0, 0), (.goto 4, 56, 0, 0, 0)]
  | 55 => [(.lconst 0, 0, 0, 0, 0)]
  | 56 => [(.lreturn, 0, 0, 0, 0)]
  | 57 => [(.lconst 0, 0, 0, 0, 0), (.lstore 6, 0, 0, 0, 0), (.iload_n 1, 0, 0, 0, 0), (.iconst 2, 0, 0, 0, 2), (.if_icmp .ne 12, 74, 0, 0, 0), (.lload_n 2, 0, 0, 0, 0), (.lload 4, 0, 0, 0, 0), (.ladd, 0, 0, 0, 0), (.lstore 6, 0, 0, 0, 0), (.goto 52, 123, 0, 0, 0)]
  | 74 => [(.iload_n 1, 0, 0, 0, 0), (.iconst 3, 0, 0, 0, 3), (.if_icmp .ne 12, 88, 0, 0, 0), (.lload_n 2, 0, 0, 0, 0), (.lload 4, 0, 0, 0, 0), (.lsub, 0, 0, 0, 0), (.lstore 6, 0, 0, 0, 0), (.goto 38, 123, 0, 0, 0)]
  | 88 => [(.iload_n 1, 0, 0, 0, 0), (.iconst 4, 0, 0, 0, 4), (.if_icmp .ne 12, 102, 0, 0, 0), (.lload_n 2, 0, 0, 0, 0), (.lload 4, 0, 0, 0, 0), (.lmul, 0, 0, 0, 0), (.lstore 6, 0, 0, 0, 0), (.goto 24, 123, 0, 0, 0)]
  | 102 => [(.lload 4, 0, 0, 0, 0), (.lconst 0, 0, 0, 0, 0), (.lcmp, 0, 0, 0, 0), (.ifCond .ne 11, 117, 0, 0, 0), (.aload_n 0, 0, 0, 0, 0), (.iconst 1, 0, 0, 0, 1), (.putfield 33, 0, 2, 1, 0), (.goto 9, 123, 0, 0, 0)]
  | 117 => [(.lload_n 2, 0, 0, 0, 0), (.lload 4, 0, 0, 0, 0), (.ldiv, 0, 0, 0, 0), (.lstore 6, 0, 0, 0, 0)]
  | 123 => [(.aload_n 0, 0, 0, 0, 0), (.aload_n 0, 0, 0, 0, 0), (.getfield 33, 0, 2, 0, 0), (.ifCond .ne 21, 149, 0, 0, 0), (.lload 6, 0, 0, 0, 0), (.ldc2_w 78, 1000000000, 0, 0, 0), (.lcmp, 0, 0, 0, 0), (.ifCond .gt 12, 149, 0, 0, 0), (.lload 6, 0, 0, 0, 0), (.ldc2_w 80, 1000000000, 1, 0, 0), (.lcmp, 0, 0, 0, 0), (.ifCond .ge 7, 153, 0, 0, 0)]
  | 149 => [(.iconst 1, 0, 0, 0, 1), (.goto 4, 154, 0, 0, 0)]
  | 153 => [(.iconst 0, 0, 0, 0, 0)]
  | 154 => [(.putfield 33, 0, 2, 1, 0), (.lload 6, 0, 0, 0, 0), (.lreturn, 0, 0, 0, 0)]
  | _ => []
theorem kX0_joined (pc : Nat) : chk 5 (bX0_joined pc) pc = true := by
  unfold bX0_joined; split
  · decide +kernel
  · decide +kernel
  · decide +kernel
  · decide +kernel
  · decide +kernel
  · decide +kernel
  · decide +kernel
  · decide +kernel
  · decide +kernel
  · decide +kernel
  · decide +kernel
  · decide +kernel
  · decide +kernel
  · decide +kernel
  · decide +kernel
  · decide +kernel
  · decide +kernel
  · decide +kernel
  · rfl
def bX0_push : Nat → List Ins := fun pc => match pc with
  | 0 => [(.aload_n 0, 0, 0, 0, 0), (.getfield 48, 0, 1, 0, 0), (.ifCond .lt 35, 39, 0, 0, 0), (.aload_n 0, 0, 0, 0, 0), (.getfield 48, 0, 1, 0, 0), (.aload_n 0, 0, 0, 0, 0), (.getfield 9, 0, 0, 0, 0), (.arraylength, 0, 0, 0, 0), (.if_icmp .ge 23, 39, 0, 0, 0), (.aload_n 0, 0, 0, 0, 0), (.getfield 9, 0, 0, 0, 0), (.aload_n 0, 0, 0, 0, 0), (.getfield 48, 0, 1, 0, 0), (.lload_n 1, 0, 0, 0, 0), (.lastore, 0, 0, 0, 0), (.aload_n 0, 0, 0, 0, 0), (.dup, 0, 0, 0, 0), (.getfield 48, 0, 1, 0, 0), (.iconst 1, 0, 0, 0, 1), (.iadd, 0, 0, 0, 0), (.putfield 48, 0, 1, 0, 0)]
  | 39 => [(.return_, 0, 0, 0, 0)]
  | _ => []
theorem kX0_push (pc : Nat) : chk 6 (bX0_push pc) pc = true := by
  unfold bX0_push; split
  · decide +kernel
  · decide +kernel
  · rfl
def bX0_pop : Nat → List Ins := fun pc => match pc with
  | 0 => [(.aload_n 0, 0, 0, 0, 0), (.getfield 48, 0, 1, 0, 0), (.iconst 1, 0, 0, 0, 1), (.if_icmp .lt 15, 20, 0, 0, 0), (.aload_n 0, 0, 0, 0, 0), (.getfield 48, 0, 1, 0, 0), (.aload_n 0, 0, 0, 0, 0), (.getfield 9, 0, 0, 0, 0), (.arraylength, 0, 0, 0, 0), (.if_icmp .le 5, 22, 0, 0, 0)]
  | 20 => [(.lconst 0, 0, 0, 0, 0), (.lreturn, 0, 0, 0, 0)]
  | 22 => [(.aload_n 0, 0, 0, 0, 0), (.dup, 0, 0, 0, 0), (.getfield 48, 0, 1, 0, 0), (.iconst 1, 0, 0, 0, 1), (.isub, 0, 0, 0, 0), (.putfield 48, 0, 1, 0, 0), (.aload_n 0, 0, 0, 0, 0), (.getfield 9, 0, 0, 0, 0), (.aload_n 0, 0, 0, 0, 0), (.getfield 48, 0, 1, 0, 0), (.laload, 0, 0, 0, 0), (.lreturn, 0, 0, 0, 0)]
  | _ => []
theorem kX0_pop (pc : Nat) : chk 7 (bX0_pop pc) pc = true := by
  unfold bX0_pop; split
  · decide +kernel
  · decide +kernel
  · decide +kernel
  · rfl
def bX1_clear : Nat → List Ins := fun pc => match pc with
  | 0 => [(.aload_n 0, 0, 0, 0, 0), (.iconst (-1), 0, 0, 0, (-1)), (.putfield 9, 1, 0, 0, 0), (.aload_n 0, 0, 0, 0, 0), (.iconst (-1), 0, 0, 0, (-1)), (.putfield 15, 1, 1, 0, 0), (.aload_n 0, 0, 0, 0, 0), (.iconst 0, 0, 0, 0, 0), (.putfield 18, 1, 2, 0, 0), (.return_, 0, 0, 0, 0)]
  | _ => []
theorem kX1_clear (pc : Nat) : chk 9 (bX1_clear pc) pc = true := by
  unfold bX1_clear; split
  · decide +kernel
  · rfl
def bX1_offer : Nat → List Ins := fun pc => match pc with
  | 0 => [(.iload_n 1, 0, 0, 0, 0), (.invokestatic 21, 236, 1, 0, 0), (.istore_n 2, 0, 0, 0, 0), (.aload_n 0, 0, 0, 0, 0), (.getfield 9, 1, 0, 0, 0), (.iconst (-1), 0, 0, 0, (-1)), (.if_icmp .eq 11, 21, 0, 0, 0), (.iload_n 2, 0, 0, 0, 0), (.aload_n 0, 0, 0, 0, 0), (.getfield 9, 1, 0, 0, 0), (.if_icmp .ge 21, 39, 0, 0, 0)]
  | 21 => [(.aload_n 0, 0, 0, 0, 0), (.iload_n 2, 0, 0, 0, 0), (.putfield 9, 1, 0, 0, 0), (.aload_n 0, 0, 0, 0, 0), (.iload_n 1, 0, 0, 0, 0), (.putfield 15, 1, 1, 0, 0), (.aload_n 0, 0, 0, 0, 0), (.iconst 1, 0, 0, 0, 1), (.putfield 18, 1, 2, 0, 0), (.goto 33, 69, 0, 0, 0)]
  | 39 => [(.iload_n 2, 0, 0, 0, 0), (.aload_n 0, 0, 0, 0, 0), (.getfield 9, 1, 0, 0, 0), (.if_icmp .ne 25, 69, 0, 0, 0), (.aload_n 0, 0, 0, 0, 0), (.aload_n 0, 0, 0, 0, 0), (.getfield 15, 1, 1, 0, 0), (.iload_n 1, 0, 0, 0, 0), (.invokestatic 27, 239, 2, 1, 0), (.putfield 15, 1, 1, 0, 0), (.aload_n 0, 0, 0, 0, 0), (.dup, 0, 0, 0, 0), (.getfield 18, 1, 2, 0, 0), (.iconst 1, 0, 0, 0, 1), (.iadd, 0, 0, 0, 0), (.putfield 18, 1, 2, 0, 0)]
  | 69 => [(.return_, 0, 0, 0, 0)]
  | _ => []
theorem kX1_offer (pc : Nat) : chk 10 (bX1_offer pc) pc = true := by
  unfold bX1_offer; split
  · decide +kernel
  · decide +kernel
  · decide +kernel
  · decide +kernel
  · rfl
def bX1_told : Nat → List Ins := fun pc => match pc with
  | 0 => [(.iload_n 1, 0, 0, 0, 0), (.ifCond .ne 10, 11, 0, 0, 0), (.aload_n 0, 0, 0, 0, 0), (.getfield 9, 1, 0, 0, 0), (.goto 28, 36, 0, 0, 0)]
  | 11 => [(.iload_n 1, 0, 0, 0, 0), (.iconst 1, 0, 0, 0, 1), (.if_icmp .ne 10, 23, 0, 0, 0), (.aload_n 0, 0, 0, 0, 0), (.getfield 15, 1, 1, 0, 0), (.goto 16, 36, 0, 0, 0)]
  | 23 => [(.iload_n 1, 0, 0, 0, 0), (.iconst 2, 0, 0, 0, 2), (.if_icmp .ne 10, 35, 0, 0, 0), (.aload_n 0, 0, 0, 0, 0), (.getfield 18, 1, 2, 0, 0), (.goto 4, 36, 0, 0, 0)]
  | 35 => [(.iconst (-1), 0, 0, 0, (-1))]
  | 36 => [(.ireturn, 0, 0, 0, 0)]
  | _ => []
theorem kX1_told (pc : Nat) : chk 11 (bX1_told pc) pc = true := by
  unfold bX1_told; split
  · decide +kernel
  · decide +kernel
  · decide +kernel
  · decide +kernel
  · decide +kernel
  · rfl
def bX2_renew : Nat → List Ins := fun pc => match pc with
  | 0 => [(.aload_n 1, 0, 0, 0, 0), (.invokevirtual 31, 94, 0, 10, 0), (.astore_n 2, 0, 0, 0, 0), (.aload_n 0, 0, 0, 0, 0), (.iconst 0, 0, 0, 0, 0), (.putfield 37, 2, 5, 0, 0), (.iconst 0, 0, 0, 0, 0), (.istore_n 3, 0, 0, 0, 0)]
  | 12 => [(.iload_n 3, 0, 0, 0, 0), (.bipush 22, 0, 0, 0, 22), (.if_icmp .ge 142, 157, 0, 0, 0), (.aload_n 0, 0, 0, 0, 0), (.getfield 18, 2, 1, 0, 0), (.iload_n 3, 0, 0, 0, 0), (.iconst 0, 0, 0, 0, 0), (.iastore, 0, 0, 0, 0), (.aload_n 1, 0, 0, 0, 0), (.iload_n 3, 0, 0, 0, 0), (.invokevirtual 41, 96, 1, 10, 0), (.ifCond .eq 121, 151, 0, 0, 0), (.aload_n 0, 0, 0, 0, 0), (.getfield 18, 2, 1, 0, 0), (.iload_n 3, 0, 0, 0, 0), (.aload_n 1, 0, 0, 0, 0), (.iload_n 3, 0, 0, 0, 0), (.invokestatic 45, 14, 2, 0, 0), (.iastore, 0, 0, 0, 0), (.aload_n 0, 0, 0, 0, 0), (.getfield 25, 2, 3, 0, 0), (.iload_n 3, 0, 0, 0, 0), (.aload_n 1, 0, 0, 0, 0), (.iload_n 3, 0, 0, 0, 0), (.invokestatic 49, 15, 2, 0, 0), (.iastore, 0, 0, 0, 0), (.aload_n 0, 0, 0, 0, 0), (.getfield 22, 2, 2, 0, 0), (.iload_n 3, 0, 0, 0, 0), (.aload_n 1, 0, 0, 0, 0), (.iconst 0, 0, 0, 0, 0), (.invokevirtual 52, 91, 1, 10, 0), (.iastore, 0, 0, 0, 0), (.aload_n 2, 0, 0, 0, 0), (.ifnull 53, 120, 0, 0, 0), (.aload_n 0, 0, 0, 0, 0), (.getfield 22, 2, 2, 0, 0), (.iload_n 3, 0, 0, 0, 0), (.aload_n 0, 0, 0, 0, 0), (.getfield 12, 2, 0, 0, 0), (.aload_n 2, 0, 0, 0, 0), (.aload_n 1, 0, 0, 0, 0), (.iload_n 3, 0, 0, 0, 0), (.aload_n 1, 0, 0, 0, 0), (.iconst 0, 0, 0, 0, 0), (.invokevirtual 52, 91, 1, 10, 0), (.invokevirtual 56, 1, 4, 0, 0), (.iastore, 0, 0, 0, 0), (.aload_n 0, 0, 0, 0, 0), (.dup, 0, 0, 0, 0), (.getfield 37, 2, 5, 0, 0), (.aload_n 0, 0, 0, 0, 0), (.getfield 12, 2, 0, 0, 0), (.aload_n 2, 0, 0, 0, 0), (.aload_n 1, 0, 0, 0, 0), (.iload_n 3, 0, 0, 0, 0), (.invokevirtual 60, 2, 3, 0, 0), (.ifCond .eq 9, 115, 0, 0, 0), (.iconst 1, 0, 0, 0, 1), (.iload_n 3, 0, 0, 0, 0), (.ishl, 0, 0, 0, 0), (.goto 4, 116, 0, 0, 0)]
  | 115 => [(.iconst 0, 0, 0, 0, 0)]
  | 116 => [(.ior, 0, 0, 0, 0), (.putfield 37, 2, 5, 0, 0)]
  | 120 => [(.aload_n 0, 0, 0, 0, 0), (.getfield 28, 2, 4, 0, 0), (.iload_n 3, 0, 0, 0, 0), (.aload_n 0, 0, 0, 0, 0), (.iload_n 3, 0, 0, 0, 0), (.invokevirtual 64, 18, 1, 2, 0), (.ifCond .eq 7, 137, 0, 0, 0), (.iconst 0, 0, 0, 0, 0), (.goto 16, 150, 0, 0, 0)]
  | 137 => [(.aload_n 0, 0, 0, 0, 0), (.getfield 22, 2, 2, 0, 0), (.iload_n 3, 0, 0, 0, 0), (.iaload, 0, 0, 0, 0), (.aload_n 0, 0, 0, 0, 0), (.getfield 25, 2, 3, 0, 0), (.iload_n 3, 0, 0, 0, 0), (.iaload, 0, 0, 0, 0), (.isub, 0, 0, 0, 0)]
  | 150 => [(.iastore, 0, 0, 0, 0)]
  | 151 => [(.iinc 3 1, 0, 0, 0, 1), (.goto (-142), 12, 0, 0, 0)]
  | 157 => [(.return_, 0, 0, 0, 0)]
  | _ => []
theorem kX2_renew (pc : Nat) : chk 13 (bX2_renew pc) pc = true := by
  unfold bX2_renew; split
  · decide +kernel
  · decide +kernel
  · decide +kernel
  · decide +kernel
  · decide +kernel
  · decide +kernel
  · decide +kernel
  · decide +kernel
  · decide +kernel
  · rfl
def bX2_neighbours : Nat → List Ins := fun pc => match pc with
  | 0 => [(.aload_n 0, 0, 0, 0, 0), (.iload_n 1, 0, 0, 0, 0), (.iconst 0, 0, 0, 0, 0), (.invokevirtual 66, 90, 2, 10, 0), (.istore_n 2, 0, 0, 0, 0), (.aload_n 0, 0, 0, 0, 0), (.iload_n 1, 0, 0, 0, 0), (.iconst 1, 0, 0, 0, 1), (.invokevirtual 66, 90, 2, 10, 0), (.istore_n 3, 0, 0, 0, 0), (.aload_n 0, 0, 0, 0, 0), (.iload_n 1, 0, 0, 0, 0), (.iconst 2, 0, 0, 0, 2), (.invokevirtual 66, 90, 2, 10, 0), (.istore 4, 0, 0, 0, 0), (.aload_n 0, 0, 0, 0, 0), (.iload_n 1, 0, 0, 0, 0), (.iconst 3, 0, 0, 0, 3), (.invokevirtual 66, 90, 2, 10, 0), (.istore 5, 0, 0, 0, 0), (.iconst 0, 0, 0, 0, 0), (.istore 6, 0, 0, 0, 0), (.iconst 0, 0, 0, 0, 0), (.istore 7, 0, 0, 0, 0)]
  | 36 => [(.iload 7, 0, 0, 0, 0), (.bipush 22, 0, 0, 0, 22), (.if_icmp .ge 83, 123, 0, 0, 0), (.iload 7, 0, 0, 0, 0), (.iload_n 1, 0, 0, 0, 0), (.if_icmp .eq 54, 100, 0, 0, 0), (.aload_n 0, 0, 0, 0, 0), (.iload 7, 0, 0, 0, 0), (.invokevirtual 41, 96, 1, 10, 0), (.ifCond .eq 45, 100, 0, 0, 0), (.aload_n 0, 0, 0, 0, 0), (.iload 7, 0, 0, 0, 0), (.iload_n 2, 0, 0, 0, 0), (.iconst 1, 0, 0, 0, 1), (.isub, 0, 0, 0, 0), (.iload_n 3, 0, 0, 0, 0), (.iload 4, 0, 0, 0, 0), (.iconst 2, 0, 0, 0, 2), (.iadd, 0, 0, 0, 0), (.iload 5, 0, 0, 0, 0), (.invokevirtual 70, 98, 5, 10, 0), (.ifCond .ne 22, 96, 0, 0, 0), (.aload_n 0, 0, 0, 0, 0), (.iload 7, 0, 0, 0, 0), (.iload_n 2, 0, 0, 0, 0), (.iload_n 3, 0, 0, 0, 0), (.iconst 1, 0, 0, 0, 1), (.isub, 0, 0, 0, 0), (.iload 4, 0, 0, 0, 0), (.iload 5, 0, 0, 0, 0), (.iconst 2, 0, 0, 0, 2), (.iadd, 0, 0, 0, 0), (.invokevirtual 70, 98, 5, 10, 0), (.ifCond .eq 7, 100, 0, 0, 0)]
  | 96 => [(.iconst 1, 0, 0, 0, 1), (.goto 4, 101, 0, 0, 0)]
  | 100 => [(.iconst 0, 0, 0, 0, 0)]
  | 101 => [(.istore 8, 0, 0, 0, 0), (.iload 8, 0, 0, 0, 0), (.ifCond .eq 12, 117, 0, 0, 0), (.iload 6, 0, 0, 0, 0), (.iconst 1, 0, 0, 0, 1), (.iload 7, 0, 0, 0, 0), (.ishl, 0, 0, 0, 0), (.ior, 0, 0, 0, 0), (.istore 6, 0, 0, 0, 0)]
  | 117 => [(.iinc 7 1, 0, 0, 0, 1), (.goto (-84), 36, 0, 0, 0)]
  | 123 => [(.iload 6, 0, 0, 0, 0), (.ireturn, 0, 0, 0, 0)]
  | _ => []
theorem kX2_neighbours (pc : Nat) : chk 14 (bX2_neighbours pc) pc = true := by
  unfold bX2_neighbours; split
  · decide +kernel
  · decide +kernel
  · decide +kernel
  · decide +kernel
  · decide +kernel
  · decide +kernel
  · decide +kernel
  · rfl
def bX2_heldOf : Nat → List Ins := fun pc => match pc with
  | 0 => [(.aload_n 0, 0, 0, 0, 0), (.iload_n 1, 0, 0, 0, 0), (.iconst 1, 0, 0, 0, 1), (.invokevirtual 66, 90, 2, 10, 0), (.ifCond .ne 11, 17, 0, 0, 0), (.aload_n 0, 0, 0, 0, 0), (.iconst 1, 0, 0, 0, 1), (.invokevirtual 52, 91, 1, 10, 0), (.goto 4, 18, 0, 0, 0)]
  | 17 => [(.iconst 0, 0, 0, 0, 0)]
  | 18 => [(.istore_n 2, 0, 0, 0, 0), (.aload_n 0, 0, 0, 0, 0), (.iload_n 1, 0, 0, 0, 0), (.iconst 0, 0, 0, 0, 0), (.invokevirtual 66, 90, 2, 10, 0), (.ifCond .ne 11, 36, 0, 0, 0), (.iload_n 2, 0, 0, 0, 0), (.aload_n 0, 0, 0, 0, 0), (.iconst 2, 0, 0, 0, 2), (.invokevirtual 52, 91, 1, 10, 0), (.iadd, 0, 0, 0, 0), (.istore_n 2, 0, 0, 0, 0)]
  | 36 => [(.aload_n 0, 0, 0, 0, 0), (.iload_n 1, 0, 0, 0, 0), (.iconst 0, 0, 0, 0, 0), (.invokevirtual 66, 90, 2, 10, 0), (.aload_n 0, 0, 0, 0, 0), (.iload_n 1, 0, 0, 0, 0), (.iconst 2, 0, 0, 0, 2), (.invokevirtual 66, 90, 2, 10, 0), (.iadd, 0, 0, 0, 0), (.bipush 12, 0, 0, 0, 12), (.if_icmp .ne 11, 62, 0, 0, 0), (.iload_n 2, 0, 0, 0, 0), (.aload_n 0, 0, 0, 0, 0), (.iconst 2, 0, 0, 0, 2), (.invokevirtual 52, 91, 1, 10, 0), (.iadd, 0, 0, 0, 0), (.istore_n 2, 0, 0, 0, 0)]
  | 62 => [(.iload_n 2, 0, 0, 0, 0), (.ireturn, 0, 0, 0, 0)]
  | _ => []
theorem kX2_heldOf (pc : Nat) : chk 15 (bX2_heldOf pc) pc = true := by
  unfold bX2_heldOf; split
  · decide +kernel
  · decide +kernel
  · decide +kernel
  · decide +kernel
  · decide +kernel
  · rfl
def bX2_needOf : Nat → List Ins := fun pc => match pc with
  | 0 => [(.iload_n 1, 0, 0, 0, 0), (.iconst 0, 0, 0, 0, 0), (.bipush 21, 0, 0, 0, 21), (.invokestatic 74, 142, 3, 0, 0), (.ifCond .eq 12, 19, 0, 0, 0), (.aload_n 0, 0, 0, 0, 0), (.getfield 22, 2, 2, 0, 0), (.iload_n 1, 0, 0, 0, 0), (.iaload, 0, 0, 0, 0), (.goto 4, 20, 0, 0, 0)]
  | 19 => [(.iconst (-1), 0, 0, 0, (-1))]
  | 20 => [(.ireturn, 0, 0, 0, 0)]
  | _ => []
theorem kX2_needOf (pc : Nat) : chk 16 (bX2_needOf pc) pc = true := by
  unfold bX2_needOf; split
  · decide +kernel
  · decide +kernel
  · decide +kernel
  · rfl
def bX2_besideOf : Nat → List Ins := fun pc => match pc with
  | 0 => [(.iload_n 1, 0, 0, 0, 0), (.iconst 0, 0, 0, 0, 0), (.bipush 21, 0, 0, 0, 21), (.invokestatic 74, 142, 3, 0, 0), (.ifCond .eq 12, 19, 0, 0, 0), (.aload_n 0, 0, 0, 0, 0), (.getfield 18, 2, 1, 0, 0), (.iload_n 1, 0, 0, 0, 0), (.iaload, 0, 0, 0, 0), (.goto 4, 20, 0, 0, 0)]
  | 19 => [(.iconst 0, 0, 0, 0, 0)]
  | 20 => [(.ireturn, 0, 0, 0, 0)]
  | _ => []
theorem kX2_besideOf (pc : Nat) : chk 17 (bX2_besideOf pc) pc = true := by
  unfold bX2_besideOf; split
  · decide +kernel
  · decide +kernel
  · decide +kernel
  · rfl
def bX2_isBound : Nat → List Ins := fun pc => match pc with
  | 0 => [(.iload_n 1, 0, 0, 0, 0), (.iconst 0, 0, 0, 0, 0), (.bipush 21, 0, 0, 0, 21), (.invokestatic 74, 142, 3, 0, 0), (.ifCond .eq 18, 25, 0, 0, 0), (.aload_n 0, 0, 0, 0, 0), (.getfield 37, 2, 5, 0, 0), (.iload_n 1, 0, 0, 0, 0), (.ishr, 0, 0, 0, 0), (.iconst 1, 0, 0, 0, 1), (.iand, 0, 0, 0, 0), (.ifCond .eq 7, 25, 0, 0, 0), (.iconst 1, 0, 0, 0, 1), (.goto 4, 26, 0, 0, 0)]
  | 25 => [(.iconst 0, 0, 0, 0, 0)]
  | 26 => [(.ireturn, 1, 0, 0, 0)]
  | _ => []
theorem kX2_isBound (pc : Nat) : chk 18 (bX2_isBound pc) pc = true := by
  unfold bX2_isBound; split
  · decide +kernel
  · decide +kernel
  · decide +kernel
  · rfl
def bX2_touchesOf : Nat → List Ins := fun pc => match pc with
  | 0 => [(.iload_n 1, 0, 0, 0, 0), (.iconst 0, 0, 0, 0, 0), (.bipush 21, 0, 0, 0, 21), (.invokestatic 74, 142, 3, 0, 0), (.ifCond .ne 5, 12, 0, 0, 0), (.iconst (-1), 0, 0, 0, (-1)), (.ireturn, 0, 0, 0, 0)]
  | 12 => [(.aload_n 0, 0, 0, 0, 0), (.getfield 18, 2, 1, 0, 0), (.iload_n 1, 0, 0, 0, 0), (.iaload, 0, 0, 0, 0), (.iload_n 2, 0, 0, 0, 0), (.iand, 0, 0, 0, 0), (.invokestatic 78, 236, 1, 0, 0), (.aload_n 0, 0, 0, 0, 0), (.getfield 25, 2, 3, 0, 0), (.iload_n 1, 0, 0, 0, 0), (.iaload, 0, 0, 0, 0), (.iadd, 0, 0, 0, 0), (.ireturn, 0, 0, 0, 0)]
  | _ => []
theorem kX2_touchesOf (pc : Nat) : chk 19 (bX2_touchesOf pc) pc = true := by
  unfold bX2_touchesOf; split
  · decide +kernel
  · decide +kernel
  · rfl
def bX2_isLawful : Nat → List Ins := fun pc => match pc with
  | 0 => [(.iconst 0, 0, 0, 0, 0), (.istore_n 2, 0, 0, 0, 0)]
  | 2 => [(.iload_n 2, 0, 0, 0, 0), (.bipush 22, 0, 0, 0, 22), (.if_icmp .ge 45, 50, 0, 0, 0), (.iload_n 1, 0, 0, 0, 0), (.iload_n 2, 0, 0, 0, 0), (.ishr, 0, 0, 0, 0), (.ifCond .eq 39, 50, 0, 0, 0), (.iload_n 1, 0, 0, 0, 0), (.iload_n 2, 0, 0, 0, 0), (.ishr, 0, 0, 0, 0), (.iconst 1, 0, 0, 0, 1), (.iand, 0, 0, 0, 0), (.ifCond .eq 25, 44, 0, 0, 0), (.aload_n 0, 0, 0, 0, 0), (.getfield 18, 2, 1, 0, 0), (.iload_n 2, 0, 0, 0, 0), (.iaload, 0, 0, 0, 0), (.iload_n 1, 0, 0, 0, 0), (.iand, 0, 0, 0, 0), (.invokestatic 78, 236, 1, 0, 0), (.aload_n 0, 0, 0, 0, 0), (.getfield 28, 2, 4, 0, 0), (.iload_n 2, 0, 0, 0, 0), (.iaload, 0, 0, 0, 0), (.if_icmp .ge 5, 44, 0, 0, 0), (.iconst 0, 0, 0, 0, 0), (.ireturn, 1, 0, 0, 0)]
  | 44 => [(.iinc 2 1, 0, 0, 0, 1), (.goto (-45), 2, 0, 0, 0)]
  | 50 => [(.iload_n 1, 0, 0, 0, 0), (.ifCond .eq 7, 58, 0, 0, 0), (.iconst 1, 0, 0, 0, 1), (.goto 4, 59, 0, 0, 0)]
  | 58 => [(.iconst 0, 0, 0, 0, 0)]
  | 59 => [(.ireturn, 1, 0, 0, 0)]
  | _ => []
theorem kX2_isLawful (pc : Nat) : chk 20 (bX2_isLawful pc) pc = true := by
  unfold bX2_isLawful; split
  · decide +kernel
  · decide +kernel
  · decide +kernel
  · decide +kernel
  · decide +kernel
  · decide +kernel
  · rfl
def bX2_unsteady : Nat → List Ins := fun pc => match pc with
  | 0 => [(.iconst 0, 0, 0, 0, 0), (.istore_n 2, 0, 0, 0, 0), (.iconst 0, 0, 0, 0, 0), (.istore_n 3, 0, 0, 0, 0)]
  | 4 => [(.iload_n 3, 0, 0, 0, 0), (.bipush 22, 0, 0, 0, 22), (.if_icmp .ge 49, 56, 0, 0, 0), (.iload_n 1, 0, 0, 0, 0), (.iload_n 3, 0, 0, 0, 0), (.ishr, 0, 0, 0, 0), (.ifCond .eq 43, 56, 0, 0, 0), (.iload_n 1, 0, 0, 0, 0), (.iload_n 3, 0, 0, 0, 0), (.ishr, 0, 0, 0, 0), (.iconst 1, 0, 0, 0, 1), (.iand, 0, 0, 0, 0), (.ifCond .eq 29, 50, 0, 0, 0), (.aload_n 0, 0, 0, 0, 0), (.getfield 18, 2, 1, 0, 0), (.iload_n 3, 0, 0, 0, 0), (.iaload, 0, 0, 0, 0), (.iload_n 1, 0, 0, 0, 0), (.iand, 0, 0, 0, 0), (.invokestatic 78, 236, 1, 0, 0), (.aload_n 0, 0, 0, 0, 0), (.getfield 28, 2, 4, 0, 0), (.iload_n 3, 0, 0, 0, 0), (.iaload, 0, 0, 0, 0), (.if_icmp .ge 9, 50, 0, 0, 0), (.iload_n 2, 0, 0, 0, 0), (.iconst 1, 0, 0, 0, 1), (.iload_n 3, 0, 0, 0, 0), (.ishl, 0, 0, 0, 0), (.ior, 0, 0, 0, 0), (.istore_n 2, 0, 0, 0, 0)]
  | 50 => [(.iinc 3 1, 0, 0, 0, 1), (.goto (-49), 4, 0, 0, 0)]
  | 56 => [(.iload_n 2, 0, 0, 0, 0), (.ireturn, 0, 0, 0, 0)]
  | _ => []
theorem kX2_unsteady (pc : Nat) : chk 21 (bX2_unsteady pc) pc = true := by
  unfold bX2_unsteady; split
  · decide +kernel
  · decide +kernel
  · decide +kernel
  · decide +kernel
  · rfl
def bX2_settled : Nat → List Ins := fun pc => match pc with
  | 0 => [(.iload_n 1, 0, 0, 0, 0), (.istore_n 2, 0, 0, 0, 0), (.aload_n 0, 0, 0, 0, 0), (.iload_n 2, 0, 0, 0, 0), (.invokevirtual 83, 21, 1, 2, 0), (.istore_n 3, 0, 0, 0, 0), (.iconst 0, 0, 0, 0, 0), (.istore 4, 0, 0, 0, 0)]
  | 11 => [(.iload 4, 0, 0, 0, 0), (.bipush 22, 0, 0, 0, 22), (.if_icmp .ge 25, 40, 0, 0, 0), (.iload_n 3, 0, 0, 0, 0), (.ifCond .eq 21, 40, 0, 0, 0), (.iload_n 2, 0, 0, 0, 0), (.iload_n 3, 0, 0, 0, 0), (.iconst (-1), 0, 0, 0, (-1)), (.ixor, 0, 0, 0, 0), (.iand, 0, 0, 0, 0), (.istore_n 2, 0, 0, 0, 0), (.aload_n 0, 0, 0, 0, 0), (.iload_n 2, 0, 0, 0, 0), (.invokevirtual 83, 21, 1, 2, 0), (.istore_n 3, 0, 0, 0, 0), (.iinc 4 1, 0, 0, 0, 1), (.goto (-26), 11, 0, 0, 0)]
  | 40 => [(.iload_n 2, 0, 0, 0, 0), (.ireturn, 0, 0, 0, 0)]
  | _ => []
theorem kX2_settled (pc : Nat) : chk 22 (bX2_settled pc) pc = true := by
  unfold bX2_settled; split
  · decide +kernel
  · decide +kernel
  · decide +kernel
  · rfl
def bX2_rounds : Nat → List Ins := fun pc => match pc with
  | 0 => [(.iload_n 1, 0, 0, 0, 0), (.istore_n 2, 0, 0, 0, 0), (.aload_n 0, 0, 0, 0, 0), (.iload_n 2, 0, 0, 0, 0), (.invokevirtual 83, 21, 1, 2, 0), (.istore_n 3, 0, 0, 0, 0), (.iconst 0, 0, 0, 0, 0), (.istore 4, 0, 0, 0, 0), (.iconst 0, 0, 0, 0, 0), (.istore 5, 0, 0, 0, 0)]
  | 14 => [(.iload 5, 0, 0, 0, 0), (.bipush 22, 0, 0, 0, 22), (.if_icmp .ge 28, 46, 0, 0, 0), (.iload_n 3, 0, 0, 0, 0), (.ifCond .eq 24, 46, 0, 0, 0), (.iinc 4 1, 0, 0, 0, 1), (.iload_n 2, 0, 0, 0, 0), (.iload_n 3, 0, 0, 0, 0), (.iconst (-1), 0, 0, 0, (-1)), (.ixor, 0, 0, 0, 0), (.iand, 0, 0, 0, 0), (.istore_n 2, 0, 0, 0, 0), (.aload_n 0, 0, 0, 0, 0), (.iload_n 2, 0, 0, 0, 0), (.invokevirtual 83, 21, 1, 2, 0), (.istore_n 3, 0, 0, 0, 0), (.iinc 5 1, 0, 0, 0, 1), (.goto (-29), 14, 0, 0, 0)]
  | 46 => [(.iload 4, 0, 0, 0, 0), (.ireturn, 0, 0, 0, 0)]
  | _ => []
theorem kX2_rounds (pc : Nat) : chk 23 (bX2_rounds pc) pc = true := by
  unfold bX2_rounds; split
  · decide +kernel
  · decide +kernel
  · decide +kernel
  · rfl
def bX2_roundOf : Nat → List Ins := fun pc => match pc with
  | 0 => [(.iload_n 1, 0, 0, 0, 0), (.istore_n 3, 0, 0, 0, 0), (.aload_n 0, 0, 0, 0, 0), (.iload_n 1, 0, 0, 0, 0), (.invokevirtual 86, 23, 1, 2, 0), (.istore 4, 0, 0, 0, 0), (.iconst 0, 0, 0, 0, 0), (.istore 5, 0, 0, 0, 0)]
  | 12 => [(.iload 5, 0, 0, 0, 0), (.iload 4, 0, 0, 0, 0), (.if_icmp .gt 30, 46, 0, 0, 0), (.iload_n 3, 0, 0, 0, 0), (.iload_n 2, 0, 0, 0, 0), (.ishr, 0, 0, 0, 0), (.iconst 1, 0, 0, 0, 1), (.iand, 0, 0, 0, 0), (.ifCond .ne 6, 30, 0, 0, 0), (.iload 5, 0, 0, 0, 0), (.ireturn, 0, 0, 0, 0)]
  | 30 => [(.iload_n 3, 0, 0, 0, 0), (.aload_n 0, 0, 0, 0, 0), (.iload_n 3, 0, 0, 0, 0), (.invokevirtual 83, 21, 1, 2, 0), (.iconst (-1), 0, 0, 0, (-1)), (.ixor, 0, 0, 0, 0), (.iand, 0, 0, 0, 0), (.istore_n 3, 0, 0, 0, 0), (.iinc 5 1, 0, 0, 0, 1), (.goto (-31), 12, 0, 0, 0)]
  | 46 => [(.iconst (-1), 0, 0, 0, (-1)), (.ireturn, 0, 0, 0, 0)]
  | _ => []
theorem kX2_roundOf (pc : Nat) : chk 24 (bX2_roundOf pc) pc = true := by
  unfold bX2_roundOf; split
  · decide +kernel
  · decide +kernel
  · decide +kernel
  · decide +kernel
  · rfl
def bX2_singles : Nat → List Ins := fun pc => match pc with
  | 0 => [(.iconst 0, 0, 0, 0, 0), (.istore 4, 0, 0, 0, 0), (.iconst 0, 0, 0, 0, 0), (.istore 5, 0, 0, 0, 0)]
  | 6 => [(.iload 5, 0, 0, 0, 0), (.bipush 14, 0, 0, 0, 14), (.if_icmp .ge 46, 56, 0, 0, 0), (.iconst 1, 0, 0, 0, 1), (.iload 5, 0, 0, 0, 0), (.ishl, 0, 0, 0, 0), (.iload_n 1, 0, 0, 0, 0), (.iand, 0, 0, 0, 0), (.istore 6, 0, 0, 0, 0), (.iload 6, 0, 0, 0, 0), (.ifCond .eq 27, 50, 0, 0, 0), (.aload_n 0, 0, 0, 0, 0), (.iload_n 1, 0, 0, 0, 0), (.iload 6, 0, 0, 0, 0), (.iconst (-1), 0, 0, 0, (-1)), (.ixor, 0, 0, 0, 0), (.iand, 0, 0, 0, 0), (.invokevirtual 89, 22, 1, 2, 0), (.iload_n 2, 0, 0, 0, 0), (.if_icmp .ne 13, 50, 0, 0, 0), (.iload_n 3, 0, 0, 0, 0), (.ifCond .eq 6, 47, 0, 0, 0), (.iload 5, 0, 0, 0, 0), (.ireturn, 0, 0, 0, 0)]
  | 47 => [(.iinc 4 1, 0, 0, 0, 1)]
  | 50 => [(.iinc 5 1, 0, 0, 0, 1), (.goto (-47), 6, 0, 0, 0)]
  | 56 => [(.iload_n 3, 0, 0, 0, 0), (.ifCond .eq 7, 64, 0, 0, 0), (.iconst (-1), 0, 0, 0, (-1)), (.goto 5, 66, 0, 0, 0)]
  | 64 => [(.iload 4, 0, 0, 0, 0)]
  | 66 => [(.ireturn, 0, 0, 0, 0)]
  | _ => []
theorem kX2_singles (pc : Nat) : chk 25 (bX2_singles pc) pc = true := by
  unfold bX2_singles; split
  · decide +kernel
  · decide +kernel
  · decide +kernel
  · decide +kernel
  · decide +kernel
  · decide +kernel
  · decide +kernel
  · rfl
def bX2_pairs : Nat → List Ins := fun pc => match pc with
  | 0 => [(.iconst 0, 0, 0, 0, 0), (.istore 4, 0, 0, 0, 0), (.iconst 0, 0, 0, 0, 0), (.istore 5, 0, 0, 0, 0)]
  | 6 => [(.iload 5, 0, 0, 0, 0), (.bipush 14, 0, 0, 0, 14), (.if_icmp .ge 72, 82, 0, 0, 0), (.iload 5, 0, 0, 0, 0), (.iconst 1, 0, 0, 0, 1), (.iadd, 0, 0, 0, 0), (.istore 6, 0, 0, 0, 0)]
  | 19 => [(.iload 6, 0, 0, 0, 0), (.bipush 14, 0, 0, 0, 14), (.if_icmp .ge 53, 76, 0, 0, 0), (.iconst 1, 0, 0, 0, 1), (.iload 5, 0, 0, 0, 0), (.ishl, 0, 0, 0, 0), (.iconst 1, 0, 0, 0, 1), (.iload 6, 0, 0, 0, 0), (.ishl, 0, 0, 0, 0), (.ior, 0, 0, 0, 0), (.istore 7, 0, 0, 0, 0), (.iload 7, 0, 0, 0, 0), (.iload_n 1, 0, 0, 0, 0), (.iand, 0, 0, 0, 0), (.iload 7, 0, 0, 0, 0), (.if_icmp .ne 27, 70, 0, 0, 0), (.aload_n 0, 0, 0, 0, 0), (.iload_n 1, 0, 0, 0, 0), (.iload 7, 0, 0, 0, 0), (.iconst (-1), 0, 0, 0, (-1)), (.ixor, 0, 0, 0, 0), (.iand, 0, 0, 0, 0), (.invokevirtual 89, 22, 1, 2, 0), (.iload_n 2, 0, 0, 0, 0), (.if_icmp .ne 13, 70, 0, 0, 0), (.iload_n 3, 0, 0, 0, 0), (.ifCond .eq 6, 67, 0, 0, 0), (.iload 7, 0, 0, 0, 0), (.ireturn, 0, 0, 0, 0)]
  | 67 => [(.iinc 4 1, 0, 0, 0, 1)]
  | 70 => [(.iinc 6 1, 0, 0, 0, 1), (.goto (-54), 19, 0, 0, 0)]
  | 76 => [(.iinc 5 1, 0, 0, 0, 1), (.goto (-73), 6, 0, 0, 0)]
  | 82 => [(.iload_n 3, 0, 0, 0, 0), (.ifCond .eq 7, 90, 0, 0, 0), (.iconst (-1), 0, 0, 0, (-1)), (.goto 5, 92, 0, 0, 0)]
  | 90 => [(.iload 4, 0, 0, 0, 0)]
  | 92 => [(.ireturn, 0, 0, 0, 0)]
  | _ => []
theorem kX2_pairs (pc : Nat) : chk 26 (bX2_pairs pc) pc = true := by
  unfold bX2_pairs; split
  · decide +kernel
  · decide +kernel
  · decide +kernel
  · decide +kernel
  · decide +kernel
  · decide +kernel
  · decide +kernel
  · decide +kernel
  · decide +kernel
  · rfl
def bX3_stepAt : Nat → List Ins := fun pc => match pc with
  | 0 => [(.iload_n 1, 0, 0, 0, 0), (.ifCond .lt 21, 22, 0, 0, 0), (.iload_n 1, 0, 0, 0, 0), (.aload_n 0, 0, 0, 0, 0), (.getfield 15, 3, 0, 0, 0), (.arraylength, 1, 0, 0, 0), (.if_icmp .ge 12, 22, 0, 0, 0), (.aload_n 0, 0, 0, 0, 0), (.getfield 15, 3, 0, 0, 0), (.iload_n 1, 0, 0, 0, 0), (.iaload, 1, 0, 0, 0), (.goto 4, 23, 0, 0, 0)]
  | 22 => [(.iconst 0, 0, 0, 0, 0)]
  | 23 => [(.ireturn, 0, 0, 0, 0)]
  | _ => []
theorem kX3_stepAt (pc : Nat) : chk 28 (bX3_stepAt pc) pc = true := by
  unfold bX3_stepAt; split
  · decide +kernel
  · decide +kernel
  · decide +kernel
  · rfl
def bX3_startOf : Nat → List Ins := fun pc => match pc with
  | 0 => [(.iload_n 1, 0, 0, 0, 0), (.ifCond .lt 21, 22, 0, 0, 0), (.iload_n 1, 0, 0, 0, 0), (.aload_n 0, 0, 0, 0, 0), (.getfield 19, 3, 1, 0, 0), (.arraylength, 1, 0, 0, 0), (.if_icmp .ge 12, 22, 0, 0, 0), (.aload_n 0, 0, 0, 0, 0), (.getfield 19, 3, 1, 0, 0), (.iload_n 1, 0, 0, 0, 0), (.iaload, 1, 0, 0, 0), (.goto 8, 27, 0, 0, 0)]
  | 22 => [(.aload_n 0, 0, 0, 0, 0), (.getfield 15, 3, 0, 0, 0), (.arraylength, 1, 0, 0, 0)]
  | 27 => [(.ireturn, 0, 0, 0, 0)]
  | _ => []
theorem kX3_startOf (pc : Nat) : chk 29 (bX3_startOf pc) pc = true := by
  unfold bX3_startOf; split
  · decide +kernel
  · decide +kernel
  · decide +kernel
  · rfl
def bX3_isEmptyPart : Nat → List Ins := fun pc => match pc with
  | 0 => [(.aload_n 0, 0, 0, 0, 0), (.iload_n 1, 0, 0, 0, 0), (.invokevirtual 26, 29, 1, 3, 0), (.aload_n 0, 0, 0, 0, 0), (.iload_n 1, 0, 0, 0, 0), (.iconst 1, 0, 0, 0, 1), (.iadd, 0, 0, 0, 0), (.invokevirtual 26, 29, 1, 3, 0), (.if_icmp .lt 7, 19, 0, 0, 0), (.iconst 1, 0, 0, 0, 1), (.goto 4, 20, 0, 0, 0)]
  | 19 => [(.iconst 0, 0, 0, 0, 0)]
  | 20 => [(.ireturn, 1, 0, 0, 0)]
  | _ => []
theorem kX3_isEmptyPart (pc : Nat) : chk 30 (bX3_isEmptyPart pc) pc = true := by
  unfold bX3_isEmptyPart; split
  · decide +kernel
  · decide +kernel
  · decide +kernel
  · rfl
def bX4_clear : Nat → List Ins := fun pc => match pc with
  | 0 => [(.aload_n 0, 0, 0, 0, 0), (.iconst (-1), 0, 0, 0, (-1)), (.putfield 9, 4, 0, 0, 0), (.aload_n 0, 0, 0, 0, 0), (.iconst (-1), 0, 0, 0, (-1)), (.putfield 15, 4, 1, 0, 0), (.aload_n 0, 0, 0, 0, 0), (.iconst (-1), 0, 0, 0, (-1)), (.putfield 18, 4, 2, 0, 0), (.aload_n 0, 0, 0, 0, 0), (.iconst 0, 0, 0, 0, 0), (.putfield 21, 4, 3, 0, 0), (.return_, 0, 0, 0, 0)]
  | _ => []
theorem kX4_clear (pc : Nat) : chk 32 (bX4_clear pc) pc = true := by
  unfold bX4_clear; split
  · decide +kernel
  · rfl
def bX4_offer : Nat → List Ins := fun pc => match pc with
  | 0 => [(.aload_n 0, 0, 0, 0, 0), (.dup, 0, 0, 0, 0), (.getfield 21, 4, 3, 0, 0), (.iconst 1, 0, 0, 0, 1), (.iadd, 0, 0, 0, 0), (.putfield 21, 4, 3, 0, 0), (.iload_n 1, 0, 0, 0, 0), (.invokestatic 24, 236, 1, 0, 0), (.istore_n 3, 0, 0, 0, 0), (.iload_n 3, 0, 0, 0, 0), (.aload_n 0, 0, 0, 0, 0), (.getfield 9, 4, 0, 0, 0), (.if_icmp .ge 4, 24, 0, 0, 0), (.return_, 0, 0, 0, 0)]
  | 24 => [(.aload_n 2, 0, 0, 0, 0), (.iload_n 1, 0, 0, 0, 0), (.invokevirtual 30, 100, 1, 10, 0), (.istore 4, 0, 0, 0, 0), (.iload_n 3, 0, 0, 0, 0), (.aload_n 0, 0, 0, 0, 0), (.getfield 9, 4, 0, 0, 0), (.if_icmp .gt 29, 65, 0, 0, 0), (.iload 4, 0, 0, 0, 0), (.aload_n 0, 0, 0, 0, 0), (.getfield 15, 4, 1, 0, 0), (.if_icmp .gt 20, 65, 0, 0, 0), (.iload 4, 0, 0, 0, 0), (.aload_n 0, 0, 0, 0, 0), (.getfield 15, 4, 1, 0, 0), (.if_icmp .ne 27, 81, 0, 0, 0), (.iload_n 1, 0, 0, 0, 0), (.aload_n 0, 0, 0, 0, 0), (.getfield 18, 4, 2, 0, 0), (.if_icmp .ge 19, 81, 0, 0, 0)]
  | 65 => [(.aload_n 0, 0, 0, 0, 0), (.iload_n 3, 0, 0, 0, 0), (.putfield 9, 4, 0, 0, 0), (.aload_n 0, 0, 0, 0, 0), (.iload 4, 0, 0, 0, 0), (.putfield 15, 4, 1, 0, 0), (.aload_n 0, 0, 0, 0, 0), (.iload_n 1, 0, 0, 0, 0), (.putfield 18, 4, 2, 0, 0)]
  | 81 => [(.return_, 0, 0, 0, 0)]
  | _ => []
theorem kX4_offer (pc : Nat) : chk 33 (bX4_offer pc) pc = true := by
  unfold bX4_offer; split
  · decide +kernel
  · decide +kernel
  · decide +kernel
  · decide +kernel
  · rfl
def bX4_told : Nat → List Ins := fun pc => match pc with
  | 0 => [(.iload_n 1, 0, 0, 0, 0), (.ifCond .ne 10, 11, 0, 0, 0), (.aload_n 0, 0, 0, 0, 0), (.getfield 9, 4, 0, 0, 0), (.goto 40, 48, 0, 0, 0)]
  | 11 => [(.iload_n 1, 0, 0, 0, 0), (.iconst 1, 0, 0, 0, 1), (.if_icmp .ne 10, 23, 0, 0, 0), (.aload_n 0, 0, 0, 0, 0), (.getfield 15, 4, 1, 0, 0), (.goto 28, 48, 0, 0, 0)]
  | 23 => [(.iload_n 1, 0, 0, 0, 0), (.iconst 2, 0, 0, 0, 2), (.if_icmp .ne 10, 35, 0, 0, 0), (.aload_n 0, 0, 0, 0, 0), (.getfield 18, 4, 2, 0, 0), (.goto 16, 48, 0, 0, 0)]
  | 35 => [(.iload_n 1, 0, 0, 0, 0), (.iconst 3, 0, 0, 0, 3), (.if_icmp .ne 10, 47, 0, 0, 0), (.aload_n 0, 0, 0, 0, 0), (.getfield 21, 4, 3, 0, 0), (.goto 4, 48, 0, 0, 0)]
  | 47 => [(.iconst (-1), 0, 0, 0, (-1))]
  | 48 => [(.ireturn, 0, 0, 0, 0)]
  | _ => []
theorem kX4_told (pc : Nat) : chk 34 (bX4_told pc) pc = true := by
  unfold bX4_told; split
  · decide +kernel
  · decide +kernel
  · decide +kernel
  · decide +kernel
  · decide +kernel
  · decide +kernel
  · rfl
end
section
/-! the code of the methods, as lists (wip/gen/code.py) -/
def bX5_read : Nat → List Ins := fun pc => match pc with
  | 0 => [(.aload_n 0, 0, 0, 0, 0), (.iload_n 1, 0, 0, 0, 0), (.putfield 26, 5, 3, 0, 0), (.aload_n 0, 0, 0, 0, 0), (.iconst 0, 0, 0, 0, 0), (.putfield 29, 5, 5, 0, 0), (.aload_n 0, 0, 0, 0, 0), (.iconst 0, 0, 0, 0, 0), (.putfield 32, 5, 6, 0, 0), (.aload_n 0, 0, 0, 0, 0), (.iconst 0, 0, 0, 0, 0), (.putfield 35, 5, 7, 0, 0), (.aload_n 0, 0, 0, 0, 0), (.iconst 0, 0, 0, 0, 0), (.putfield 38, 5, 8, 0, 0), (.aload_n 0, 0, 0, 0, 0), (.invokevirtual 41, 48, 0, 5, 0), (.aload_n 0, 0, 0, 0, 0), (.invokevirtual 44, 37, 0, 5, 0), (.istore_n 2, 0, 0, 0, 0), (.iconst 1, 0, 0, 0, 1), (.istore_n 3, 0, 0, 0, 0), (.iconst 0, 0, 0, 0, 0), (.istore 4, 0, 0, 0, 0)]
  | 39 => [(.iload 4, 0, 0, 0, 0), (.bipush 12, 0, 0, 0, 12), (.if_icmp .ge 48, 91, 0, 0, 0), (.iload_n 2, 0, 0, 0, 0), (.ifCond .eq 44, 91, 0, 0, 0), (.aload_n 0, 0, 0, 0, 0), (.ldc 48, 25, 1, 0, 0), (.invokevirtual 50, 50, 1, 5, 0), (.ifCond .eq 35, 91, 0, 0, 0), (.aload_n 0, 0, 0, 0, 0), (.invokevirtual 41, 48, 0, 5, 0), (.iload_n 3, 0, 0, 0, 0), (.bipush 12, 0, 0, 0, 12), (.if_icmp .ge 14, 80, 0, 0, 0), (.aload_n 0, 0, 0, 0, 0), (.invokevirtual 44, 37, 0, 5, 0), (.ifCond .eq 7, 80, 0, 0, 0), (.iconst 1, 0, 0, 0, 1), (.goto 4, 81, 0, 0, 0)]
  | 80 => [(.iconst 0, 0, 0, 0, 0)]
  | 81 => [(.istore_n 2, 0, 0, 0, 0), (.iinc 3 1, 0, 0, 0, 1), (.iinc 4 1, 0, 0, 0, 1), (.goto (-49), 39, 0, 0, 0)]
  | 91 => [(.iload_n 2, 0, 0, 0, 0), (.ifCond .eq 14, 106, 0, 0, 0), (.aload_n 0, 0, 0, 0, 0), (.getfield 54, 5, 4, 0, 0), (.aload_n 0, 0, 0, 0, 0), (.getfield 26, 5, 3, 0, 0), (.if_icmp .ge 13, 116, 0, 0, 0)]
  | 106 => [(.aload_n 0, 0, 0, 0, 0), (.aload_n 0, 0, 0, 0, 0), (.getfield 54, 5, 4, 0, 0), (.putfield 18, 5, 9, 0, 0), (.aconst_null, 0, 0, 0, 0), (.areturn, 0, 0, 0, 0)]
  | 116 => [(.aload_n 0, 0, 0, 0, 0), (.iconst (-1), 0, 0, 0, (-1)), (.putfield 18, 5, 9, 0, 0)]
  | _ => []
theorem kX5_read (pc : Nat) : chk 36 (bX5_read pc) pc = true := by
  unfold bX5_read; split
  · decide +kernel
  · decide +kernel
  · decide +kernel
  · decide +kernel
  · decide +kernel
  · decide +kernel
  · decide +kernel
  · rfl
def bX5_readClause : Nat → List Ins := fun pc => match pc with
  | 0 => [(.aload_n 0, 0, 0, 0, 0), (.invokevirtual 62, 53, 0, 5, 0), (.aload_n 0, 0, 0, 0, 0), (.ldc 65, 0, 1, 0, 0), (.invokevirtual 50, 50, 1, 5, 0), (.istore_n 1, 0, 0, 0, 0), (.iload_n 1, 0, 0, 0, 0), (.ifCond .eq 10, 22, 0, 0, 0), (.aload_n 0, 0, 0, 0, 0), (.invokevirtual 41, 48, 0, 5, 0), (.goto 22, 41, 0, 0, 0)]
  | 22 => [(.aload_n 0, 0, 0, 0, 0), (.ldc 67, 1, 1, 0, 0), (.invokevirtual 50, 50, 1, 5, 0), (.ifCond .eq 13, 41, 0, 0, 0), (.aload_n 0, 0, 0, 0, 0), (.invokevirtual 41, 48, 0, 5, 0), (.aload_n 0, 0, 0, 0, 0), (.iconst 0, 0, 0, 0, 0), (.invokevirtual 69, 42, 1, 5, 0), (.istore_n 1, 0, 0, 0, 0)]
  | 41 => [(.aload_n 0, 0, 0, 0, 0), (.invokevirtual 62, 53, 0, 5, 0), (.iload_n 1, 0, 0, 0, 0), (.ifCond .eq 22, 68, 0, 0, 0), (.aload_n 0, 0, 0, 0, 0), (.ldc 73, 24, 1, 0, 0), (.invokevirtual 50, 50, 1, 5, 0), (.ifCond .eq 13, 68, 0, 0, 0), (.aload_n 0, 0, 0, 0, 0), (.invokevirtual 41, 48, 0, 5, 0), (.aload_n 0, 0, 0, 0, 0), (.iconst 0, 0, 0, 0, 0), (.invokevirtual 75, 38, 1, 5, 0), (.ireturn, 1, 0, 0, 0)]
  | 68 => [(.iload_n 1, 0, 0, 0, 0), (.ireturn, 1, 0, 0, 0)]
  | _ => []
theorem kX5_readClause (pc : Nat) : chk 37 (bX5_readClause pc) pc = true := by
  unfold bX5_readClause; split
  · decide +kernel
  · decide +kernel
  · decide +kernel
  · decide +kernel
  · rfl
def bX5_readTest : Nat → List Ins := fun pc => match pc with
  | 0 => [(.aload_n 0, 0, 0, 0, 0), (.iload_n 1, 0, 0, 0, 0), (.invokevirtual 78, 39, 1, 5, 0), (.istore_n 2, 0, 0, 0, 0), (.iconst 0, 0, 0, 0, 0), (.istore_n 3, 0, 0, 0, 0)]
  | 8 => [(.iload_n 3, 0, 0, 0, 0), (.sipush 400, 0, 0, 0, 400), (.if_icmp .ge 47, 59, 0, 0, 0), (.iload_n 2, 0, 0, 0, 0), (.ifCond .eq 43, 59, 0, 0, 0), (.aload_n 0, 0, 0, 0, 0), (.ldc 81, 11, 1, 0, 0), (.invokevirtual 50, 50, 1, 5, 0), (.ifCond .eq 34, 59, 0, 0, 0), (.aload_n 0, 0, 0, 0, 0), (.bipush 11, 0, 0, 0, 11), (.iconst 0, 0, 0, 0, 0), (.invokevirtual 83, 51, 2, 5, 0), (.istore 4, 0, 0, 0, 0), (.aload_n 0, 0, 0, 0, 0), (.invokevirtual 41, 48, 0, 5, 0), (.aload_n 0, 0, 0, 0, 0), (.iload_n 1, 0, 0, 0, 0), (.invokevirtual 78, 39, 1, 5, 0), (.istore_n 2, 0, 0, 0, 0), (.aload_n 0, 0, 0, 0, 0), (.iload 4, 0, 0, 0, 0), (.invokevirtual 87, 52, 1, 5, 0), (.iinc 3 1, 0, 0, 0, 1), (.goto (-48), 8, 0, 0, 0)]
  | 59 => [(.iload_n 2, 0, 0, 0, 0), (.ireturn, 1, 0, 0, 0)]
  | _ => []
theorem kX5_readTest (pc : Nat) : chk 38 (bX5_readTest pc) pc = true := by
  unfold bX5_readTest; split
  · decide +kernel
  · decide +kernel
  · decide +kernel
  · rfl
def bX5_readBoth : Nat → List Ins := fun pc => match pc with
  | 0 => [(.aload_n 0, 0, 0, 0, 0), (.iload_n 1, 0, 0, 0, 0), (.invokevirtual 91, 40, 1, 5, 0), (.istore_n 2, 0, 0, 0, 0), (.iconst 0, 0, 0, 0, 0), (.istore_n 3, 0, 0, 0, 0)]
  | 8 => [(.iload_n 3, 0, 0, 0, 0), (.sipush 400, 0, 0, 0, 400), (.if_icmp .ge 47, 59, 0, 0, 0), (.iload_n 2, 0, 0, 0, 0), (.ifCond .eq 43, 59, 0, 0, 0), (.aload_n 0, 0, 0, 0, 0), (.ldc 94, 10, 1, 0, 0), (.invokevirtual 50, 50, 1, 5, 0), (.ifCond .eq 34, 59, 0, 0, 0), (.aload_n 0, 0, 0, 0, 0), (.bipush 10, 0, 0, 0, 10), (.iconst 0, 0, 0, 0, 0), (.invokevirtual 83, 51, 2, 5, 0), (.istore 4, 0, 0, 0, 0), (.aload_n 0, 0, 0, 0, 0), (.invokevirtual 41, 48, 0, 5, 0), (.aload_n 0, 0, 0, 0, 0), (.iload_n 1, 0, 0, 0, 0), (.invokevirtual 91, 40, 1, 5, 0), (.istore_n 2, 0, 0, 0, 0), (.aload_n 0, 0, 0, 0, 0), (.iload 4, 0, 0, 0, 0), (.invokevirtual 87, 52, 1, 5, 0), (.iinc 3 1, 0, 0, 0, 1), (.goto (-48), 8, 0, 0, 0)]
  | 59 => [(.iload_n 2, 0, 0, 0, 0), (.ireturn, 1, 0, 0, 0)]
  | _ => []
theorem kX5_readBoth (pc : Nat) : chk 39 (bX5_readBoth pc) pc = true := by
  unfold bX5_readBoth; split
  · decide +kernel
  · decide +kernel
  · decide +kernel
  · rfl
def bX5_readPlain : Nat → List Ins := fun pc => match pc with
  | 0 => [(.iconst 0, 0, 0, 0, 0), (.istore_n 2, 0, 0, 0, 0), (.iconst 0, 0, 0, 0, 0), (.istore_n 3, 0, 0, 0, 0)]
  | 4 => [(.iload_n 3, 0, 0, 0, 0), (.sipush 400, 0, 0, 0, 400), (.if_icmp .ge 32, 40, 0, 0, 0), (.aload_n 0, 0, 0, 0, 0), (.ldc 96, 4, 1, 0, 0), (.invokevirtual 50, 50, 1, 5, 0), (.ifCond .eq 23, 40, 0, 0, 0), (.iload_n 2, 0, 0, 0, 0), (.ifCond .ne 7, 28, 0, 0, 0), (.iconst 1, 0, 0, 0, 1), (.goto 4, 29, 0, 0, 0)]
  | 28 => [(.iconst 0, 0, 0, 0, 0)]
  | 29 => [(.istore_n 2, 0, 0, 0, 0), (.aload_n 0, 0, 0, 0, 0), (.invokevirtual 41, 48, 0, 5, 0), (.iinc 3 1, 0, 0, 0, 1), (.goto (-33), 4, 0, 0, 0)]
  | 40 => [(.aload_n 0, 0, 0, 0, 0), (.ldc 98, 5, 1, 0, 0), (.invokevirtual 50, 50, 1, 5, 0), (.ifCond .eq 14, 60, 0, 0, 0), (.aload_n 0, 0, 0, 0, 0), (.iload_n 1, 0, 0, 0, 0), (.iconst 1, 0, 0, 0, 1), (.ldc 100, 6, 1, 0, 0), (.invokevirtual 102, 45, 3, 5, 0), (.goto 8, 65, 0, 0, 0)]
  | 60 => [(.aload_n 0, 0, 0, 0, 0), (.iload_n 1, 0, 0, 0, 0), (.invokevirtual 106, 41, 1, 5, 0)]
  | 65 => [(.istore_n 3, 0, 0, 0, 0), (.iload_n 2, 0, 0, 0, 0), (.ifCond .eq 11, 78, 0, 0, 0), (.aload_n 0, 0, 0, 0, 0), (.bipush 9, 0, 0, 0, 9), (.iconst 0, 0, 0, 0, 0), (.invokevirtual 83, 51, 2, 5, 0), (.pop, 0, 0, 0, 0)]
  | 78 => [(.iload_n 3, 0, 0, 0, 0), (.ireturn, 1, 0, 0, 0)]
  | _ => []
theorem kX5_readPlain (pc : Nat) : chk 40 (bX5_readPlain pc) pc = true := by
  unfold bX5_readPlain; split
  · decide +kernel
  · decide +kernel
  · decide +kernel
  · decide +kernel
  · decide +kernel
  · decide +kernel
  · decide +kernel
  · decide +kernel
  · rfl
def bX5_readCompared : Nat → List Ins := fun pc => match pc with
  | 0 => [(.aload_n 0, 0, 0, 0, 0), (.iload_n 1, 0, 0, 0, 0), (.invokevirtual 69, 42, 1, 5, 0), (.ifCond .ne 5, 10, 0, 0, 0), (.iconst 0, 0, 0, 0, 0), (.ireturn, 1, 0, 0, 0)]
  | 10 => [(.aload_n 0, 0, 0, 0, 0), (.ldc 109, 7, 1, 0, 0), (.invokevirtual 50, 50, 1, 5, 0), (.ifCond .eq 8, 24, 0, 0, 0), (.bipush 6, 0, 0, 0, 6), (.goto 32, 53, 0, 0, 0)]
  | 24 => [(.aload_n 0, 0, 0, 0, 0), (.ldc 111, 8, 1, 0, 0), (.invokevirtual 50, 50, 1, 5, 0), (.ifCond .eq 8, 38, 0, 0, 0), (.bipush 7, 0, 0, 0, 7), (.goto 18, 53, 0, 0, 0)]
  | 38 => [(.aload_n 0, 0, 0, 0, 0), (.ldc 113, 9, 1, 0, 0), (.invokevirtual 50, 50, 1, 5, 0), (.ifCond .eq 8, 52, 0, 0, 0), (.bipush 8, 0, 0, 0, 8), (.goto 4, 53, 0, 0, 0)]
  | 52 => [(.iconst (-1), 0, 0, 0, (-1))]
  | 53 => [(.istore_n 2, 0, 0, 0, 0), (.iload_n 2, 0, 0, 0, 0), (.iconst (-1), 0, 0, 0, (-1)), (.if_icmp .ne 5, 61, 0, 0, 0), (.iconst 0, 0, 0, 0, 0), (.ireturn, 1, 0, 0, 0)]
  | 61 => [(.aload_n 0, 0, 0, 0, 0), (.invokevirtual 41, 48, 0, 5, 0), (.aload_n 0, 0, 0, 0, 0), (.iload_n 1, 0, 0, 0, 0), (.invokevirtual 69, 42, 1, 5, 0), (.istore_n 3, 0, 0, 0, 0), (.aload_n 0, 0, 0, 0, 0), (.iload_n 2, 0, 0, 0, 0), (.iconst 0, 0, 0, 0, 0), (.invokevirtual 83, 51, 2, 5, 0), (.pop, 0, 0, 0, 0), (.iload_n 3, 0, 0, 0, 0), (.ireturn, 1, 0, 0, 0)]
  | _ => []
theorem kX5_readCompared (pc : Nat) : chk 41 (bX5_readCompared pc) pc = true := by
  unfold bX5_readCompared; split
  · decide +kernel
  · decide +kernel
  · decide +kernel
  · decide +kernel
  · decide +kernel
  · decide +kernel
  · decide +kernel
  · rfl
def bX5_readSum : Nat → List Ins := fun pc => match pc with
  | 0 => [(.aload_n 0, 0, 0, 0, 0), (.iload_n 1, 0, 0, 0, 0), (.invokevirtual 115, 43, 1, 5, 0), (.istore_n 2, 0, 0, 0, 0), (.iconst 0, 0, 0, 0, 0), (.istore_n 3, 0, 0, 0, 0)]
  | 8 => [(.iload_n 3, 0, 0, 0, 0), (.sipush 400, 0, 0, 0, 400), (.if_icmp .ge 65, 77, 0, 0, 0), (.iload_n 2, 0, 0, 0, 0), (.ifCond .eq 61, 77, 0, 0, 0), (.aload_n 0, 0, 0, 0, 0), (.ldc 118, 22, 1, 0, 0), (.invokevirtual 50, 50, 1, 5, 0), (.ifCond .ne 12, 37, 0, 0, 0), (.aload_n 0, 0, 0, 0, 0), (.ldc 120, 23, 1, 0, 0), (.invokevirtual 50, 50, 1, 5, 0), (.ifCond .eq 43, 77, 0, 0, 0)]
  | 37 => [(.aload_n 0, 0, 0, 0, 0), (.ldc 118, 22, 1, 0, 0), (.invokevirtual 50, 50, 1, 5, 0), (.ifCond .eq 7, 50, 0, 0, 0), (.iconst 2, 0, 0, 0, 2), (.goto 4, 51, 0, 0, 0)]
  | 50 => [(.iconst 3, 0, 0, 0, 3)]
  | 51 => [(.istore 4, 0, 0, 0, 0), (.aload_n 0, 0, 0, 0, 0), (.invokevirtual 41, 48, 0, 5, 0), (.aload_n 0, 0, 0, 0, 0), (.iload_n 1, 0, 0, 0, 0), (.invokevirtual 115, 43, 1, 5, 0), (.istore_n 2, 0, 0, 0, 0), (.aload_n 0, 0, 0, 0, 0), (.iload 4, 0, 0, 0, 0), (.iconst 0, 0, 0, 0, 0), (.invokevirtual 83, 51, 2, 5, 0), (.pop, 0, 0, 0, 0), (.iinc 3 1, 0, 0, 0, 1), (.goto (-66), 8, 0, 0, 0)]
  | 77 => [(.iload_n 2, 0, 0, 0, 0), (.ireturn, 1, 0, 0, 0)]
  | _ => []
theorem kX5_readSum (pc : Nat) : chk 42 (bX5_readSum pc) pc = true := by
  unfold bX5_readSum; split
  · decide +kernel
  · decide +kernel
  · decide +kernel
  · decide +kernel
  · decide +kernel
  · decide +kernel
  · rfl
def bX5_readTerm : Nat → List Ins := fun pc => match pc with
  | 0 => [(.aload_n 0, 0, 0, 0, 0), (.iload_n 1, 0, 0, 0, 0), (.invokevirtual 122, 44, 1, 5, 0), (.istore_n 2, 0, 0, 0, 0), (.iconst 0, 0, 0, 0, 0), (.istore_n 3, 0, 0, 0, 0)]
  | 8 => [(.iload_n 3, 0, 0, 0, 0), (.sipush 400, 0, 0, 0, 400), (.if_icmp .ge 65, 77, 0, 0, 0), (.iload_n 2, 0, 0, 0, 0), (.ifCond .eq 61, 77, 0, 0, 0), (.aload_n 0, 0, 0, 0, 0), (.ldc 125, 20, 1, 0, 0), (.invokevirtual 50, 50, 1, 5, 0), (.ifCond .ne 12, 37, 0, 0, 0), (.aload_n 0, 0, 0, 0, 0), (.ldc 127, 21, 1, 0, 0), (.invokevirtual 50, 50, 1, 5, 0), (.ifCond .eq 43, 77, 0, 0, 0)]
  | 37 => [(.aload_n 0, 0, 0, 0, 0), (.ldc 125, 20, 1, 0, 0), (.invokevirtual 50, 50, 1, 5, 0), (.ifCond .eq 7, 50, 0, 0, 0), (.iconst 4, 0, 0, 0, 4), (.goto 4, 51, 0, 0, 0)]
  | 50 => [(.iconst 5, 0, 0, 0, 5)]
  | 51 => [(.istore 4, 0, 0, 0, 0), (.aload_n 0, 0, 0, 0, 0), (.invokevirtual 41, 48, 0, 5, 0), (.aload_n 0, 0, 0, 0, 0), (.iload_n 1, 0, 0, 0, 0), (.invokevirtual 122, 44, 1, 5, 0), (.istore_n 2, 0, 0, 0, 0), (.aload_n 0, 0, 0, 0, 0), (.iload 4, 0, 0, 0, 0), (.iconst 0, 0, 0, 0, 0), (.invokevirtual 83, 51, 2, 5, 0), (.pop, 0, 0, 0, 0), (.iinc 3 1, 0, 0, 0, 1), (.goto (-66), 8, 0, 0, 0)]
  | 77 => [(.iload_n 2, 0, 0, 0, 0), (.ireturn, 1, 0, 0, 0)]
  | _ => []
theorem kX5_readTerm (pc : Nat) : chk 43 (bX5_readTerm pc) pc = true := by
  unfold bX5_readTerm; split
  · decide +kernel
  · decide +kernel
  · decide +kernel
  · decide +kernel
  · decide +kernel
  · decide +kernel
  · rfl
def bX5_readPart : Nat → List Ins := fun pc => match pc with
  | 0 => [(.aload_n 0, 0, 0, 0, 0), (.ldc 129, 2, 1, 0, 0), (.invokevirtual 50, 50, 1, 5, 0), (.ifCond .eq 12, 18, 0, 0, 0), (.aload_n 0, 0, 0, 0, 0), (.iload_n 1, 0, 0, 0, 0), (.iconst 0, 0, 0, 0, 0), (.ldc 131, 3, 1, 0, 0), (.invokevirtual 102, 45, 3, 5, 0), (.ireturn, 1, 0, 0, 0)]
  | 18 => [(.aload_n 0, 0, 0, 0, 0), (.invokevirtual 133, 46, 0, 5, 0), (.istore_n 2, 0, 0, 0, 0), (.aload_n 0, 0, 0, 0, 0), (.invokevirtual 137, 47, 0, 5, 0), (.istore_n 3, 0, 0, 0, 0), (.aload_n 0, 0, 0, 0, 0), (.getfield 38, 5, 8, 0, 0), (.bipush 50, 0, 0, 0, 50), (.if_icmp .ge 13, 47, 0, 0, 0), (.iload_n 2, 0, 0, 0, 0), (.iconst (-1), 0, 0, 0, (-1)), (.if_icmp .ne 10, 49, 0, 0, 0), (.iload_n 3, 0, 0, 0, 0), (.iconst (-1), 0, 0, 0, (-1)), (.if_icmp .ne 5, 49, 0, 0, 0)]
  | 47 => [(.iconst 0, 0, 0, 0, 0), (.ireturn, 1, 0, 0, 0)]
  | 49 => [(.aload_n 0, 0, 0, 0, 0), (.dup, 0, 0, 0, 0), (.getfield 38, 5, 8, 0, 0), (.iconst 1, 0, 0, 0, 1), (.iadd, 0, 0, 0, 0), (.putfield 38, 5, 8, 0, 0), (.iload_n 2, 0, 0, 0, 0), (.iconst (-1), 0, 0, 0, (-1)), (.if_icmp .ne 13, 74, 0, 0, 0), (.aload_n 0, 0, 0, 0, 0), (.iconst 0, 0, 0, 0, 0), (.iload_n 3, 0, 0, 0, 0), (.invokevirtual 83, 51, 2, 5, 0), (.pop, 0, 0, 0, 0), (.goto 10, 81, 0, 0, 0)]
  | 74 => [(.aload_n 0, 0, 0, 0, 0), (.iconst 1, 0, 0, 0, 1), (.iload_n 2, 0, 0, 0, 0), (.invokevirtual 83, 51, 2, 5, 0), (.pop, 0, 0, 0, 0)]
  | 81 => [(.aload_n 0, 0, 0, 0, 0), (.invokevirtual 41, 48, 0, 5, 0), (.iconst 1, 0, 0, 0, 1), (.ireturn, 1, 0, 0, 0)]
  | _ => []
theorem kX5_readPart (pc : Nat) : chk 44 (bX5_readPart pc) pc = true := by
  unfold bX5_readPart; split
  · decide +kernel
  · decide +kernel
  · decide +kernel
  · decide +kernel
  · decide +kernel
  · decide +kernel
  · rfl
def bX5_readBracketed : Nat → List Ins := fun pc => match pc with
  | 0 => [(.iload_n 1, 0, 0, 0, 0), (.bipush 8, 0, 0, 0, 8), (.if_icmp .lt 5, 8, 0, 0, 0), (.iconst 0, 0, 0, 0, 0), (.ireturn, 1, 0, 0, 0)]
  | 8 => [(.aload_n 0, 0, 0, 0, 0), (.invokevirtual 41, 48, 0, 5, 0), (.iload_n 2, 0, 0, 0, 0), (.ifCond .eq 13, 26, 0, 0, 0), (.aload_n 0, 0, 0, 0, 0), (.iload_n 1, 0, 0, 0, 0), (.iconst 1, 0, 0, 0, 1), (.iadd, 0, 0, 0, 0), (.invokevirtual 75, 38, 1, 5, 0), (.goto 10, 33, 0, 0, 0)]
  | 26 => [(.aload_n 0, 0, 0, 0, 0), (.iload_n 1, 0, 0, 0, 0), (.iconst 1, 0, 0, 0, 1), (.iadd, 0, 0, 0, 0), (.invokevirtual 69, 42, 1, 5, 0)]
  | 33 => [(.istore 4, 0, 0, 0, 0), (.iload 4, 0, 0, 0, 0), (.ifCond .eq 11, 48, 0, 0, 0), (.aload_n 0, 0, 0, 0, 0), (.aload_n 3, 0, 0, 0, 0), (.invokevirtual 50, 50, 1, 5, 0), (.ifCond .ne 5, 50, 0, 0, 0)]
  | 48 => [(.iconst 0, 0, 0, 0, 0), (.ireturn, 1, 0, 0, 0)]
  | 50 => [(.aload_n 0, 0, 0, 0, 0), (.invokevirtual 41, 48, 0, 5, 0), (.iconst 1, 0, 0, 0, 1), (.ireturn, 1, 0, 0, 0)]
  | _ => []
theorem kX5_readBracketed (pc : Nat) : chk 45 (bX5_readBracketed pc) pc = true := by
  unfold bX5_readBracketed; split
  · decide +kernel
  · decide +kernel
  · decide +kernel
  · decide +kernel
  · decide +kernel
  · decide +kernel
  · rfl
def bX5_namedFact : Nat → List Ins := fun pc => match pc with
  | 0 => [(.aload_n 0, 0, 0, 0, 0), (.ldc 140, 12, 1, 0, 0), (.invokevirtual 50, 50, 1, 5, 0), (.ifCond .eq 6, 12, 0, 0, 0), (.bipush 7, 0, 0, 0, 7), (.ireturn, 0, 0, 0, 0)]
  | 12 => [(.aload_n 0, 0, 0, 0, 0), (.ldc 142, 13, 1, 0, 0), (.invokevirtual 50, 50, 1, 5, 0), (.ifCond .eq 5, 23, 0, 0, 0), (.iconst 0, 0, 0, 0, 0), (.ireturn, 0, 0, 0, 0)]
  | 23 => [(.aload_n 0, 0, 0, 0, 0), (.ldc 144, 14, 1, 0, 0), (.invokevirtual 50, 50, 1, 5, 0), (.ifCond .eq 5, 34, 0, 0, 0), (.iconst 1, 0, 0, 0, 1), (.ireturn, 0, 0, 0, 0)]
  | 34 => [(.aload_n 0, 0, 0, 0, 0), (.ldc 146, 15, 1, 0, 0), (.invokevirtual 50, 50, 1, 5, 0), (.ifCond .eq 5, 45, 0, 0, 0), (.iconst 2, 0, 0, 0, 2), (.ireturn, 0, 0, 0, 0)]
  | 45 => [(.aload_n 0, 0, 0, 0, 0), (.ldc 148, 16, 1, 0, 0), (.invokevirtual 50, 50, 1, 5, 0), (.ifCond .eq 5, 56, 0, 0, 0), (.iconst 3, 0, 0, 0, 3), (.ireturn, 0, 0, 0, 0)]
  | 56 => [(.aload_n 0, 0, 0, 0, 0), (.ldc 150, 17, 1, 0, 0), (.invokevirtual 50, 50, 1, 5, 0), (.ifCond .eq 5, 67, 0, 0, 0), (.iconst 4, 0, 0, 0, 4), (.ireturn, 0, 0, 0, 0)]
  | 67 => [(.aload_n 0, 0, 0, 0, 0), (.ldc 152, 18, 1, 0, 0), (.invokevirtual 50, 50, 1, 5, 0), (.ifCond .eq 5, 78, 0, 0, 0), (.iconst 5, 0, 0, 0, 5), (.ireturn, 0, 0, 0, 0)]
  | 78 => [(.aload_n 0, 0, 0, 0, 0), (.ldc 154, 19, 1, 0, 0), (.invokevirtual 50, 50, 1, 5, 0), (.ifCond .eq 8, 92, 0, 0, 0), (.bipush 6, 0, 0, 0, 6), (.goto 4, 93, 0, 0, 0)]
  | 92 => [(.iconst (-1), 0, 0, 0, (-1))]
  | 93 => [(.ireturn, 0, 0, 0, 0)]
  | _ => []
theorem kX5_namedFact (pc : Nat) : chk 46 (bX5_namedFact pc) pc = true := by
  unfold bX5_namedFact; split
  · decide +kernel
  · decide +kernel
  · decide +kernel
  · decide +kernel
  · decide +kernel
  · decide +kernel
  · decide +kernel
  · decide +kernel
  · decide +kernel
  · decide +kernel
  · rfl
def bX5_numberTold : Nat → List Ins := fun pc => match pc with
  | 0 => [(.aload_n 0, 0, 0, 0, 0), (.getfield 54, 5, 4, 0, 0), (.aload_n 0, 0, 0, 0, 0), (.getfield 26, 5, 3, 0, 0), (.if_icmp .ge 21, 29, 0, 0, 0), (.aload_n 0, 0, 0, 0, 0), (.getfield 22, 5, 2, 0, 0), (.aload_n 0, 0, 0, 0, 0), (.getfield 54, 5, 4, 0, 0), (.invokevirtual 156, 68, 1, 8, 0), (.invokestatic 162, 49, 1, 0, 0), (.iconst 1, 0, 0, 0, 1), (.if_icmp .eq 5, 31, 0, 0, 0)]
  | 29 => [(.iconst (-1), 0, 0, 0, (-1)), (.ireturn, 0, 0, 0, 0)]
  | 31 => [(.iconst 0, 0, 0, 0, 0), (.istore_n 1, 0, 0, 0, 0), (.aload_n 0, 0, 0, 0, 0), (.getfield 54, 5, 4, 0, 0), (.istore_n 2, 0, 0, 0, 0)]
  | 38 => [(.iload_n 2, 0, 0, 0, 0), (.aload_n 0, 0, 0, 0, 0), (.getfield 29, 5, 5, 0, 0), (.if_icmp .ge 33, 76, 0, 0, 0), (.iload_n 1, 0, 0, 0, 0), (.sipush 1000, 0, 0, 0, 1000), (.if_icmp .gt 26, 76, 0, 0, 0), (.iload_n 1, 0, 0, 0, 0), (.bipush 10, 0, 0, 0, 10), (.imul, 0, 0, 0, 0), (.aload_n 0, 0, 0, 0, 0), (.getfield 22, 5, 2, 0, 0), (.iload_n 2, 0, 0, 0, 0), (.invokevirtual 156, 68, 1, 8, 0), (.iadd, 0, 0, 0, 0), (.bipush 48, 0, 0, 0, 48), (.isub, 0, 0, 0, 0), (.istore_n 1, 0, 0, 0, 0), (.iinc 2 1, 0, 0, 0, 1), (.goto (-35), 38, 0, 0, 0)]
  | 76 => [(.iload_n 1, 0, 0, 0, 0), (.sipush 1000, 0, 0, 0, 1000), (.if_icmp .gt 7, 87, 0, 0, 0), (.iload_n 1, 0, 0, 0, 0), (.goto 4, 88, 0, 0, 0)]
  | 87 => [(.iconst (-1), 0, 0, 0, (-1))]
  | 88 => [(.ireturn, 0, 0, 0, 0)]
  | _ => []
theorem kX5_numberTold (pc : Nat) : chk 47 (bX5_numberTold pc) pc = true := by
  unfold bX5_numberTold; split
  · decide +kernel
  · decide +kernel
  · decide +kernel
  · decide +kernel
  · decide +kernel
  · decide +kernel
  · decide +kernel
  · rfl
def bX5_advance : Nat → List Ins := fun pc => match pc with
  | 0 => [(.aload_n 0, 0, 0, 0, 0), (.aload_n 0, 0, 0, 0, 0), (.getfield 29, 5, 5, 0, 0), (.putfield 54, 5, 4, 0, 0)]
  | 8 => [(.aload_n 0, 0, 0, 0, 0), (.getfield 54, 5, 4, 0, 0), (.aload_n 0, 0, 0, 0, 0), (.getfield 26, 5, 3, 0, 0), (.if_icmp .ge 32, 48, 0, 0, 0), (.aload_n 0, 0, 0, 0, 0), (.getfield 22, 5, 2, 0, 0), (.aload_n 0, 0, 0, 0, 0), (.getfield 54, 5, 4, 0, 0), (.invokevirtual 156, 68, 1, 8, 0), (.bipush 32, 0, 0, 0, 32), (.if_icmp .ne 16, 48, 0, 0, 0), (.aload_n 0, 0, 0, 0, 0), (.dup, 0, 0, 0, 0), (.getfield 54, 5, 4, 0, 0), (.iconst 1, 0, 0, 0, 1), (.iadd, 0, 0, 0, 0), (.putfield 54, 5, 4, 0, 0), (.goto (-37), 8, 0, 0, 0)]
  | 48 => [(.aload_n 0, 0, 0, 0, 0), (.aload_n 0, 0, 0, 0, 0), (.getfield 54, 5, 4, 0, 0), (.iconst 1, 0, 0, 0, 1), (.iadd, 0, 0, 0, 0), (.aload_n 0, 0, 0, 0, 0), (.getfield 26, 5, 3, 0, 0), (.invokestatic 165, 239, 2, 1, 0), (.putfield 29, 5, 5, 0, 0), (.aload_n 0, 0, 0, 0, 0), (.getfield 22, 5, 2, 0, 0), (.aload_n 0, 0, 0, 0, 0), (.getfield 54, 5, 4, 0, 0), (.invokevirtual 156, 68, 1, 8, 0), (.invokestatic 162, 49, 1, 0, 0), (.istore_n 1, 0, 0, 0, 0)]
  | 80 => [(.aload_n 0, 0, 0, 0, 0), (.getfield 29, 5, 5, 0, 0), (.aload_n 0, 0, 0, 0, 0), (.getfield 26, 5, 3, 0, 0), (.if_icmp .ge 39, 127, 0, 0, 0), (.iload_n 1, 0, 0, 0, 0), (.iconst 2, 0, 0, 0, 2), (.if_icmp .eq 34, 127, 0, 0, 0), (.aload_n 0, 0, 0, 0, 0), (.getfield 22, 5, 2, 0, 0), (.aload_n 0, 0, 0, 0, 0), (.getfield 29, 5, 5, 0, 0), (.invokevirtual 156, 68, 1, 8, 0), (.invokestatic 162, 49, 1, 0, 0), (.iload_n 1, 0, 0, 0, 0), (.if_icmp .ne 16, 127, 0, 0, 0), (.aload_n 0, 0, 0, 0, 0), (.dup, 0, 0, 0, 0), (.getfield 29, 5, 5, 0, 0), (.iconst 1, 0, 0, 0, 1), (.iadd, 0, 0, 0, 0), (.putfield 29, 5, 5, 0, 0), (.goto (-44), 80, 0, 0, 0)]
  | 127 => [(.return_, 0, 0, 0, 0)]
  | _ => []
theorem kX5_advance (pc : Nat) : chk 48 (bX5_advance pc) pc = true := by
  unfold bX5_advance; split
  · decide +kernel
  · decide +kernel
  · decide +kernel
  · decide +kernel
  · decide +kernel
  · rfl
def bX5_sortOf : Nat → List Ins := fun pc => match pc with
  | 0 => [(.iload_n 0, 0, 0, 0, 0), (.bipush 97, 0, 0, 0, 97), (.if_icmp .lt 11, 14, 0, 0, 0), (.iload_n 0, 0, 0, 0, 0), (.bipush 122, 0, 0, 0, 122), (.if_icmp .gt 5, 14, 0, 0, 0), (.iconst 0, 0, 0, 0, 0), (.ireturn, 0, 0, 0, 0)]
  | 14 => [(.iload_n 0, 0, 0, 0, 0), (.bipush 48, 0, 0, 0, 48), (.if_icmp .lt 13, 30, 0, 0, 0), (.iload_n 0, 0, 0, 0, 0), (.bipush 57, 0, 0, 0, 57), (.if_icmp .gt 7, 30, 0, 0, 0), (.iconst 1, 0, 0, 0, 1), (.goto 4, 31, 0, 0, 0)]
  | 30 => [(.iconst 2, 0, 0, 0, 2)]
  | 31 => [(.ireturn, 0, 0, 0, 0)]
  | _ => []
theorem kX5_sortOf (pc : Nat) : chk 49 (bX5_sortOf pc) pc = true := by
  unfold bX5_sortOf; split
  · decide +kernel
  · decide +kernel
  · decide +kernel
  · decide +kernel
  · rfl
def bX5_is : Nat → List Ins := fun pc => match pc with
  | 0 => [(.aload_n 0, 0, 0, 0, 0), (.getfield 29, 5, 5, 0, 0), (.aload_n 0, 0, 0, 0, 0), (.getfield 54, 5, 4, 0, 0), (.isub, 0, 0, 0, 0), (.aload_n 1, 0, 0, 0, 0)]
  | 18 => [(.iconst 0, 0, 0, 0, 0), (.istore_n 2, 0, 0, 0, 0)]
  | 20 => [(.iload_n 2, 0, 0, 0, 0), (.aload_n 1, 0, 0, 0, 0)]
  | 51 => [(.iinc 2 1, 0, 0, 0, 1), (.goto (-34), 20, 0, 0, 0)]
  | 57 => [(.iconst 1, 0, 0, 0, 1), (.ireturn, 1, 0, 0, 0)]
  | _ => []
theorem kX5_is (pc : Nat) : chk 50 (bX5_is pc) pc = true := by
  unfold bX5_is; split
  · decide +kernel
  · decide +kernel
  · decide +kernel
  · decide +kernel
  · decide +kernel
  · rfl
def bX5_addStep : Nat → List Ins := fun pc => match pc with
  | 0 => [(.aload_n 0, 0, 0, 0, 0), (.getfield 32, 5, 6, 0, 0), (.iconst 0, 0, 0, 0, 0), (.sipush 399, 0, 0, 0, 399), (.invokestatic 178, 142, 3, 0, 0), (.ifCond .ne 5, 16, 0, 0, 0), (.iconst (-1), 0, 0, 0, (-1)), (.ireturn, 0, 0, 0, 0)]
  | 16 => [(.aload_n 0, 0, 0, 0, 0), (.getfield 9, 5, 0, 0, 0), (.aload_n 0, 0, 0, 0, 0), (.getfield 32, 5, 6, 0, 0), (.iload_n 1, 0, 0, 0, 0), (.bipush 10, 0, 0, 0, 10), (.ishl, 0, 0, 0, 0), (.iload_n 2, 0, 0, 0, 0), (.sipush 1023, 0, 0, 0, 1023), (.iand, 0, 0, 0, 0), (.ior, 0, 0, 0, 0), (.iastore, 0, 0, 0, 0), (.aload_n 0, 0, 0, 0, 0), (.dup, 0, 0, 0, 0), (.getfield 32, 5, 6, 0, 0), (.iconst 1, 0, 0, 0, 1), (.iadd, 0, 0, 0, 0), (.putfield 32, 5, 6, 0, 0), (.aload_n 0, 0, 0, 0, 0), (.getfield 32, 5, 6, 0, 0), (.iconst 1, 0, 0, 0, 1), (.isub, 0, 0, 0, 0), (.ireturn, 0, 0, 0, 0)]
  | _ => []
theorem kX5_addStep (pc : Nat) : chk 51 (bX5_addStep pc) pc = true := by
  unfold bX5_addStep; split
  · decide +kernel
  · decide +kernel
  · rfl
def bX5_aimHere : Nat → List Ins := fun pc => match pc with
  | 0 => [(.iload_n 1, 0, 0, 0, 0), (.iconst 0, 0, 0, 0, 0), (.sipush 399, 0, 0, 0, 399), (.invokestatic 178, 142, 3, 0, 0), (.ifCond .eq 20, 28, 0, 0, 0), (.aload_n 0, 0, 0, 0, 0), (.getfield 9, 5, 0, 0, 0), (.iload_n 1, 0, 0, 0, 0), (.dup2, 0, 0, 0, 0), (.iaload, 0, 0, 0, 0), (.aload_n 0, 0, 0, 0, 0), (.getfield 32, 5, 6, 0, 0), (.sipush 1023, 0, 0, 0, 1023), (.iand, 0, 0, 0, 0), (.ior, 0, 0, 0, 0), (.iastore, 0, 0, 0, 0)]
  | 28 => [(.return_, 0, 0, 0, 0)]
  | _ => []
theorem kX5_aimHere (pc : Nat) : chk 52 (bX5_aimHere pc) pc = true := by
  unfold bX5_aimHere; split
  · decide +kernel
  · decide +kernel
  · rfl
def bX5_mark : Nat → List Ins := fun pc => match pc with
  | 0 => [(.aload_n 0, 0, 0, 0, 0), (.getfield 35, 5, 7, 0, 0), (.iconst 0, 0, 0, 0, 0), (.aload_n 0, 0, 0, 0, 0), (.getfield 15, 5, 1, 0, 0), (.arraylength, 0, 0, 0, 0), (.iconst 1, 0, 0, 0, 1), (.isub, 0, 0, 0, 0), (.invokestatic 178, 142, 3, 0, 0), (.ifCond .eq 26, 41, 0, 0, 0), (.aload_n 0, 0, 0, 0, 0), (.getfield 15, 5, 1, 0, 0), (.aload_n 0, 0, 0, 0, 0), (.getfield 35, 5, 7, 0, 0), (.aload_n 0, 0, 0, 0, 0), (.getfield 32, 5, 6, 0, 0), (.iastore, 0, 0, 0, 0), (.aload_n 0, 0, 0, 0, 0), (.dup, 0, 0, 0, 0), (.getfield 35, 5, 7, 0, 0), (.iconst 1, 0, 0, 0, 1), (.iadd, 0, 0, 0, 0), (.putfield 35, 5, 7, 0, 0)]
  | 41 => [(.return_, 0, 0, 0, 0)]
  | _ => []
theorem kX5_mark (pc : Nat) : chk 53 (bX5_mark pc) pc = true := by
  unfold bX5_mark; split
  · decide +kernel
  · decide +kernel
  · rfl
def bX6_pass : Nat → List Ins := fun pc => match pc with
  | 0 => [(.aload_n 0, 0, 0, 0, 0), (.iload_n 3, 0, 0, 0, 0), (.putfield 15, 6, 2, 0, 0), (.aload_n 0, 0, 0, 0, 0), (.bipush 40, 0, 0, 0, 40), (.iload 4, 0, 0, 0, 0), (.invokestatic 19, 239, 2, 1, 0), (.putfield 25, 6, 1, 0, 0), (.aload_n 1, 0, 0, 0, 0), (.getfield 28, 10, 5, 0, 0), (.istore 5, 0, 0, 0, 0), (.iconst 0, 0, 0, 0, 0), (.istore 6, 0, 0, 0, 0)]
  | 25 => [(.iload 6, 0, 0, 0, 0), (.aload_n 0, 0, 0, 0, 0), (.getfield 25, 6, 1, 0, 0), (.if_icmp .ge 56, 87, 0, 0, 0), (.aload_n 2, 0, 0, 0, 0), (.iload 5, 0, 0, 0, 0), (.aload_n 0, 0, 0, 0, 0), (.aload_n 1, 0, 0, 0, 0), (.iload 5, 0, 0, 0, 0), (.invokevirtual 33, 57, 2, 6, 0), (.iconst (-1), 0, 0, 0, (-1)), (.ixor, 0, 0, 0, 0), (.iand, 0, 0, 0, 0), (.invokevirtual 37, 22, 1, 2, 0), (.istore 5, 0, 0, 0, 0), (.iload 5, 0, 0, 0, 0), (.aload_n 2, 0, 0, 0, 0), (.iload 5, 0, 0, 0, 0), (.aload_n 1, 0, 0, 0, 0), (.invokevirtual 43, 97, 0, 10, 0), (.iload 5, 0, 0, 0, 0), (.iconst (-1), 0, 0, 0, (-1)), (.ixor, 0, 0, 0, 0), (.iand, 0, 0, 0, 0), (.invokestatic 47, 59, 3, 0, 0), (.ior, 0, 0, 0, 0), (.istore 5, 0, 0, 0, 0), (.aload_n 0, 0, 0, 0, 0), (.getfield 11, 6, 0, 0, 0), (.iload 6, 0, 0, 0, 0), (.iload 5, 0, 0, 0, 0), (.iastore, 0, 0, 0, 0), (.iinc 6 1, 0, 0, 0, 1), (.goto (-59), 25, 0, 0, 0)]
  | 87 => [(.iload 5, 0, 0, 0, 0), (.invokestatic 51, 236, 1, 0, 0), (.ireturn, 0, 0, 0, 0)]
  | _ => []
theorem kX6_pass (pc : Nat) : chk 55 (bX6_pass pc) pc = true := by
  unfold bX6_pass; split
  · decide +kernel
  · decide +kernel
  · decide +kernel
  · rfl
def bX6_leftBehind : Nat → List Ins := fun pc => match pc with
  | 0 => [(.iload_n 1, 0, 0, 0, 0), (.iconst 0, 0, 0, 0, 0), (.aload_n 0, 0, 0, 0, 0), (.getfield 25, 6, 1, 0, 0), (.iconst 1, 0, 0, 0, 1), (.isub, 0, 0, 0, 0), (.invokestatic 56, 142, 3, 0, 0), (.ifCond .eq 18, 29, 0, 0, 0), (.iload_n 1, 0, 0, 0, 0), (.bipush 40, 0, 0, 0, 40), (.if_icmp .ge 12, 29, 0, 0, 0), (.aload_n 0, 0, 0, 0, 0), (.getfield 11, 6, 0, 0, 0), (.iload_n 1, 0, 0, 0, 0), (.iaload, 0, 0, 0, 0), (.goto 4, 30, 0, 0, 0)]
  | 29 => [(.iconst (-1), 0, 0, 0, (-1))]
  | 30 => [(.ireturn, 0, 0, 0, 0)]
  | _ => []
theorem kX6_leftBehind (pc : Nat) : chk 56 (bX6_leftBehind pc) pc = true := by
  unfold bX6_leftBehind; split
  · decide +kernel
  · decide +kernel
  · decide +kernel
  · rfl
def bX6_frozen : Nat → List Ins := fun pc => match pc with
  | 0 => [(.iconst 0, 0, 0, 0, 0), (.istore_n 3, 0, 0, 0, 0), (.iconst 0, 0, 0, 0, 0), (.istore 4, 0, 0, 0, 0)]
  | 5 => [(.iload 4, 0, 0, 0, 0), (.bipush 14, 0, 0, 0, 14), (.if_icmp .ge 42, 51, 0, 0, 0), (.iload_n 2, 0, 0, 0, 0), (.iload 4, 0, 0, 0, 0), (.ishr, 0, 0, 0, 0), (.iconst 1, 0, 0, 0, 1), (.iand, 0, 0, 0, 0), (.ifCond .eq 27, 45, 0, 0, 0), (.aload_n 0, 0, 0, 0, 0), (.bipush 100, 0, 0, 0, 100), (.invokevirtual 60, 58, 1, 6, 0), (.aload_n 1, 0, 0, 0, 0), (.iload 4, 0, 0, 0, 0), (.bipush 6, 0, 0, 0, 6), (.invokevirtual 63, 90, 2, 10, 0), (.if_icmp .ge 10, 45, 0, 0, 0), (.iload_n 3, 0, 0, 0, 0), (.iconst 1, 0, 0, 0, 1), (.iload 4, 0, 0, 0, 0), (.ishl, 0, 0, 0, 0), (.ior, 0, 0, 0, 0), (.istore_n 3, 0, 0, 0, 0)]
  | 45 => [(.iinc 4 1, 0, 0, 0, 1), (.goto (-43), 5, 0, 0, 0)]
  | 51 => [(.iload_n 3, 0, 0, 0, 0), (.ireturn, 0, 0, 0, 0)]
  | _ => []
theorem kX6_frozen (pc : Nat) : chk 57 (bX6_frozen pc) pc = true := by
  unfold bX6_frozen; split
  · decide +kernel
  · decide +kernel
  · decide +kernel
  · decide +kernel
  · rfl
def bX6_draw : Nat → List Ins := fun pc => match pc with
  | 0 => [(.aload_n 0, 0, 0, 0, 0), (.aload_n 0, 0, 0, 0, 0), (.getfield 15, 6, 2, 0, 0), (.i2l, 0, 0, 0, 0), (.ldc2_w 66, 1103, 0, 0, 0), (.lmul, 0, 0, 0, 0), (.ldc2_w 68, 12345, 0, 0, 0), (.ladd, 0, 0, 0, 0), (.ldc2_w 70, 1000003, 0, 0, 0), (.lrem, 0, 0, 0, 0), (.l2i, 0, 0, 0, 0), (.putfield 15, 6, 2, 0, 0), (.iload_n 1, 0, 0, 0, 0), (.ifCond .le 12, 35, 0, 0, 0), (.aload_n 0, 0, 0, 0, 0), (.getfield 15, 6, 2, 0, 0), (.iload_n 1, 0, 0, 0, 0), (.irem, 0, 0, 0, 0), (.goto 4, 36, 0, 0, 0)]
  | 35 => [(.iconst 0, 0, 0, 0, 0)]
  | 36 => [(.ireturn, 0, 0, 0, 0)]
  | _ => []
theorem kX6_draw (pc : Nat) : chk 58 (bX6_draw pc) pc = true := by
  unfold bX6_draw; split
  · decide +kernel
  · decide +kernel
  · decide +kernel
  · rfl
def bX6_toPutBack : Nat → List Ins := fun pc => match pc with
  | 0 => [(.iconst 0, 0, 0, 0, 0), (.istore_n 3, 0, 0, 0, 0), (.bipush 23, 0, 0, 0, 23), (.istore 4, 0, 0, 0, 0), (.iconst 0, 0, 0, 0, 0), (.istore 5, 0, 0, 0, 0)]
  | 9 => [(.iload 5, 0, 0, 0, 0), (.bipush 14, 0, 0, 0, 14), (.if_icmp .ge 49, 62, 0, 0, 0), (.iconst 1, 0, 0, 0, 1), (.iload 5, 0, 0, 0, 0), (.ishl, 0, 0, 0, 0), (.iload_n 2, 0, 0, 0, 0), (.iand, 0, 0, 0, 0), (.istore 6, 0, 0, 0, 0), (.aload_n 0, 0, 0, 0, 0), (.iload_n 1, 0, 0, 0, 0), (.iload 6, 0, 0, 0, 0), (.ior, 0, 0, 0, 0), (.invokevirtual 72, 21, 1, 2, 0), (.invokestatic 51, 236, 1, 0, 0), (.istore 7, 0, 0, 0, 0), (.iload 6, 0, 0, 0, 0), (.ifCond .eq 17, 56, 0, 0, 0), (.iload 7, 0, 0, 0, 0), (.iload 4, 0, 0, 0, 0), (.if_icmp .ge 10, 56, 0, 0, 0), (.iload 7, 0, 0, 0, 0), (.istore 4, 0, 0, 0, 0), (.iload 6, 0, 0, 0, 0), (.istore_n 3, 0, 0, 0, 0)]
  | 56 => [(.iinc 5 1, 0, 0, 0, 1), (.goto (-50), 9, 0, 0, 0)]
  | 62 => [(.iload_n 3, 0, 0, 0, 0), (.ireturn, 0, 0, 0, 0)]
  | _ => []
theorem kX6_toPutBack (pc : Nat) : chk 59 (bX6_toPutBack pc) pc = true := by
  unfold bX6_toPutBack; split
  · decide +kernel
  · decide +kernel
  · decide +kernel
  · decide +kernel
  · rfl
def bX7_clear : Nat → List Ins := fun pc => match pc with
  | 0 => [(.iconst 0, 0, 0, 0, 0), (.istore_n 1, 0, 0, 0, 0)]
  | 2 => [(.iload_n 1, 0, 0, 0, 0), (.sipush 256, 0, 0, 0, 256), (.if_icmp .ge 16, 22, 0, 0, 0), (.aload_n 0, 0, 0, 0, 0), (.getfield 9, 7, 0, 0, 0), (.iload_n 1, 0, 0, 0, 0), (.lconst 0, 0, 0, 0, 0), (.lastore, 0, 0, 0, 0), (.iinc 1 1, 0, 0, 0, 1), (.goto (-17), 2, 0, 0, 0)]
  | 22 => [(.return_, 0, 0, 0, 0)]
  | _ => []
theorem kX7_clear (pc : Nat) : chk 61 (bX7_clear pc) pc = true := by
  unfold bX7_clear; split
  · decide +kernel
  · decide +kernel
  · decide +kernel
  · rfl
def bX7_add : Nat → List Ins := fun pc => match pc with
  | 0 => [(.iload_n 1, 0, 0, 0, 0), (.iconst 0, 0, 0, 0, 0), (.sipush 16383, 0, 0, 0, 16383), (.invokestatic 15, 142, 3, 0, 0), (.ifCond .eq 21, 29, 0, 0, 0), (.aload_n 0, 0, 0, 0, 0), (.getfield 9, 7, 0, 0, 0), (.iload_n 1, 0, 0, 0, 0), (.bipush 6, 0, 0, 0, 6), (.ishr, 0, 0, 0, 0), (.dup2, 0, 0, 0, 0), (.laload, 0, 0, 0, 0), (.lconst 1, 1, 0, 0, 0), (.iload_n 1, 0, 0, 0, 0), (.bipush 63, 0, 0, 0, 63), (.iand, 0, 0, 0, 0), (.lshl, 0, 0, 0, 0), (.lor, 0, 0, 0, 0), (.lastore, 0, 0, 0, 0)]
  | 29 => [(.return_, 0, 0, 0, 0)]
  | _ => []
theorem kX7_add (pc : Nat) : chk 62 (bX7_add pc) pc = true := by
  unfold bX7_add; split
  · decide +kernel
  · decide +kernel
  · rfl
def bX7_has : Nat → List Ins := fun pc => match pc with
  | 0 => [(.iload_n 1, 0, 0, 0, 0), (.iconst 0, 0, 0, 0, 0), (.sipush 16383, 0, 0, 0, 16383), (.invokestatic 15, 142, 3, 0, 0), (.ifCond .eq 28, 36, 0, 0, 0), (.aload_n 0, 0, 0, 0, 0), (.getfield 9, 7, 0, 0, 0), (.iload_n 1, 0, 0, 0, 0), (.bipush 6, 0, 0, 0, 6), (.ishr, 0, 0, 0, 0), (.laload, 0, 0, 0, 0), (.iload_n 1, 0, 0, 0, 0), (.bipush 63, 0, 0, 0, 63), (.iand, 0, 0, 0, 0), (.lshr, 0, 0, 0, 0), (.lconst 1, 1, 0, 0, 0), (.land, 0, 0, 0, 0), (.lconst 0, 0, 0, 0, 0), (.lcmp, 0, 0, 0, 0), (.ifCond .eq 7, 36, 0, 0, 0), (.iconst 1, 0, 0, 0, 1), (.goto 4, 37, 0, 0, 0)]
  | 36 => [(.iconst 0, 0, 0, 0, 0)]
  | 37 => [(.ireturn, 1, 0, 0, 0)]
  | _ => []
theorem kX7_has (pc : Nat) : chk 63 (bX7_has pc) pc = true := by
  unfold bX7_has; split
  · decide +kernel
  · decide +kernel
  · decide +kernel
  · rfl
def bX7_hasWithoutOne : Nat → List Ins := fun pc => match pc with
  | 0 => [(.iconst 0, 0, 0, 0, 0), (.istore_n 3, 0, 0, 0, 0)]
  | 2 => [(.iload_n 3, 0, 0, 0, 0), (.bipush 14, 0, 0, 0, 14), (.if_icmp .ge 38, 43, 0, 0, 0), (.iconst 1, 0, 0, 0, 1), (.iload_n 3, 0, 0, 0, 0), (.ishl, 0, 0, 0, 0), (.iload_n 2, 0, 0, 0, 0), (.iand, 0, 0, 0, 0), (.iload_n 1, 0, 0, 0, 0), (.iand, 0, 0, 0, 0), (.istore 4, 0, 0, 0, 0), (.iload 4, 0, 0, 0, 0), (.ifCond .eq 18, 37, 0, 0, 0), (.aload_n 0, 0, 0, 0, 0), (.iload_n 1, 0, 0, 0, 0), (.iload 4, 0, 0, 0, 0), (.iconst (-1), 0, 0, 0, (-1)), (.ixor, 0, 0, 0, 0), (.iand, 0, 0, 0, 0), (.invokevirtual 19, 63, 1, 7, 0), (.ifCond .eq 5, 37, 0, 0, 0), (.iconst 1, 0, 0, 0, 1), (.ireturn, 1, 0, 0, 0)]
  | 37 => [(.iinc 3 1, 0, 0, 0, 1), (.goto (-38), 2, 0, 0, 0)]
  | 43 => [(.iconst 0, 0, 0, 0, 0), (.ireturn, 1, 0, 0, 0)]
  | _ => []
theorem kX7_hasWithoutOne (pc : Nat) : chk 64 (bX7_hasWithoutOne pc) pc = true := by
  unfold bX7_hasWithoutOne; split
  · decide +kernel
  · decide +kernel
  · decide +kernel
  · decide +kernel
  · rfl
def bX7_hasWithOne : Nat → List Ins := fun pc => match pc with
  | 0 => [(.iconst 0, 0, 0, 0, 0), (.istore_n 3, 0, 0, 0, 0)]
  | 2 => [(.iload_n 3, 0, 0, 0, 0), (.bipush 14, 0, 0, 0, 14), (.if_icmp .ge 38, 43, 0, 0, 0), (.iconst 1, 0, 0, 0, 1), (.iload_n 3, 0, 0, 0, 0), (.ishl, 0, 0, 0, 0), (.iload_n 2, 0, 0, 0, 0), (.iand, 0, 0, 0, 0), (.iload_n 1, 0, 0, 0, 0), (.iconst (-1), 0, 0, 0, (-1)), (.ixor, 0, 0, 0, 0), (.iand, 0, 0, 0, 0), (.istore 4, 0, 0, 0, 0), (.iload 4, 0, 0, 0, 0), (.ifCond .eq 16, 37, 0, 0, 0), (.aload_n 0, 0, 0, 0, 0), (.iload_n 1, 0, 0, 0, 0), (.iload 4, 0, 0, 0, 0), (.ior, 0, 0, 0, 0), (.invokevirtual 19, 63, 1, 7, 0), (.ifCond .eq 5, 37, 0, 0, 0), (.iconst 1, 0, 0, 0, 1), (.ireturn, 1, 0, 0, 0)]
  | 37 => [(.iinc 3 1, 0, 0, 0, 1), (.goto (-38), 2, 0, 0, 0)]
  | 43 => [(.iconst 0, 0, 0, 0, 0), (.ireturn, 1, 0, 0, 0)]
  | _ => []
theorem kX7_hasWithOne (pc : Nat) : chk 65 (bX7_hasWithOne pc) pc = true := by
  unfold bX7_hasWithOne; split
  · decide +kernel
  · decide +kernel
  · decide +kernel
  · decide +kernel
  · rfl
def bX8_add : Nat → List Ins := fun pc => match pc with
  | 0 => [(.bipush 24, 0, 0, 0, 24), (.istore_n 2, 0, 0, 0, 0)]
  | 3 => [(.iload_n 2, 0, 0, 0, 0), (.ifCond .lt 49, 53, 0, 0, 0), (.aload_n 0, 0, 0, 0, 0), (.getfield 15, 8, 1, 0, 0), (.iconst 0, 0, 0, 0, 0), (.sipush 399, 0, 0, 0, 399), (.invokestatic 19, 142, 3, 0, 0), (.ifCond .eq 29, 47, 0, 0, 0), (.aload_n 0, 0, 0, 0, 0), (.getfield 9, 8, 0, 0, 0), (.aload_n 0, 0, 0, 0, 0), (.getfield 15, 8, 1, 0, 0), (.iload_n 1, 0, 0, 0, 0), (.iload_n 2, 0, 0, 0, 0), (.iushr, 0, 0, 0, 0), (.sipush 255, 0, 0, 0, 255), (.iand, 0, 0, 0, 0), (.iastore, 0, 0, 0, 0), (.aload_n 0, 0, 0, 0, 0), (.dup, 0, 0, 0, 0), (.getfield 15, 8, 1, 0, 0), (.iconst 1, 0, 0, 0, 1), (.iadd, 0, 0, 0, 0), (.putfield 15, 8, 1, 0, 0)]
  | 47 => [(.iinc 2 (-8), 0, 0, 0, (-8)), (.goto (-47), 3, 0, 0, 0)]
  | 53 => [(.return_, 0, 0, 0, 0)]
  | _ => []
theorem kX8_add (pc : Nat) : chk 67 (bX8_add pc) pc = true := by
  unfold bX8_add; split
  · decide +kernel
  · decide +kernel
  · decide +kernel
  · decide +kernel
  · rfl
def bX8_byteAt : Nat → List Ins := fun pc => match pc with
  | 0 => [(.iload_n 1, 0, 0, 0, 0), (.ifCond .lt 19, 20, 0, 0, 0), (.iload_n 1, 0, 0, 0, 0), (.sipush 400, 0, 0, 0, 400), (.if_icmp .ge 12, 20, 0, 0, 0), (.aload_n 0, 0, 0, 0, 0), (.getfield 9, 8, 0, 0, 0), (.iload_n 1, 0, 0, 0, 0), (.iaload, 0, 0, 0, 0), (.goto 4, 21, 0, 0, 0)]
  | 20 => [(.iconst (-1), 0, 0, 0, (-1))]
  | 21 => [(.ireturn, 0, 0, 0, 0)]
  | _ => []
theorem kX8_byteAt (pc : Nat) : chk 68 (bX8_byteAt pc) pc = true := by
  unfold bX8_byteAt; split
  · decide +kernel
  · decide +kernel
  · decide +kernel
  · rfl
def bbitCount : Nat → List Ins := fun pc => match pc with
  | 0 => [(.iload_n 0, 0, 0, 0, 0), (.iload_n 0, 0, 0, 0, 0), (.iconst 1, 0, 0, 0, 1), (.iushr, 0, 0, 0, 0), (.ldc_w 265, 0, 0, 0, 1431655765), (.iand, 0, 0, 0, 0), (.isub, 0, 0, 0, 0), (.istore_n 0, 0, 0, 0, 0), (.iload_n 0, 0, 0, 0, 0), (.ldc_w 266, 0, 0, 0, 858993459), (.iand, 0, 0, 0, 0), (.iload_n 0, 0, 0, 0, 0), (.iconst 2, 0, 0, 0, 2), (.iushr, 0, 0, 0, 0), (.ldc_w 266, 0, 0, 0, 858993459), (.iand, 0, 0, 0, 0), (.iadd, 0, 0, 0, 0), (.istore_n 0, 0, 0, 0, 0), (.iload_n 0, 0, 0, 0, 0), (.iload_n 0, 0, 0, 0, 0), (.iconst 4, 0, 0, 0, 4), (.iushr, 0, 0, 0, 0), (.iadd, 0, 0, 0, 0), (.ldc_w 267, 0, 0, 0, 252645135), (.iand, 0, 0, 0, 0), (.istore_n 0, 0, 0, 0, 0), (.iload_n 0, 0, 0, 0, 0), (.iload_n 0, 0, 0, 0, 0), (.bipush 8, 0, 0, 0, 8), (.iushr, 0, 0, 0, 0), (.iadd, 0, 0, 0, 0), (.istore_n 0, 0, 0, 0, 0), (.iload_n 0, 0, 0, 0, 0), (.iload_n 0, 0, 0, 0, 0), (.bipush 16, 0, 0, 0, 16), (.iushr, 0, 0, 0, 0), (.iadd, 0, 0, 0, 0), (.istore_n 0, 0, 0, 0, 0), (.iload_n 0, 0, 0, 0, 0), (.bipush 63, 0, 0, 0, 63), (.iand, 0, 0, 0, 0), (.ireturn, 0, 0, 0, 0)]
  | _ => []
theorem kbitCount (pc : Nat) : chk 236 (bbitCount pc) pc = true := by
  unfold bbitCount; split
  · decide +kernel
  · rfl
end
section
/-! the code of the methods, as lists (wip/gen/code.py) -/
def bX9_forget : Nat → List Ins := fun pc => match pc with
  | 0 => [(.aload_n 0, 0, 0, 0, 0), (.iconst 0, 0, 0, 0, 0), (.putfield 57, 9, 13, 0, 0), (.return_, 0, 0, 0, 0)]
  | _ => []
theorem kX9_forget (pc : Nat) : chk 70 (bX9_forget pc) pc = true := by
  unfold bX9_forget; split
  · decide +kernel
  · rfl
def bX9_isDue : Nat → List Ins := fun pc => match pc with
  | 0 => [(.aload_n 0, 0, 0, 0, 0), (.getfield 57, 9, 13, 0, 0), (.iload_n 1, 0, 0, 0, 0), (.iand, 0, 0, 0, 0), (.ifCond .ne 7, 13, 0, 0, 0), (.iconst 1, 0, 0, 0, 1), (.goto 4, 14, 0, 0, 0)]
  | 13 => [(.iconst 0, 0, 0, 0, 0)]
  | 14 => [(.istore_n 2, 0, 0, 0, 0), (.aload_n 0, 0, 0, 0, 0), (.dup, 0, 0, 0, 0), (.getfield 57, 9, 13, 0, 0), (.iload_n 1, 0, 0, 0, 0), (.ior, 0, 0, 0, 0), (.putfield 57, 9, 13, 0, 0), (.iload_n 2, 0, 0, 0, 0), (.ireturn, 1, 0, 0, 0)]
  | _ => []
theorem kX9_isDue (pc : Nat) : chk 71 (bX9_isDue pc) pc = true := by
  unfold bX9_isDue; split
  · decide +kernel
  · decide +kernel
  · decide +kernel
  · rfl
def bX9_setsOf : Nat → List Ins := fun pc => match pc with
  | 0 => [(.iconst 1, 0, 0, 0, 1), (.bipush 14, 0, 0, 0, 14), (.iload_n 0, 0, 0, 0, 0), (.invokestatic 60, 236, 1, 0, 0), (.invokestatic 66, 239, 2, 1, 0), (.ishl, 0, 0, 0, 0), (.ireturn, 0, 0, 0, 0)]
  | _ => []
theorem kX9_setsOf (pc : Nat) : chk 72 (bX9_setsOf pc) pc = true := by
  unfold bX9_setsOf; split
  · decide +kernel
  · rfl
def bX9_findLawful : Nat → List Ins := fun pc => match pc with
  | 0 => [(.aload_n 0, 0, 0, 0, 0), (.iconst 1, 0, 0, 0, 1), (.invokevirtual 72, 71, 1, 9, 0), (.ifCond .ne 4, 9, 0, 0, 0), (.return_, 0, 0, 0, 0)]
  | 9 => [(.aload_n 0, 0, 0, 0, 0), (.aload_n 0, 0, 0, 0, 0), (.getfield 53, 9, 1, 0, 0), (.aload_n 0, 0, 0, 0, 0), (.getfield 49, 9, 0, 0, 0), (.getfield 76, 10, 5, 0, 0), (.invokevirtual 81, 22, 1, 2, 0), (.putfield 86, 9, 12, 0, 0), (.aload_n 0, 0, 0, 0, 0), (.getfield 12, 9, 2, 0, 0), (.invokevirtual 89, 61, 0, 7, 0), (.aload_n 0, 0, 0, 0, 0), (.getfield 86, 9, 12, 0, 0), (.invokestatic 92, 72, 1, 0, 0), (.istore_n 1, 0, 0, 0, 0), (.iconst 0, 0, 0, 0, 0), (.istore_n 2, 0, 0, 0, 0), (.iconst 0, 0, 0, 0, 0), (.istore_n 3, 0, 0, 0, 0)]
  | 46 => [(.iload_n 3, 0, 0, 0, 0), (.iload_n 1, 0, 0, 0, 0), (.if_icmp .ge 40, 88, 0, 0, 0), (.aload_n 0, 0, 0, 0, 0), (.getfield 53, 9, 1, 0, 0), (.iload_n 2, 0, 0, 0, 0), (.invokevirtual 95, 20, 1, 2, 0), (.ifCond .eq 11, 70, 0, 0, 0), (.aload_n 0, 0, 0, 0, 0), (.getfield 12, 9, 2, 0, 0), (.iload_n 2, 0, 0, 0, 0), (.invokevirtual 98, 62, 1, 7, 0)]
  | 70 => [(.iload_n 2, 0, 0, 0, 0), (.aload_n 0, 0, 0, 0, 0), (.getfield 86, 9, 12, 0, 0), (.isub, 0, 0, 0, 0), (.aload_n 0, 0, 0, 0, 0), (.getfield 86, 9, 12, 0, 0), (.iand, 0, 0, 0, 0), (.istore_n 2, 0, 0, 0, 0), (.iinc 3 1, 0, 0, 0, 1), (.goto (-39), 46, 0, 0, 0)]
  | 88 => [(.return_, 0, 0, 0, 0)]
  | _ => []
theorem kX9_findLawful (pc : Nat) : chk 73 (bX9_findLawful pc) pc = true := by
  unfold bX9_findLawful; split
  · decide +kernel
  · decide +kernel
  · decide +kernel
  · decide +kernel
  · decide +kernel
  · rfl
def bX9_atOnce : Nat → List Ins := fun pc => match pc with
  | 0 => [(.aload_n 0, 0, 0, 0, 0), (.iconst 2, 0, 0, 0, 2), (.invokevirtual 72, 71, 1, 9, 0), (.ifCond .eq 82, 87, 0, 0, 0), (.aload_n 0, 0, 0, 0, 0), (.invokevirtual 102, 73, 0, 9, 0), (.aload_n 0, 0, 0, 0, 0), (.getfield 24, 9, 4, 0, 0), (.invokevirtual 105, 32, 0, 4, 0), (.aload_n 0, 0, 0, 0, 0), (.getfield 86, 9, 12, 0, 0), (.invokestatic 92, 72, 1, 0, 0), (.istore_n 1, 0, 0, 0, 0), (.iconst 0, 0, 0, 0, 0), (.istore_n 2, 0, 0, 0, 0), (.iconst 0, 0, 0, 0, 0), (.istore_n 3, 0, 0, 0, 0)]
  | 31 => [(.iload_n 3, 0, 0, 0, 0), (.iload_n 1, 0, 0, 0, 0), (.if_icmp .ge 54, 87, 0, 0, 0), (.aload_n 0, 0, 0, 0, 0), (.getfield 12, 9, 2, 0, 0), (.iload_n 2, 0, 0, 0, 0), (.invokevirtual 106, 63, 1, 7, 0), (.ifCond .eq 25, 69, 0, 0, 0), (.aload_n 0, 0, 0, 0, 0), (.getfield 24, 9, 4, 0, 0), (.aload_n 0, 0, 0, 0, 0), (.getfield 49, 9, 0, 0, 0), (.getfield 76, 10, 5, 0, 0), (.iload_n 2, 0, 0, 0, 0), (.iconst (-1), 0, 0, 0, (-1)), (.ixor, 0, 0, 0, 0), (.iand, 0, 0, 0, 0), (.aload_n 0, 0, 0, 0, 0), (.getfield 49, 9, 0, 0, 0), (.invokevirtual 109, 33, 2, 4, 0)]
  | 69 => [(.iload_n 2, 0, 0, 0, 0), (.aload_n 0, 0, 0, 0, 0), (.getfield 86, 9, 12, 0, 0), (.isub, 0, 0, 0, 0), (.aload_n 0, 0, 0, 0, 0), (.getfield 86, 9, 12, 0, 0), (.iand, 0, 0, 0, 0), (.istore_n 2, 0, 0, 0, 0), (.iinc 3 1, 0, 0, 0, 1), (.goto (-53), 31, 0, 0, 0)]
  | 87 => [(.aload_n 0, 0, 0, 0, 0), (.getfield 24, 9, 4, 0, 0), (.areturn, 0, 0, 0, 0)]
  | _ => []
theorem kX9_atOnce (pc : Nat) : chk 74 (bX9_atOnce pc) pc = true := by
  unfold bX9_atOnce; split
  · decide +kernel
  · decide +kernel
  · decide +kernel
  · decide +kernel
  · rfl
def bX9_inSteps : Nat → List Ins := fun pc => match pc with
  | 0 => [(.aload_n 0, 0, 0, 0, 0), (.iconst 4, 0, 0, 0, 4), (.invokevirtual 72, 71, 1, 9, 0), (.ifCond .eq 51, 56, 0, 0, 0), (.aload_n 0, 0, 0, 0, 0), (.invokevirtual 102, 73, 0, 9, 0), (.aload_n 0, 0, 0, 0, 0), (.getfield 28, 9, 5, 0, 0), (.invokevirtual 105, 32, 0, 4, 0), (.aload_n 0, 0, 0, 0, 0), (.iconst 0, 0, 0, 0, 0), (.putfield 113, 9, 9, 0, 0), (.aload_n 0, 0, 0, 0, 0), (.getfield 12, 9, 2, 0, 0), (.aload_n 0, 0, 0, 0, 0), (.getfield 49, 9, 0, 0, 0), (.getfield 76, 10, 5, 0, 0), (.invokevirtual 106, 63, 1, 7, 0), (.ifCond .eq 18, 56, 0, 0, 0), (.aload_n 0, 0, 0, 0, 0), (.invokevirtual 116, 76, 0, 9, 0), (.aload_n 0, 0, 0, 0, 0), (.aload_n 0, 0, 0, 0, 0), (.getfield 28, 9, 5, 0, 0), (.getfield 119, 4, 2, 0, 0), (.invokevirtual 122, 77, 1, 9, 0)]
  | 56 => [(.aload_n 0, 0, 0, 0, 0), (.getfield 28, 9, 5, 0, 0), (.areturn, 0, 0, 0, 0)]
  | _ => []
theorem kX9_inSteps (pc : Nat) : chk 75 (bX9_inSteps pc) pc = true := by
  unfold bX9_inSteps; split
  · decide +kernel
  · decide +kernel
  · rfl
def bX9_findStepSets : Nat → List Ins := fun pc => match pc with
  | 0 => [(.aload_n 0, 0, 0, 0, 0), (.getfield 18, 9, 3, 0, 0), (.invokevirtual 89, 61, 0, 7, 0), (.aload_n 0, 0, 0, 0, 0), (.getfield 49, 9, 0, 0, 0), (.getfield 76, 10, 5, 0, 0), (.istore_n 1, 0, 0, 0, 0), (.iload_n 1, 0, 0, 0, 0), (.invokestatic 92, 72, 1, 0, 0), (.istore_n 2, 0, 0, 0, 0), (.iload_n 1, 0, 0, 0, 0), (.istore_n 3, 0, 0, 0, 0), (.iconst 0, 0, 0, 0, 0), (.istore 4, 0, 0, 0, 0)]
  | 25 => [(.iload 4, 0, 0, 0, 0), (.iload_n 2, 0, 0, 0, 0), (.if_icmp .ge 67, 95, 0, 0, 0), (.iload_n 3, 0, 0, 0, 0), (.iload_n 1, 0, 0, 0, 0), (.if_icmp .eq 26, 59, 0, 0, 0), (.aload_n 0, 0, 0, 0, 0), (.getfield 12, 9, 2, 0, 0), (.iload_n 3, 0, 0, 0, 0), (.invokevirtual 106, 63, 1, 7, 0), (.ifCond .eq 39, 83, 0, 0, 0), (.aload_n 0, 0, 0, 0, 0), (.getfield 18, 9, 3, 0, 0), (.iload_n 3, 0, 0, 0, 0), (.iload_n 1, 0, 0, 0, 0), (.invokevirtual 125, 65, 2, 7, 0), (.ifCond .eq 27, 83, 0, 0, 0)]
  | 59 => [(.aload_n 0, 0, 0, 0, 0), (.getfield 18, 9, 3, 0, 0), (.iload_n 3, 0, 0, 0, 0), (.invokevirtual 98, 62, 1, 7, 0), (.aload_n 0, 0, 0, 0, 0), (.getfield 28, 9, 5, 0, 0), (.iload_n 1, 0, 0, 0, 0), (.iload_n 3, 0, 0, 0, 0), (.iconst (-1), 0, 0, 0, (-1)), (.ixor, 0, 0, 0, 0), (.iand, 0, 0, 0, 0), (.aload_n 0, 0, 0, 0, 0), (.getfield 49, 9, 0, 0, 0), (.invokevirtual 109, 33, 2, 4, 0)]
  | 83 => [(.iload_n 3, 0, 0, 0, 0), (.iconst 1, 0, 0, 0, 1), (.isub, 0, 0, 0, 0), (.iload_n 1, 0, 0, 0, 0), (.iand, 0, 0, 0, 0), (.istore_n 3, 0, 0, 0, 0), (.iinc 4 1, 0, 0, 0, 1), (.goto (-67), 25, 0, 0, 0)]
  | 95 => [(.return_, 0, 0, 0, 0)]
  | _ => []
theorem kX9_findStepSets (pc : Nat) : chk 76 (bX9_findStepSets pc) pc = true := by
  unfold bX9_findStepSets; split
  · decide +kernel
  · decide +kernel
  · decide +kernel
  · decide +kernel
  · decide +kernel
  · rfl
def bX9_findOrder : Nat → List Ins := fun pc => match pc with
  | 0 => [(.aload_n 0, 0, 0, 0, 0), (.getfield 49, 9, 0, 0, 0), (.getfield 76, 10, 5, 0, 0), (.iload_n 1, 0, 0, 0, 0), (.iconst (-1), 0, 0, 0, (-1)), (.ixor, 0, 0, 0, 0), (.iand, 0, 0, 0, 0), (.istore_n 2, 0, 0, 0, 0), (.iload_n 1, 0, 0, 0, 0), (.invokestatic 92, 72, 1, 0, 0), (.istore_n 3, 0, 0, 0, 0), (.aload_n 0, 0, 0, 0, 0), (.getfield 18, 9, 3, 0, 0), (.invokevirtual 89, 61, 0, 7, 0), (.iconst 0, 0, 0, 0, 0), (.istore 4, 0, 0, 0, 0), (.iconst 0, 0, 0, 0, 0), (.istore 5, 0, 0, 0, 0)]
  | 30 => [(.iload 5, 0, 0, 0, 0), (.iload_n 3, 0, 0, 0, 0), (.if_icmp .ge 63, 96, 0, 0, 0), (.iload 4, 0, 0, 0, 0), (.ifCond .eq 33, 71, 0, 0, 0), (.aload_n 0, 0, 0, 0, 0), (.getfield 12, 9, 2, 0, 0), (.iload_n 2, 0, 0, 0, 0), (.iload 4, 0, 0, 0, 0), (.ior, 0, 0, 0, 0), (.invokevirtual 106, 63, 1, 7, 0), (.ifCond .eq 30, 82, 0, 0, 0), (.aload_n 0, 0, 0, 0, 0), (.getfield 18, 9, 3, 0, 0), (.iload_n 2, 0, 0, 0, 0), (.iload 4, 0, 0, 0, 0), (.ior, 0, 0, 0, 0), (.iload 4, 0, 0, 0, 0), (.invokevirtual 129, 64, 2, 7, 0), (.ifCond .eq 14, 82, 0, 0, 0)]
  | 71 => [(.aload_n 0, 0, 0, 0, 0), (.getfield 18, 9, 3, 0, 0), (.iload_n 2, 0, 0, 0, 0), (.iload 4, 0, 0, 0, 0), (.ior, 0, 0, 0, 0), (.invokevirtual 98, 62, 1, 7, 0)]
  | 82 => [(.iload 4, 0, 0, 0, 0), (.iload_n 1, 0, 0, 0, 0), (.isub, 0, 0, 0, 0), (.iload_n 1, 0, 0, 0, 0), (.iand, 0, 0, 0, 0), (.istore 4, 0, 0, 0, 0), (.iinc 5 1, 0, 0, 0, 1), (.goto (-63), 30, 0, 0, 0)]
  | 96 => [(.aload_n 0, 0, 0, 0, 0), (.getfield 49, 9, 0, 0, 0), (.getfield 76, 10, 5, 0, 0), (.istore 5, 0, 0, 0, 0), (.iconst 0, 0, 0, 0, 0), (.istore 6, 0, 0, 0, 0)]
  | 108 => [(.iload 6, 0, 0, 0, 0), (.bipush 14, 0, 0, 0, 14), (.if_icmp .ge 52, 164, 0, 0, 0), (.aload_n 0, 0, 0, 0, 0), (.iload 5, 0, 0, 0, 0), (.iload_n 1, 0, 0, 0, 0), (.invokevirtual 132, 78, 2, 9, 0), (.istore 7, 0, 0, 0, 0), (.iload 7, 0, 0, 0, 0), (.iconst (-1), 0, 0, 0, (-1)), (.if_icmp .eq 31, 158, 0, 0, 0), (.aload_n 0, 0, 0, 0, 0), (.getfield 41, 9, 8, 0, 0), (.iload 6, 0, 0, 0, 0), (.iload 7, 0, 0, 0, 0), (.iastore, 0, 0, 0, 0), (.aload_n 0, 0, 0, 0, 0), (.iload 6, 0, 0, 0, 0), (.iconst 1, 0, 0, 0, 1), (.iadd, 0, 0, 0, 0), (.putfield 113, 9, 9, 0, 0), (.iload 5, 0, 0, 0, 0), (.iconst 1, 0, 0, 0, 1), (.iload 7, 0, 0, 0, 0), (.ishl, 0, 0, 0, 0), (.iconst (-1), 0, 0, 0, (-1)), (.ixor, 0, 0, 0, 0), (.iand, 0, 0, 0, 0), (.istore 5, 0, 0, 0, 0)]
  | 158 => [(.iinc 6 1, 0, 0, 0, 1), (.goto (-53), 108, 0, 0, 0)]
  | 164 => [(.return_, 0, 0, 0, 0)]
  | _ => []
theorem kX9_findOrder (pc : Nat) : chk 77 (bX9_findOrder pc) pc = true := by
  unfold bX9_findOrder; split
  · decide +kernel
  · decide +kernel
  · decide +kernel
  · decide +kernel
  · decide +kernel
  · decide +kernel
  · decide +kernel
  · decide +kernel
  · rfl
def bX9_lowestMarked : Nat → List Ins := fun pc => match pc with
  | 0 => [(.iconst 0, 0, 0, 0, 0), (.istore_n 3, 0, 0, 0, 0)]
  | 2 => [(.iload_n 3, 0, 0, 0, 0), (.bipush 14, 0, 0, 0, 14), (.if_icmp .ge 41, 46, 0, 0, 0), (.iconst 1, 0, 0, 0, 1), (.iload_n 3, 0, 0, 0, 0), (.ishl, 0, 0, 0, 0), (.iload_n 1, 0, 0, 0, 0), (.iand, 0, 0, 0, 0), (.iload_n 2, 0, 0, 0, 0), (.iand, 0, 0, 0, 0), (.istore 4, 0, 0, 0, 0), (.iload 4, 0, 0, 0, 0), (.ifCond .eq 21, 40, 0, 0, 0), (.aload_n 0, 0, 0, 0, 0), (.getfield 18, 9, 3, 0, 0), (.iload_n 1, 0, 0, 0, 0), (.iload 4, 0, 0, 0, 0), (.iconst (-1), 0, 0, 0, (-1)), (.ixor, 0, 0, 0, 0), (.iand, 0, 0, 0, 0), (.invokevirtual 106, 63, 1, 7, 0), (.ifCond .eq 5, 40, 0, 0, 0), (.iload_n 3, 0, 0, 0, 0), (.ireturn, 0, 0, 0, 0)]
  | 40 => [(.iinc 3 1, 0, 0, 0, 1), (.goto (-41), 2, 0, 0, 0)]
  | 46 => [(.iconst (-1), 0, 0, 0, (-1)), (.ireturn, 0, 0, 0, 0)]
  | _ => []
theorem kX9_lowestMarked (pc : Nat) : chk 78 (bX9_lowestMarked pc) pc = true := by
  unfold bX9_lowestMarked; split
  · decide +kernel
  · decide +kernel
  · decide +kernel
  · decide +kernel
  · rfl
def bX9_stepTaken : Nat → List Ins := fun pc => match pc with
  | 0 => [(.iload_n 1, 0, 0, 0, 0), (.iconst 0, 0, 0, 0, 0), (.aload_n 0, 0, 0, 0, 0), (.getfield 113, 9, 9, 0, 0), (.iconst 1, 0, 0, 0, 1), (.isub, 0, 0, 0, 0), (.invokestatic 135, 142, 3, 0, 0), (.ifCond .eq 18, 29, 0, 0, 0), (.iload_n 1, 0, 0, 0, 0), (.bipush 14, 0, 0, 0, 14), (.if_icmp .ge 12, 29, 0, 0, 0), (.aload_n 0, 0, 0, 0, 0), (.getfield 41, 9, 8, 0, 0), (.iload_n 1, 0, 0, 0, 0), (.iaload, 0, 0, 0, 0), (.goto 4, 30, 0, 0, 0)]
  | 29 => [(.iconst (-1), 0, 0, 0, (-1))]
  | 30 => [(.ireturn, 0, 0, 0, 0)]
  | _ => []
theorem kX9_stepTaken (pc : Nat) : chk 79 (bX9_stepTaken pc) pc = true := by
  unfold bX9_stepTaken; split
  · decide +kernel
  · decide +kernel
  · decide +kernel
  · rfl
def bX9_felling : Nat → List Ins := fun pc => match pc with
  | 0 => [(.aload_n 0, 0, 0, 0, 0), (.bipush 8, 0, 0, 0, 8), (.invokevirtual 72, 71, 1, 9, 0), (.ifCond .eq 105, 111, 0, 0, 0), (.aload_n 0, 0, 0, 0, 0), (.invokevirtual 102, 73, 0, 9, 0), (.aload_n 0, 0, 0, 0, 0), (.getfield 34, 9, 6, 0, 0), (.invokevirtual 139, 9, 0, 1, 0), (.aload_n 0, 0, 0, 0, 0), (.getfield 18, 9, 3, 0, 0), (.invokevirtual 89, 61, 0, 7, 0), (.aload_n 0, 0, 0, 0, 0), (.getfield 86, 9, 12, 0, 0), (.invokestatic 92, 72, 1, 0, 0), (.istore_n 1, 0, 0, 0, 0), (.iconst 0, 0, 0, 0, 0), (.istore_n 2, 0, 0, 0, 0), (.iconst 0, 0, 0, 0, 0), (.istore_n 3, 0, 0, 0, 0)]
  | 39 => [(.iload_n 3, 0, 0, 0, 0), (.iload_n 1, 0, 0, 0, 0), (.if_icmp .ge 70, 111, 0, 0, 0), (.aload_n 0, 0, 0, 0, 0), (.getfield 12, 9, 2, 0, 0), (.iload_n 2, 0, 0, 0, 0), (.invokevirtual 106, 63, 1, 7, 0), (.ifCond .ne 15, 67, 0, 0, 0), (.aload_n 0, 0, 0, 0, 0), (.getfield 18, 9, 3, 0, 0), (.iload_n 2, 0, 0, 0, 0), (.iload_n 2, 0, 0, 0, 0), (.invokevirtual 129, 64, 2, 7, 0), (.ifCond .eq 14, 78, 0, 0, 0)]
  | 67 => [(.aload_n 0, 0, 0, 0, 0), (.getfield 18, 9, 3, 0, 0), (.iload_n 2, 0, 0, 0, 0), (.invokevirtual 98, 62, 1, 7, 0), (.goto 18, 93, 0, 0, 0)]
  | 78 => [(.aload_n 0, 0, 0, 0, 0), (.getfield 34, 9, 6, 0, 0), (.aload_n 0, 0, 0, 0, 0), (.getfield 86, 9, 12, 0, 0), (.iload_n 2, 0, 0, 0, 0), (.iconst (-1), 0, 0, 0, (-1)), (.ixor, 0, 0, 0, 0), (.iand, 0, 0, 0, 0), (.invokevirtual 140, 10, 1, 1, 0)]
  | 93 => [(.iload_n 2, 0, 0, 0, 0), (.aload_n 0, 0, 0, 0, 0), (.getfield 86, 9, 12, 0, 0), (.isub, 0, 0, 0, 0), (.aload_n 0, 0, 0, 0, 0), (.getfield 86, 9, 12, 0, 0), (.iand, 0, 0, 0, 0), (.istore_n 2, 0, 0, 0, 0), (.iinc 3 1, 0, 0, 0, 1), (.goto (-69), 39, 0, 0, 0)]
  | 111 => [(.aload_n 0, 0, 0, 0, 0), (.getfield 34, 9, 6, 0, 0), (.areturn, 0, 0, 0, 0)]
  | _ => []
theorem kX9_felling (pc : Nat) : chk 80 (bX9_felling pc) pc = true := by
  unfold bX9_felling; split
  · decide +kernel
  · decide +kernel
  · decide +kernel
  · decide +kernel
  · decide +kernel
  · decide +kernel
  · rfl
def bX9_mending : Nat → List Ins := fun pc => match pc with
  | 0 => [(.aload_n 0, 0, 0, 0, 0), (.bipush 16, 0, 0, 0, 16), (.invokevirtual 72, 71, 1, 9, 0), (.ifCond .eq 68, 74, 0, 0, 0), (.aload_n 0, 0, 0, 0, 0), (.getfield 38, 9, 7, 0, 0), (.invokevirtual 139, 9, 0, 1, 0), (.iconst 1, 0, 0, 0, 1), (.bipush 8, 0, 0, 0, 8), (.aload_n 0, 0, 0, 0, 0), (.getfield 49, 9, 0, 0, 0), (.getfield 142, 10, 4, 0, 0), (.invokestatic 66, 239, 2, 1, 0), (.ishl, 0, 0, 0, 0), (.istore_n 1, 0, 0, 0, 0), (.iconst 0, 0, 0, 0, 0), (.istore_n 2, 0, 0, 0, 0)]
  | 33 => [(.iload_n 2, 0, 0, 0, 0), (.iload_n 1, 0, 0, 0, 0), (.if_icmp .ge 39, 74, 0, 0, 0), (.aload_n 0, 0, 0, 0, 0), (.getfield 53, 9, 1, 0, 0), (.aload_n 0, 0, 0, 0, 0), (.getfield 49, 9, 0, 0, 0), (.getfield 76, 10, 5, 0, 0), (.iload_n 2, 0, 0, 0, 0), (.bipush 14, 0, 0, 0, 14), (.ishl, 0, 0, 0, 0), (.ior, 0, 0, 0, 0), (.invokevirtual 95, 20, 1, 2, 0), (.ifCond .eq 11, 68, 0, 0, 0), (.aload_n 0, 0, 0, 0, 0), (.getfield 38, 9, 7, 0, 0), (.iload_n 2, 0, 0, 0, 0), (.invokevirtual 140, 10, 1, 1, 0)]
  | 68 => [(.iinc 2 1, 0, 0, 0, 1), (.goto (-38), 33, 0, 0, 0)]
  | 74 => [(.aload_n 0, 0, 0, 0, 0), (.getfield 38, 9, 7, 0, 0), (.areturn, 0, 0, 0, 0)]
  | _ => []
theorem kX9_mending (pc : Nat) : chk 81 (bX9_mending pc) pc = true := by
  unfold bX9_mending; split
  · decide +kernel
  · decide +kernel
  · decide +kernel
  · decide +kernel
  · rfl
def bX9_play : Nat → List Ins := fun pc => match pc with
  | 0 => [(.aload_n 0, 0, 0, 0, 0), (.bipush 32, 0, 0, 0, 32), (.invokevirtual 72, 71, 1, 9, 0), (.ifCond .ne 4, 10, 0, 0, 0), (.return_, 0, 0, 0, 0)]
  | 10 => [(.aload_n 0, 0, 0, 0, 0), (.invokevirtual 102, 73, 0, 9, 0), (.aload_n 0, 0, 0, 0, 0), (.getfield 18, 9, 3, 0, 0), (.invokevirtual 89, 61, 0, 7, 0), (.aload_n 0, 0, 0, 0, 0), (.getfield 86, 9, 12, 0, 0), (.invokestatic 92, 72, 1, 0, 0), (.istore_n 1, 0, 0, 0, 0), (.iconst 0, 0, 0, 0, 0), (.istore_n 2, 0, 0, 0, 0), (.iconst 0, 0, 0, 0, 0), (.istore_n 3, 0, 0, 0, 0)]
  | 33 => [(.iload_n 3, 0, 0, 0, 0), (.iload_n 1, 0, 0, 0, 0), (.if_icmp .ge 38, 73, 0, 0, 0), (.aload_n 0, 0, 0, 0, 0), (.iload_n 2, 0, 0, 0, 0), (.invokevirtual 145, 83, 1, 9, 0), (.iconst (-1), 0, 0, 0, (-1)), (.if_icmp .eq 11, 55, 0, 0, 0), (.aload_n 0, 0, 0, 0, 0), (.getfield 18, 9, 3, 0, 0), (.iload_n 2, 0, 0, 0, 0), (.invokevirtual 98, 62, 1, 7, 0)]
  | 55 => [(.iload_n 2, 0, 0, 0, 0), (.aload_n 0, 0, 0, 0, 0), (.getfield 86, 9, 12, 0, 0), (.isub, 0, 0, 0, 0), (.aload_n 0, 0, 0, 0, 0), (.getfield 86, 9, 12, 0, 0), (.iand, 0, 0, 0, 0), (.istore_n 2, 0, 0, 0, 0), (.iinc 3 1, 0, 0, 0, 1), (.goto (-37), 33, 0, 0, 0)]
  | 73 => [(.aload_n 0, 0, 0, 0, 0), (.aload_n 0, 0, 0, 0, 0), (.aload_n 0, 0, 0, 0, 0), (.getfield 49, 9, 0, 0, 0), (.getfield 76, 10, 5, 0, 0), (.invokevirtual 145, 83, 1, 9, 0), (.putfield 45, 9, 10, 0, 0), (.aload_n 0, 0, 0, 0, 0), (.iconst 0, 0, 0, 0, 0), (.putfield 148, 9, 11, 0, 0), (.iconst 0, 0, 0, 0, 0), (.istore_n 3, 0, 0, 0, 0)]
  | 95 => [(.iload_n 3, 0, 0, 0, 0), (.bipush 14, 0, 0, 0, 14), (.if_icmp .ge 59, 157, 0, 0, 0), (.iconst 1, 0, 0, 0, 1), (.iload_n 3, 0, 0, 0, 0), (.ishl, 0, 0, 0, 0), (.aload_n 0, 0, 0, 0, 0), (.getfield 49, 9, 0, 0, 0), (.getfield 76, 10, 5, 0, 0), (.iand, 0, 0, 0, 0), (.istore 4, 0, 0, 0, 0), (.iload 4, 0, 0, 0, 0), (.ifCond .eq 35, 151, 0, 0, 0), (.aload_n 0, 0, 0, 0, 0), (.getfield 12, 9, 2, 0, 0), (.aload_n 0, 0, 0, 0, 0), (.getfield 49, 9, 0, 0, 0), (.getfield 76, 10, 5, 0, 0), (.iload 4, 0, 0, 0, 0), (.iconst (-1), 0, 0, 0, (-1)), (.ixor, 0, 0, 0, 0), (.iand, 0, 0, 0, 0), (.invokevirtual 106, 63, 1, 7, 0), (.ifCond .eq 13, 151, 0, 0, 0), (.aload_n 0, 0, 0, 0, 0), (.dup, 0, 0, 0, 0), (.getfield 148, 9, 11, 0, 0), (.iconst 1, 0, 0, 0, 1), (.iadd, 0, 0, 0, 0), (.putfield 148, 9, 11, 0, 0)]
  | 151 => [(.iinc 3 1, 0, 0, 0, 1), (.goto (-59), 95, 0, 0, 0)]
  | 157 => [(.return_, 0, 0, 0, 0)]
  | _ => []
theorem kX9_play (pc : Nat) : chk 82 (bX9_play pc) pc = true := by
  unfold bX9_play; split
  · decide +kernel
  · decide +kernel
  · decide +kernel
  · decide +kernel
  · decide +kernel
  · decide +kernel
  · decide +kernel
  · decide +kernel
  · rfl
def bX9_winningIn : Nat → List Ins := fun pc => match pc with
  | 0 => [(.iconst 0, 0, 0, 0, 0), (.istore_n 2, 0, 0, 0, 0)]
  | 2 => [(.iload_n 2, 0, 0, 0, 0), (.bipush 14, 0, 0, 0, 14), (.if_icmp .ge 51, 56, 0, 0, 0), (.iconst 1, 0, 0, 0, 1), (.iload_n 2, 0, 0, 0, 0), (.ishl, 0, 0, 0, 0), (.iload_n 1, 0, 0, 0, 0), (.iand, 0, 0, 0, 0), (.istore_n 3, 0, 0, 0, 0), (.iload_n 3, 0, 0, 0, 0), (.ifCond .eq 35, 50, 0, 0, 0), (.aload_n 0, 0, 0, 0, 0), (.getfield 12, 9, 2, 0, 0), (.iload_n 1, 0, 0, 0, 0), (.iload_n 3, 0, 0, 0, 0), (.iconst (-1), 0, 0, 0, (-1)), (.ixor, 0, 0, 0, 0), (.iand, 0, 0, 0, 0), (.invokevirtual 106, 63, 1, 7, 0), (.ifCond .eq 20, 50, 0, 0, 0), (.aload_n 0, 0, 0, 0, 0), (.getfield 18, 9, 3, 0, 0), (.iload_n 1, 0, 0, 0, 0), (.iload_n 3, 0, 0, 0, 0), (.iconst (-1), 0, 0, 0, (-1)), (.ixor, 0, 0, 0, 0), (.iand, 0, 0, 0, 0), (.invokevirtual 106, 63, 1, 7, 0), (.ifCond .ne 5, 50, 0, 0, 0), (.iload_n 2, 0, 0, 0, 0), (.ireturn, 0, 0, 0, 0)]
  | 50 => [(.iinc 2 1, 0, 0, 0, 1), (.goto (-51), 2, 0, 0, 0)]
  | 56 => [(.iconst (-1), 0, 0, 0, (-1)), (.ireturn, 0, 0, 0, 0)]
  | _ => []
theorem kX9_winningIn (pc : Nat) : chk 83 (bX9_winningIn pc) pc = true := by
  unfold bX9_winningIn; split
  · decide +kernel
  · decide +kernel
  · decide +kernel
  · decide +kernel
  · rfl
def bX10_becomeAs : Nat → List Ins := fun pc => match pc with
  | 0 => [(.iconst 0, 0, 0, 0, 0), (.istore_n 2, 0, 0, 0, 0)]
  | 2 => [(.iload_n 2, 0, 0, 0, 0), (.sipush 154, 0, 0, 0, 154), (.if_icmp .ge 21, 27, 0, 0, 0), (.aload_n 0, 0, 0, 0, 0), (.getfield 9, 10, 0, 0, 0), (.iload_n 2, 0, 0, 0, 0), (.aload_n 1, 0, 0, 0, 0), (.getfield 9, 10, 0, 0, 0), (.iload_n 2, 0, 0, 0, 0), (.iaload, 0, 0, 0, 0), (.iastore, 0, 0, 0, 0), (.iinc 2 1, 0, 0, 0, 1), (.goto (-22), 2, 0, 0, 0)]
  | 27 => [(.iconst 0, 0, 0, 0, 0), (.istore_n 2, 0, 0, 0, 0)]
  | 29 => [(.iload_n 2, 0, 0, 0, 0), (.iconst 3, 0, 0, 0, 3), (.if_icmp .ge 21, 52, 0, 0, 0), (.aload_n 0, 0, 0, 0, 0), (.getfield 15, 10, 1, 0, 0), (.iload_n 2, 0, 0, 0, 0), (.aload_n 1, 0, 0, 0, 0), (.getfield 15, 10, 1, 0, 0), (.iload_n 2, 0, 0, 0, 0), (.iaload, 0, 0, 0, 0), (.iastore, 0, 0, 0, 0), (.iinc 2 1, 0, 0, 0, 1), (.goto (-20), 29, 0, 0, 0)]
  | 52 => [(.iconst 0, 0, 0, 0, 0), (.istore_n 2, 0, 0, 0, 0)]
  | 54 => [(.iload_n 2, 0, 0, 0, 0), (.bipush 6, 0, 0, 0, 6), (.if_icmp .ge 21, 78, 0, 0, 0), (.aload_n 0, 0, 0, 0, 0), (.getfield 20, 10, 2, 0, 0), (.iload_n 2, 0, 0, 0, 0), (.aload_n 1, 0, 0, 0, 0), (.getfield 20, 10, 2, 0, 0), (.iload_n 2, 0, 0, 0, 0), (.aaload, 0, 0, 0, 0), (.aastore, 0, 0, 0, 0), (.iinc 2 1, 0, 0, 0, 1), (.goto (-21), 54, 0, 0, 0)]
  | 78 => [(.aload_n 0, 0, 0, 0, 0), (.aload_n 1, 0, 0, 0, 0), (.getfield 28, 10, 3, 0, 0), (.putfield 28, 10, 3, 0, 0), (.aload_n 0, 0, 0, 0, 0), (.aload_n 1, 0, 0, 0, 0), (.getfield 31, 10, 4, 0, 0), (.putfield 31, 10, 4, 0, 0), (.aload_n 0, 0, 0, 0, 0), (.aload_n 1, 0, 0, 0, 0), (.getfield 34, 10, 5, 0, 0), (.putfield 34, 10, 5, 0, 0), (.aload_n 0, 0, 0, 0, 0), (.aload_n 1, 0, 0, 0, 0), (.getfield 37, 10, 6, 0, 0), (.putfield 37, 10, 6, 0, 0), (.aload_n 0, 0, 0, 0, 0), (.aload_n 1, 0, 0, 0, 0), (.getfield 24, 10, 7, 0, 0), (.putfield 24, 10, 7, 0, 0), (.return_, 0, 0, 0, 0)]
  | _ => []
theorem kX10_becomeAs (pc : Nat) : chk 85 (bX10_becomeAs pc) pc = true := by
  unfold bX10_becomeAs; split
  · decide +kernel
  · decide +kernel
  · decide +kernel
  · decide +kernel
  · decide +kernel
  · decide +kernel
  · decide +kernel
  · rfl
def bX10_addStone : Nat → List Ins := fun pc => match pc with
  | 0 => [(.aload_n 0, 0, 0, 0, 0), (.getfield 28, 10, 3, 0, 0), (.istore 6, 0, 0, 0, 0), (.aload_n 0, 0, 0, 0, 0), (.dup, 0, 0, 0, 0), (.getfield 28, 10, 3, 0, 0), (.iconst 1, 0, 0, 0, 1), (.iadd, 0, 0, 0, 0), (.putfield 28, 10, 3, 0, 0), (.aload_n 0, 0, 0, 0, 0), (.dup, 0, 0, 0, 0), (.getfield 34, 10, 5, 0, 0), (.iconst 1, 0, 0, 0, 1), (.iload 6, 0, 0, 0, 0), (.ishl, 0, 0, 0, 0), (.ior, 0, 0, 0, 0), (.putfield 34, 10, 5, 0, 0), (.aload_n 0, 0, 0, 0, 0), (.iload 6, 0, 0, 0, 0), (.iload_n 1, 0, 0, 0, 0), (.iload_n 2, 0, 0, 0, 0), (.iload_n 3, 0, 0, 0, 0), (.iload 4, 0, 0, 0, 0), (.iload 5, 0, 0, 0, 0), (.invokevirtual 40, 88, 6, 10, 0), (.iload 6, 0, 0, 0, 0), (.ireturn, 0, 0, 0, 0)]
  | _ => []
theorem kX10_addStone (pc : Nat) : chk 86 (bX10_addStone pc) pc = true := by
  unfold bX10_addStone; split
  · decide +kernel
  · rfl
def bX10_addSpare : Nat → List Ins := fun pc => match pc with
  | 0 => [(.aload_n 0, 0, 0, 0, 0), (.getfield 31, 10, 4, 0, 0), (.istore 6, 0, 0, 0, 0), (.aload_n 0, 0, 0, 0, 0), (.dup, 0, 0, 0, 0), (.getfield 31, 10, 4, 0, 0), (.iconst 1, 0, 0, 0, 1), (.iadd, 0, 0, 0, 0), (.putfield 31, 10, 4, 0, 0), (.aload_n 0, 0, 0, 0, 0), (.bipush 14, 0, 0, 0, 14), (.iload 6, 0, 0, 0, 0), (.iadd, 0, 0, 0, 0), (.iload_n 1, 0, 0, 0, 0), (.iload_n 2, 0, 0, 0, 0), (.iload_n 3, 0, 0, 0, 0), (.iload 4, 0, 0, 0, 0), (.iload 5, 0, 0, 0, 0), (.invokevirtual 40, 88, 6, 10, 0), (.iload 6, 0, 0, 0, 0), (.ireturn, 0, 0, 0, 0)]
  | _ => []
theorem kX10_addSpare (pc : Nat) : chk 87 (bX10_addSpare pc) pc = true := by
  unfold bX10_addSpare; split
  · decide +kernel
  · rfl
def bX10_lay : Nat → List Ins := fun pc => match pc with
  | 0 => [(.aload_n 0, 0, 0, 0, 0), (.iload_n 1, 0, 0, 0, 0), (.iconst 0, 0, 0, 0, 0), (.iload_n 2, 0, 0, 0, 0), (.invokevirtual 44, 89, 3, 10, 0), (.pop, 0, 0, 0, 0), (.aload_n 0, 0, 0, 0, 0), (.iload_n 1, 0, 0, 0, 0), (.iconst 1, 0, 0, 0, 1), (.iload_n 3, 0, 0, 0, 0), (.invokevirtual 44, 89, 3, 10, 0), (.pop, 0, 0, 0, 0), (.aload_n 0, 0, 0, 0, 0), (.iload_n 1, 0, 0, 0, 0), (.iconst 2, 0, 0, 0, 2), (.iload 4, 0, 0, 0, 0), (.invokevirtual 44, 89, 3, 10, 0), (.pop, 0, 0, 0, 0), (.aload_n 0, 0, 0, 0, 0), (.iload_n 1, 0, 0, 0, 0), (.iconst 3, 0, 0, 0, 3), (.iload 5, 0, 0, 0, 0), (.invokevirtual 44, 89, 3, 10, 0), (.pop, 0, 0, 0, 0), (.aload_n 0, 0, 0, 0, 0), (.iload_n 1, 0, 0, 0, 0), (.iconst 4, 0, 0, 0, 4), (.iload 6, 0, 0, 0, 0), (.invokevirtual 44, 89, 3, 10, 0), (.pop, 0, 0, 0, 0), (.aload_n 0, 0, 0, 0, 0), (.iload_n 1, 0, 0, 0, 0), (.iconst 5, 0, 0, 0, 5), (.iconst 0, 0, 0, 0, 0), (.invokevirtual 44, 89, 3, 10, 0), (.pop, 0, 0, 0, 0), (.aload_n 0, 0, 0, 0, 0), (.iload_n 1, 0, 0, 0, 0), (.bipush 6, 0, 0, 0, 6), (.iconst 0, 0, 0, 0, 0), (.invokevirtual 44, 89, 3, 10, 0), (.pop, 0, 0, 0, 0), (.return_, 0, 0, 0, 0)]
  | _ => []
theorem kX10_lay (pc : Nat) : chk 88 (bX10_lay pc) pc = true := by
  unfold bX10_lay; split
  · decide +kernel
  · rfl
def bX10_change : Nat → List Ins := fun pc => match pc with
  | 0 => [(.iload_n 1, 0, 0, 0, 0), (.iconst 0, 0, 0, 0, 0), (.bipush 21, 0, 0, 0, 21), (.invokestatic 48, 142, 3, 0, 0), (.ifCond .eq 13, 20, 0, 0, 0), (.iload_n 2, 0, 0, 0, 0), (.iconst 0, 0, 0, 0, 0), (.bipush 6, 0, 0, 0, 6), (.invokestatic 48, 142, 3, 0, 0), (.ifCond .ne 5, 22, 0, 0, 0)]
  | 20 => [(.iconst (-1), 0, 0, 0, (-1)), (.ireturn, 0, 0, 0, 0)]
  | 22 => [(.aload_n 0, 0, 0, 0, 0), (.getfield 9, 10, 0, 0, 0), (.iload_n 1, 0, 0, 0, 0), (.bipush 7, 0, 0, 0, 7), (.imul, 0, 0, 0, 0), (.iload_n 2, 0, 0, 0, 0), (.iadd, 0, 0, 0, 0), (.iaload, 0, 0, 0, 0), (.istore 4, 0, 0, 0, 0), (.aload_n 0, 0, 0, 0, 0), (.getfield 9, 10, 0, 0, 0), (.iload_n 1, 0, 0, 0, 0), (.bipush 7, 0, 0, 0, 7), (.imul, 0, 0, 0, 0), (.iload_n 2, 0, 0, 0, 0), (.iadd, 0, 0, 0, 0), (.iload_n 3, 0, 0, 0, 0), (.iastore, 0, 0, 0, 0), (.iload 4, 0, 0, 0, 0), (.ireturn, 0, 0, 0, 0)]
  | _ => []
theorem kX10_change (pc : Nat) : chk 89 (bX10_change pc) pc = true := by
  unfold bX10_change; split
  · decide +kernel
  · decide +kernel
  · decide +kernel
  · rfl
def bX10_fact : Nat → List Ins := fun pc => match pc with
  | 0 => [(.iload_n 1, 0, 0, 0, 0), (.ifCond .lt 19, 20, 0, 0, 0), (.iload_n 1, 0, 0, 0, 0), (.bipush 22, 0, 0, 0, 22), (.if_icmp .ge 13, 20, 0, 0, 0), (.iload_n 2, 0, 0, 0, 0), (.ifCond .lt 9, 20, 0, 0, 0), (.iload_n 2, 0, 0, 0, 0), (.bipush 7, 0, 0, 0, 7), (.if_icmp .lt 5, 22, 0, 0, 0)]
  | 20 => [(.iconst (-1), 0, 0, 0, (-1)), (.ireturn, 0, 0, 0, 0)]
  | 22 => [(.aload_n 0, 0, 0, 0, 0), (.getfield 9, 10, 0, 0, 0), (.iload_n 1, 0, 0, 0, 0), (.bipush 7, 0, 0, 0, 7), (.imul, 0, 0, 0, 0), (.iload_n 2, 0, 0, 0, 0), (.iadd, 0, 0, 0, 0), (.iaload, 0, 0, 0, 0), (.ireturn, 0, 0, 0, 0)]
  | _ => []
theorem kX10_fact (pc : Nat) : chk 90 (bX10_fact pc) pc = true := by
  unfold bX10_fact; split
  · decide +kernel
  · decide +kernel
  · decide +kernel
  · rfl
def bX10_term : Nat → List Ins := fun pc => match pc with
  | 0 => [(.iload_n 1, 0, 0, 0, 0), (.iconst 0, 0, 0, 0, 0), (.iconst 2, 0, 0, 0, 2), (.invokestatic 48, 142, 3, 0, 0), (.ifCond .eq 12, 18, 0, 0, 0), (.aload_n 0, 0, 0, 0, 0), (.getfield 15, 10, 1, 0, 0), (.iload_n 1, 0, 0, 0, 0), (.iaload, 0, 0, 0, 0), (.goto 4, 19, 0, 0, 0)]
  | 18 => [(.iconst (-1), 0, 0, 0, (-1))]
  | 19 => [(.ireturn, 0, 0, 0, 0)]
  | _ => []
theorem kX10_term (pc : Nat) : chk 91 (bX10_term pc) pc = true := by
  unfold bX10_term; split
  · decide +kernel
  · decide +kernel
  · decide +kernel
  · rfl
def bX10_changeTerm : Nat → List Ins := fun pc => match pc with
  | 0 => [(.aload_n 0, 0, 0, 0, 0), (.iload_n 1, 0, 0, 0, 0), (.invokevirtual 52, 91, 1, 10, 0), (.istore_n 3, 0, 0, 0, 0), (.iload_n 1, 0, 0, 0, 0), (.iconst 0, 0, 0, 0, 0), (.iconst 2, 0, 0, 0, 2), (.invokestatic 48, 142, 3, 0, 0), (.ifCond .eq 10, 22, 0, 0, 0), (.aload_n 0, 0, 0, 0, 0), (.getfield 15, 10, 1, 0, 0), (.iload_n 1, 0, 0, 0, 0), (.iload_n 2, 0, 0, 0, 0), (.iastore, 0, 0, 0, 0)]
  | 22 => [(.iload_n 3, 0, 0, 0, 0), (.ireturn, 0, 0, 0, 0)]
  | _ => []
theorem kX10_changeTerm (pc : Nat) : chk 92 (bX10_changeTerm pc) pc = true := by
  unfold bX10_changeTerm; split
  · decide +kernel
  · decide +kernel
  · rfl
def bX10_addLaw : Nat → List Ins := fun pc => match pc with
  | 0 => [(.aload_n 0, 0, 0, 0, 0), (.getfield 37, 10, 6, 0, 0), (.istore_n 2, 0, 0, 0, 0), (.iload_n 2, 0, 0, 0, 0), (.iconst 0, 0, 0, 0, 0), (.iconst 5, 0, 0, 0, 5), (.invokestatic 48, 142, 3, 0, 0), (.ifCond .ne 5, 16, 0, 0, 0), (.iconst (-1), 0, 0, 0, (-1)), (.ireturn, 0, 0, 0, 0)]
  | 16 => [(.aload_n 0, 0, 0, 0, 0), (.getfield 20, 10, 2, 0, 0), (.iload_n 2, 0, 0, 0, 0), (.aload_n 1, 0, 0, 0, 0), (.aastore, 0, 0, 0, 0), (.aload_n 0, 0, 0, 0, 0), (.dup, 0, 0, 0, 0), (.getfield 37, 10, 6, 0, 0), (.iconst 1, 0, 0, 0, 1), (.iadd, 0, 0, 0, 0), (.putfield 37, 10, 6, 0, 0), (.iload_n 2, 0, 0, 0, 0), (.ireturn, 0, 0, 0, 0)]
  | _ => []
theorem kX10_addLaw (pc : Nat) : chk 93 (bX10_addLaw pc) pc = true := by
  unfold bX10_addLaw; split
  · decide +kernel
  · decide +kernel
  · rfl
def bX10_lawInForce : Nat → List Ins := fun pc => match pc with
  | 0 => [(.aload_n 0, 0, 0, 0, 0), (.getfield 24, 10, 7, 0, 0), (.iconst 0, 0, 0, 0, 0), (.iconst 5, 0, 0, 0, 5), (.invokestatic 48, 142, 3, 0, 0), (.ifCond .eq 15, 24, 0, 0, 0), (.aload_n 0, 0, 0, 0, 0), (.getfield 20, 10, 2, 0, 0), (.aload_n 0, 0, 0, 0, 0), (.getfield 24, 10, 7, 0, 0), (.aaload, 0, 0, 0, 0), (.goto 4, 25, 0, 0, 0)]
  | 24 => [(.aconst_null, 0, 0, 0, 0)]
  | 25 => [(.areturn, 0, 0, 0, 0)]
  | _ => []
theorem kX10_lawInForce (pc : Nat) : chk 94 (bX10_lawInForce pc) pc = true := by
  unfold bX10_lawInForce; split
  · decide +kernel
  · decide +kernel
  · decide +kernel
  · rfl
def bX10_isStone : Nat → List Ins := fun pc => match pc with
  | 0 => [(.iload_n 1, 0, 0, 0, 0), (.iconst 0, 0, 0, 0, 0), (.aload_n 0, 0, 0, 0, 0), (.getfield 28, 10, 3, 0, 0), (.iconst 1, 0, 0, 0, 1), (.isub, 0, 0, 0, 0), (.invokestatic 48, 142, 3, 0, 0), (.ireturn, 1, 0, 0, 0)]
  | _ => []
theorem kX10_isStone (pc : Nat) : chk 95 (bX10_isStone pc) pc = true := by
  unfold bX10_isStone; split
  · decide +kernel
  · rfl
def bX10_isPlace : Nat → List Ins := fun pc => match pc with
  | 0 => [(.aload_n 0, 0, 0, 0, 0), (.iload_n 1, 0, 0, 0, 0), (.invokevirtual 56, 95, 1, 10, 0), (.ifCond .ne 21, 26, 0, 0, 0), (.iload_n 1, 0, 0, 0, 0), (.bipush 14, 0, 0, 0, 14), (.bipush 14, 0, 0, 0, 14), (.aload_n 0, 0, 0, 0, 0), (.getfield 31, 10, 4, 0, 0), (.iadd, 0, 0, 0, 0), (.iconst 1, 0, 0, 0, 1), (.isub, 0, 0, 0, 0), (.invokestatic 48, 142, 3, 0, 0), (.ifCond .eq 7, 30, 0, 0, 0)]
  | 26 => [(.iconst 1, 0, 0, 0, 1), (.goto 4, 31, 0, 0, 0)]
  | 30 => [(.iconst 0, 0, 0, 0, 0)]
  | 31 => [(.ireturn, 1, 0, 0, 0)]
  | _ => []
theorem kX10_isPlace (pc : Nat) : chk 96 (bX10_isPlace pc) pc = true := by
  unfold bX10_isPlace; split
  · decide +kernel
  · decide +kernel
  · decide +kernel
  · decide +kernel
  · rfl
def bX10_allStones : Nat → List Ins := fun pc => match pc with
  | 0 => [(.iconst 1, 0, 0, 0, 1), (.aload_n 0, 0, 0, 0, 0), (.getfield 28, 10, 3, 0, 0), (.ishl, 0, 0, 0, 0), (.iconst 1, 0, 0, 0, 1), (.isub, 0, 0, 0, 0), (.ireturn, 0, 0, 0, 0)]
  | _ => []
theorem kX10_allStones (pc : Nat) : chk 97 (bX10_allStones pc) pc = true := by
  unfold bX10_allStones; split
  · decide +kernel
  · rfl
def bX10_covers : Nat → List Ins := fun pc => match pc with
  | 0 => [(.iload_n 2, 0, 0, 0, 0), (.aload_n 0, 0, 0, 0, 0), (.iload_n 1, 0, 0, 0, 0), (.iconst 0, 0, 0, 0, 0), (.invokevirtual 60, 90, 2, 10, 0), (.iload 4, 0, 0, 0, 0), (.isub, 0, 0, 0, 0), (.iconst 1, 0, 0, 0, 1), (.iadd, 0, 0, 0, 0), (.aload_n 0, 0, 0, 0, 0), (.iload_n 1, 0, 0, 0, 0), (.iconst 0, 0, 0, 0, 0), (.invokevirtual 60, 90, 2, 10, 0), (.aload_n 0, 0, 0, 0, 0), (.iload_n 1, 0, 0, 0, 0), (.iconst 2, 0, 0, 0, 2), (.invokevirtual 60, 90, 2, 10, 0), (.iadd, 0, 0, 0, 0), (.iconst 1, 0, 0, 0, 1), (.isub, 0, 0, 0, 0), (.invokestatic 48, 142, 3, 0, 0), (.ifCond .eq 40, 70, 0, 0, 0), (.iload_n 3, 0, 0, 0, 0), (.aload_n 0, 0, 0, 0, 0), (.iload_n 1, 0, 0, 0, 0), (.iconst 1, 0, 0, 0, 1), (.invokevirtual 60, 90, 2, 10, 0), (.iload 5, 0, 0, 0, 0), (.isub, 0, 0, 0, 0), (.iconst 1, 0, 0, 0, 1), (.iadd, 0, 0, 0, 0), (.aload_n 0, 0, 0, 0, 0), (.iload_n 1, 0, 0, 0, 0), (.iconst 1, 0, 0, 0, 1), (.invokevirtual 60, 90, 2, 10, 0), (.aload_n 0, 0, 0, 0, 0), (.iload_n 1, 0, 0, 0, 0), (.iconst 3, 0, 0, 0, 3), (.invokevirtual 60, 90, 2, 10, 0), (.iadd, 0, 0, 0, 0), (.iconst 1, 0, 0, 0, 1), (.isub, 0, 0, 0, 0), (.invokestatic 48, 142, 3, 0, 0), (.ifCond .eq 7, 70, 0, 0, 0), (.iconst 1, 0, 0, 0, 1), (.goto 4, 71, 0, 0, 0)]
  | 70 => [(.iconst 0, 0, 0, 0, 0)]
  | 71 => [(.ireturn, 1, 0, 0, 0)]
  | _ => []
theorem kX10_covers (pc : Nat) : chk 98 (bX10_covers pc) pc = true := by
  unfold bX10_covers; split
  · decide +kernel
  · decide +kernel
  · decide +kernel
  · rfl
def bX10_isTaken : Nat → List Ins := fun pc => match pc with
  | 0 => [(.iconst 0, 0, 0, 0, 0), (.istore 5, 0, 0, 0, 0)]
  | 3 => [(.iload 5, 0, 0, 0, 0), (.bipush 22, 0, 0, 0, 22), (.if_icmp .ge 34, 41, 0, 0, 0), (.aload_n 0, 0, 0, 0, 0), (.iload 5, 0, 0, 0, 0), (.invokevirtual 64, 96, 1, 10, 0), (.ifCond .eq 19, 35, 0, 0, 0), (.aload_n 0, 0, 0, 0, 0), (.iload 5, 0, 0, 0, 0), (.iload_n 1, 0, 0, 0, 0), (.iload_n 2, 0, 0, 0, 0), (.iload_n 3, 0, 0, 0, 0), (.iload 4, 0, 0, 0, 0), (.invokevirtual 67, 98, 5, 10, 0), (.ifCond .eq 5, 35, 0, 0, 0), (.iconst 1, 0, 0, 0, 1), (.ireturn, 1, 0, 0, 0)]
  | 35 => [(.iinc 5 1, 0, 0, 0, 1), (.goto (-35), 3, 0, 0, 0)]
  | 41 => [(.iconst 0, 0, 0, 0, 0), (.ireturn, 1, 0, 0, 0)]
  | _ => []
theorem kX10_isTaken (pc : Nat) : chk 99 (bX10_isTaken pc) pc = true := by
  unfold bX10_isTaken; split
  · decide +kernel
  · decide +kernel
  · decide +kernel
  · decide +kernel
  · rfl
def bX10_weightOf : Nat → List Ins := fun pc => match pc with
  | 0 => [(.iconst 0, 0, 0, 0, 0), (.istore_n 2, 0, 0, 0, 0), (.iconst 0, 0, 0, 0, 0), (.istore_n 3, 0, 0, 0, 0)]
  | 4 => [(.iload_n 3, 0, 0, 0, 0), (.bipush 14, 0, 0, 0, 14), (.if_icmp .ge 26, 33, 0, 0, 0), (.iload_n 1, 0, 0, 0, 0), (.iload_n 3, 0, 0, 0, 0), (.ishr, 0, 0, 0, 0), (.iconst 1, 0, 0, 0, 1), (.iand, 0, 0, 0, 0), (.ifCond .eq 12, 27, 0, 0, 0), (.iload_n 2, 0, 0, 0, 0), (.aload_n 0, 0, 0, 0, 0), (.iload_n 3, 0, 0, 0, 0), (.iconst 4, 0, 0, 0, 4), (.invokevirtual 60, 90, 2, 10, 0), (.iadd, 0, 0, 0, 0), (.istore_n 2, 0, 0, 0, 0)]
  | 27 => [(.iinc 3 1, 0, 0, 0, 1), (.goto (-26), 4, 0, 0, 0)]
  | 33 => [(.iload_n 2, 0, 0, 0, 0), (.ireturn, 0, 0, 0, 0)]
  | _ => []
theorem kX10_weightOf (pc : Nat) : chk 100 (bX10_weightOf pc) pc = true := by
  unfold bX10_weightOf; split
  · decide +kernel
  · decide +kernel
  · decide +kernel
  · decide +kernel
  · rfl
end
section
/-! the code of the methods, as lists (wip/gen/code.py) -/
def bX11_stone : Nat → List Ins := fun pc => match pc with
  | 0 => [(.aload_n 0, 0, 0, 0, 0), (.iload_n 1, 0, 0, 0, 0), (.iload_n 2, 0, 0, 0, 0), (.iload_n 3, 0, 0, 0, 0), (.iload 4, 0, 0, 0, 0), (.iload 5, 0, 0, 0, 0), (.aload_n 0, 0, 0, 0, 0), (.getfield 12, 11, 0, 0, 0), (.getfield 75, 10, 3, 0, 0), (.bipush 14, 0, 0, 0, 14), (.if_icmp .ge 7, 24, 0, 0, 0), (.iconst 1, 0, 0, 0, 1), (.goto 4, 25, 0, 0, 0)]
  | 24 => [(.iconst 0, 0, 0, 0, 0)]
  | 25 => [(.invokevirtual 78, 139, 6, 11, 0), (.istore 6, 0, 0, 0, 0), (.iload 6, 0, 0, 0, 0), (.ifCond .eq 10, 42, 0, 0, 0), (.aload_n 0, 0, 0, 0, 0), (.iload 6, 0, 0, 0, 0), (.invokevirtual 82, 137, 1, 11, 0), (.ireturn, 0, 0, 0, 0)]
  | 42 => [(.aload_n 0, 0, 0, 0, 0), (.iconst 1, 0, 0, 0, 1), (.putfield 71, 11, 12, 1, 0), (.aload_n 0, 0, 0, 0, 0), (.aload_n 0, 0, 0, 0, 0), (.getfield 12, 11, 0, 0, 0), (.iload_n 1, 0, 0, 0, 0), (.iload_n 2, 0, 0, 0, 0), (.iload_n 3, 0, 0, 0, 0), (.iload 4, 0, 0, 0, 0), (.iload 5, 0, 0, 0, 0), (.invokevirtual 86, 86, 5, 10, 0), (.invokevirtual 90, 138, 1, 11, 0), (.ireturn, 0, 0, 0, 0)]
  | _ => []
theorem kX11_stone (pc : Nat) : chk 102 (bX11_stone pc) pc = true := by
  unfold bX11_stone; split
  · decide +kernel
  · decide +kernel
  · decide +kernel
  · decide +kernel
  · rfl
def bX11_spare : Nat → List Ins := fun pc => match pc with
  | 0 => [(.aload_n 0, 0, 0, 0, 0), (.iload_n 1, 0, 0, 0, 0), (.iload_n 2, 0, 0, 0, 0), (.iload_n 3, 0, 0, 0, 0), (.iload 4, 0, 0, 0, 0), (.iload 5, 0, 0, 0, 0), (.aload_n 0, 0, 0, 0, 0), (.getfield 12, 11, 0, 0, 0), (.getfield 93, 10, 4, 0, 0), (.bipush 8, 0, 0, 0, 8), (.if_icmp .ge 7, 24, 0, 0, 0), (.iconst 1, 0, 0, 0, 1), (.goto 4, 25, 0, 0, 0)]
  | 24 => [(.iconst 0, 0, 0, 0, 0)]
  | 25 => [(.invokevirtual 78, 139, 6, 11, 0), (.istore 6, 0, 0, 0, 0), (.iload 6, 0, 0, 0, 0), (.ifCond .eq 10, 42, 0, 0, 0), (.aload_n 0, 0, 0, 0, 0), (.iload 6, 0, 0, 0, 0), (.invokevirtual 82, 137, 1, 11, 0), (.ireturn, 0, 0, 0, 0)]
  | 42 => [(.aload_n 0, 0, 0, 0, 0), (.iconst 1, 0, 0, 0, 1), (.putfield 71, 11, 12, 1, 0), (.aload_n 0, 0, 0, 0, 0), (.aload_n 0, 0, 0, 0, 0), (.getfield 12, 11, 0, 0, 0), (.iload_n 1, 0, 0, 0, 0), (.iload_n 2, 0, 0, 0, 0), (.iload_n 3, 0, 0, 0, 0), (.iload 4, 0, 0, 0, 0), (.iload 5, 0, 0, 0, 0), (.invokevirtual 96, 87, 5, 10, 0), (.invokevirtual 90, 138, 1, 11, 0), (.ireturn, 0, 0, 0, 0)]
  | _ => []
theorem kX11_spare (pc : Nat) : chk 103 (bX11_spare pc) pc = true := by
  unfold bX11_spare; split
  · decide +kernel
  · decide +kernel
  · decide +kernel
  · decide +kernel
  · rfl
def bX11_put : Nat → List Ins := fun pc => match pc with
  | 0 => [(.iload_n 2, 0, 0, 0, 0), (.ifCond .ne 13, 14, 0, 0, 0), (.iload_n 3, 0, 0, 0, 0), (.iconst 1, 0, 0, 0, 1), (.bipush 99, 0, 0, 0, 99), (.invokestatic 99, 142, 3, 0, 0), (.ifCond .ne 32, 43, 0, 0, 0)]
  | 14 => [(.iload_n 2, 0, 0, 0, 0), (.iconst 1, 0, 0, 0, 1), (.if_icmp .ne 12, 28, 0, 0, 0), (.iload_n 3, 0, 0, 0, 0), (.iconst 0, 0, 0, 0, 0), (.iconst 3, 0, 0, 0, 3), (.invokestatic 99, 142, 3, 0, 0), (.ifCond .ne 18, 43, 0, 0, 0)]
  | 28 => [(.iload_n 2, 0, 0, 0, 0), (.iconst 2, 0, 0, 0, 2), (.if_icmp .ne 17, 47, 0, 0, 0), (.iload_n 3, 0, 0, 0, 0), (.iconst 0, 0, 0, 0, 0), (.bipush 100, 0, 0, 0, 100), (.invokestatic 99, 142, 3, 0, 0), (.ifCond .eq 7, 47, 0, 0, 0)]
  | 43 => [(.iconst 1, 0, 0, 0, 1), (.goto 4, 48, 0, 0, 0)]
  | 47 => [(.iconst 0, 0, 0, 0, 0)]
  | 48 => [(.istore 4, 0, 0, 0, 0), (.iload 4, 0, 0, 0, 0), (.ifCond .ne 9, 61, 0, 0, 0), (.aload_n 0, 0, 0, 0, 0), (.iconst (-1), 0, 0, 0, (-1)), (.invokevirtual 82, 137, 1, 11, 0), (.ireturn, 0, 0, 0, 0)]
  | 61 => [(.aload_n 0, 0, 0, 0, 0), (.getfield 12, 11, 0, 0, 0), (.iload_n 1, 0, 0, 0, 0), (.invokevirtual 103, 95, 1, 10, 0), (.ifCond .ne 10, 79, 0, 0, 0), (.aload_n 0, 0, 0, 0, 0), (.bipush (-2), 0, 0, 0, (-2)), (.invokevirtual 82, 137, 1, 11, 0), (.ireturn, 0, 0, 0, 0)]
  | 79 => [(.aload_n 0, 0, 0, 0, 0), (.iconst 1, 0, 0, 0, 1), (.putfield 71, 11, 12, 1, 0), (.aload_n 0, 0, 0, 0, 0), (.aload_n 0, 0, 0, 0, 0), (.getfield 12, 11, 0, 0, 0), (.iload_n 1, 0, 0, 0, 0), (.iconst 4, 0, 0, 0, 4), (.iload_n 2, 0, 0, 0, 0), (.iadd, 0, 0, 0, 0), (.iload_n 3, 0, 0, 0, 0), (.invokevirtual 107, 89, 3, 10, 0), (.invokevirtual 90, 138, 1, 11, 0), (.ireturn, 0, 0, 0, 0)]
  | _ => []
theorem kX11_put (pc : Nat) : chk 104 (bX11_put pc) pc = true := by
  unfold bX11_put; split
  · decide +kernel
  · decide +kernel
  · decide +kernel
  · decide +kernel
  · decide +kernel
  · decide +kernel
  · decide +kernel
  · decide +kernel
  · rfl
def bX11_of : Nat → List Ins := fun pc => match pc with
  | 0 => [(.aload_n 0, 0, 0, 0, 0), (.getfield 12, 11, 0, 0, 0), (.iload_n 1, 0, 0, 0, 0), (.invokevirtual 103, 95, 1, 10, 0), (.ifCond .eq 13, 21, 0, 0, 0), (.iload_n 2, 0, 0, 0, 0), (.iconst 0, 0, 0, 0, 0), (.bipush 7, 0, 0, 0, 7), (.invokestatic 99, 142, 3, 0, 0), (.ifCond .ne 5, 23, 0, 0, 0)]
  | 21 => [(.iconst (-1), 0, 0, 0, (-1)), (.ireturn, 0, 0, 0, 0)]
  | 23 => [(.iload_n 2, 0, 0, 0, 0), (.bipush 7, 0, 0, 0, 7), (.if_icmp .ne 17, 43, 0, 0, 0), (.aload_n 0, 0, 0, 0, 0), (.getfield 12, 11, 0, 0, 0), (.getfield 111, 10, 5, 0, 0), (.iload_n 1, 0, 0, 0, 0), (.ishr, 0, 0, 0, 0), (.iconst 1, 0, 0, 0, 1), (.iand, 0, 0, 0, 0), (.goto 12, 52, 0, 0, 0)]
  | 43 => [(.aload_n 0, 0, 0, 0, 0), (.getfield 12, 11, 0, 0, 0), (.iload_n 1, 0, 0, 0, 0), (.iload_n 2, 0, 0, 0, 0), (.invokevirtual 114, 90, 2, 10, 0)]
  | 52 => [(.ireturn, 0, 0, 0, 0)]
  | _ => []
theorem kX11_of (pc : Nat) : chk 105 (bX11_of pc) pc = true := by
  unfold bX11_of; split
  · decide +kernel
  · decide +kernel
  · decide +kernel
  · decide +kernel
  · decide +kernel
  · rfl
def bX11_terms : Nat → List Ins := fun pc => match pc with
  | 0 => [(.iload_n 1, 0, 0, 0, 0), (.iconst 0, 0, 0, 0, 0), (.iconst 2, 0, 0, 0, 2), (.invokestatic 99, 142, 3, 0, 0), (.ifCond .eq 22, 28, 0, 0, 0), (.iload_n 2, 0, 0, 0, 0), (.iconst 0, 0, 0, 0, 0), (.iload_n 1, 0, 0, 0, 0), (.ifCond .ne 8, 20, 0, 0, 0), (.bipush 12, 0, 0, 0, 12), (.goto 5, 22, 0, 0, 0)]
  | 20 => [(.bipush 9, 0, 0, 0, 9)]
  | 22 => [(.invokestatic 99, 142, 3, 0, 0), (.ifCond .ne 9, 34, 0, 0, 0)]
  | 28 => [(.aload_n 0, 0, 0, 0, 0), (.iconst (-1), 0, 0, 0, (-1)), (.invokevirtual 82, 137, 1, 11, 0), (.ireturn, 0, 0, 0, 0)]
  | 34 => [(.aload_n 0, 0, 0, 0, 0), (.iconst 1, 0, 0, 0, 1), (.putfield 71, 11, 12, 1, 0), (.aload_n 0, 0, 0, 0, 0), (.aload_n 0, 0, 0, 0, 0), (.getfield 12, 11, 0, 0, 0), (.iload_n 1, 0, 0, 0, 0), (.iload_n 2, 0, 0, 0, 0), (.invokevirtual 118, 92, 2, 10, 0), (.invokevirtual 90, 138, 1, 11, 0), (.ireturn, 0, 0, 0, 0)]
  | _ => []
theorem kX11_terms (pc : Nat) : chk 106 (bX11_terms pc) pc = true := by
  unfold bX11_terms; split
  · decide +kernel
  · decide +kernel
  · decide +kernel
  · decide +kernel
  · decide +kernel
  · rfl
def bX11_feed : Nat → List Ins := fun pc => match pc with
  | 0 => [(.aload_n 0, 0, 0, 0, 0), (.getfield 27, 11, 3, 0, 0), (.getfield 121, 8, 1, 0, 0), (.bipush 20, 0, 0, 0, 20), (.iadd, 0, 0, 0, 0), (.sipush 400, 0, 0, 0, 400), (.if_icmp .le 5, 18, 0, 0, 0), (.iconst (-1), 0, 0, 0, (-1)), (.ireturn, 0, 0, 0, 0)]
  | 18 => [(.aload_n 0, 0, 0, 0, 0), (.getfield 27, 11, 3, 0, 0), (.iload_n 1, 0, 0, 0, 0), (.invokevirtual 124, 67, 1, 8, 0), (.aload_n 0, 0, 0, 0, 0), (.getfield 27, 11, 3, 0, 0), (.iload_n 2, 0, 0, 0, 0), (.invokevirtual 124, 67, 1, 8, 0), (.aload_n 0, 0, 0, 0, 0), (.getfield 27, 11, 3, 0, 0), (.iload_n 3, 0, 0, 0, 0), (.invokevirtual 124, 67, 1, 8, 0), (.aload_n 0, 0, 0, 0, 0), (.getfield 27, 11, 3, 0, 0), (.iload 4, 0, 0, 0, 0), (.invokevirtual 124, 67, 1, 8, 0), (.aload_n 0, 0, 0, 0, 0), (.getfield 27, 11, 3, 0, 0), (.iload 5, 0, 0, 0, 0), (.invokevirtual 124, 67, 1, 8, 0), (.aload_n 0, 0, 0, 0, 0), (.getfield 27, 11, 3, 0, 0), (.getfield 121, 8, 1, 0, 0), (.ireturn, 0, 0, 0, 0)]
  | _ => []
theorem kX11_feed (pc : Nat) : chk 107 (bX11_feed pc) pc = true := by
  unfold bX11_feed; split
  · decide +kernel
  · decide +kernel
  · rfl
def bX11_end : Nat → List Ins := fun pc => match pc with
  | 0 => [(.iload_n 1, 0, 0, 0, 0), (.iconst 0, 0, 0, 0, 0), (.aload_n 0, 0, 0, 0, 0), (.getfield 27, 11, 3, 0, 0), (.getfield 121, 8, 1, 0, 0), (.invokestatic 99, 142, 3, 0, 0), (.ifCond .ne 5, 17, 0, 0, 0), (.iconst (-1), 0, 0, 0, (-1)), (.ireturn, 0, 0, 0, 0)]
  | 17 => [(.aload_n 0, 0, 0, 0, 0), (.getfield 27, 11, 3, 0, 0), (.iload_n 1, 0, 0, 0, 0), (.putfield 121, 8, 1, 0, 0), (.iload_n 1, 0, 0, 0, 0), (.ireturn, 0, 0, 0, 0)]
  | _ => []
theorem kX11_end (pc : Nat) : chk 108 (bX11_end pc) pc = true := by
  unfold bX11_end; split
  · decide +kernel
  · decide +kernel
  · rfl
def bX11_row : Nat → List Ins := fun pc => match pc with
  | 0 => [(.aload_n 0, 0, 0, 0, 0), (.getfield 27, 11, 3, 0, 0), (.getfield 121, 8, 1, 0, 0), (.ifCond .ne 10, 17, 0, 0, 0), (.aload_n 0, 0, 0, 0, 0), (.bipush (-6), 0, 0, 0, (-6)), (.invokevirtual 82, 137, 1, 11, 0), (.ireturn, 0, 0, 0, 0)]
  | 17 => [(.iconst 0, 0, 0, 0, 0), (.istore_n 1, 0, 0, 0, 0), (.aload_n 0, 0, 0, 0, 0), (.iconst 0, 0, 0, 0, 0), (.putfield 128, 11, 11, 0, 0), (.iconst 0, 0, 0, 0, 0), (.istore_n 2, 0, 0, 0, 0)]
  | 26 => [(.iload_n 2, 0, 0, 0, 0), (.aload_n 0, 0, 0, 0, 0), (.getfield 27, 11, 3, 0, 0), (.getfield 121, 8, 1, 0, 0), (.if_icmp .ge 33, 67, 0, 0, 0), (.aload_n 0, 0, 0, 0, 0), (.iload_n 2, 0, 0, 0, 0), (.invokevirtual 131, 140, 1, 11, 0), (.ifCond .eq 9, 51, 0, 0, 0), (.iinc 1 1, 0, 0, 0, 1), (.goto 13, 61, 0, 0, 0)]
  | 51 => [(.aload_n 0, 0, 0, 0, 0), (.dup, 0, 0, 0, 0), (.getfield 128, 11, 11, 0, 0), (.iconst 1, 0, 0, 0, 1), (.iadd, 0, 0, 0, 0), (.putfield 128, 11, 11, 0, 0)]
  | 61 => [(.iinc 2 5, 0, 0, 0, 5), (.goto (-38), 26, 0, 0, 0)]
  | 67 => [(.aload_n 0, 0, 0, 0, 0), (.getfield 27, 11, 3, 0, 0), (.iconst 0, 0, 0, 0, 0), (.putfield 121, 8, 1, 0, 0), (.aload_n 0, 0, 0, 0, 0), (.iconst 1, 0, 0, 0, 1), (.putfield 71, 11, 12, 1, 0), (.aload_n 0, 0, 0, 0, 0), (.iload_n 1, 0, 0, 0, 0), (.invokevirtual 90, 138, 1, 11, 0), (.ireturn, 0, 0, 0, 0)]
  | _ => []
theorem kX11_row (pc : Nat) : chk 109 (bX11_row pc) pc = true := by
  unfold bX11_row; split
  · decide +kernel
  · decide +kernel
  · decide +kernel
  · decide +kernel
  · decide +kernel
  · decide +kernel
  · rfl
def bX11_rubble : Nat → List Ins := fun pc => match pc with
  | 0 => [(.aload_n 0, 0, 0, 0, 0), (.getfield 128, 11, 11, 0, 0), (.ireturn, 0, 0, 0, 0)]
  | _ => []
theorem kX11_rubble (pc : Nat) : chk 110 (bX11_rubble pc) pc = true := by
  unfold bX11_rubble; split
  · decide +kernel
  · rfl
def bX11_law : Nat → List Ins := fun pc => match pc with
  | 0 => [(.aload_n 0, 0, 0, 0, 0), (.getfield 27, 11, 3, 0, 0), (.getfield 121, 8, 1, 0, 0), (.istore_n 1, 0, 0, 0, 0), (.aload_n 0, 0, 0, 0, 0), (.getfield 27, 11, 3, 0, 0), (.iconst 0, 0, 0, 0, 0), (.putfield 121, 8, 1, 0, 0), (.aload_n 0, 0, 0, 0, 0), (.getfield 12, 11, 0, 0, 0), (.getfield 134, 10, 6, 0, 0), (.bipush 6, 0, 0, 0, 6), (.if_icmp .lt 10, 35, 0, 0, 0), (.aload_n 0, 0, 0, 0, 0), (.bipush (-5), 0, 0, 0, (-5)), (.invokevirtual 82, 137, 1, 11, 0), (.ireturn, 0, 0, 0, 0)]
  | 35 => [(.aload_n 0, 0, 0, 0, 0), (.getfield 36, 11, 4, 0, 0), (.iload_n 1, 0, 0, 0, 0), (.invokevirtual 137, 36, 1, 5, 0), (.astore_n 2, 0, 0, 0, 0), (.aload_n 0, 0, 0, 0, 0), (.aload_n 0, 0, 0, 0, 0), (.getfield 36, 11, 4, 0, 0), (.getfield 141, 5, 9, 0, 0), (.putfield 67, 11, 10, 0, 0), (.aload_n 2, 0, 0, 0, 0), (.ifnonnull 10, 66, 0, 0, 0), (.aload_n 0, 0, 0, 0, 0), (.bipush (-6), 0, 0, 0, (-6)), (.invokevirtual 82, 137, 1, 11, 0), (.ireturn, 0, 0, 0, 0)]
  | 66 => [(.aload_n 0, 0, 0, 0, 0), (.aload_n 0, 0, 0, 0, 0), (.getfield 12, 11, 0, 0, 0), (.aload_n 2, 0, 0, 0, 0), (.invokevirtual 144, 93, 1, 10, 0), (.invokevirtual 90, 138, 1, 11, 0), (.ireturn, 0, 0, 0, 0)]
  | _ => []
theorem kX11_law (pc : Nat) : chk 111 (bX11_law pc) pc = true := by
  unfold bX11_law; split
  · decide +kernel
  · decide +kernel
  · decide +kernel
  · rfl
def bX11_fault : Nat → List Ins := fun pc => match pc with
  | 0 => [(.aload_n 0, 0, 0, 0, 0), (.getfield 67, 11, 10, 0, 0), (.ireturn, 0, 0, 0, 0)]
  | _ => []
theorem kX11_fault (pc : Nat) : chk 112 (bX11_fault pc) pc = true := by
  unfold bX11_fault; split
  · decide +kernel
  · rfl
def bX11_force : Nat → List Ins := fun pc => match pc with
  | 0 => [(.iload_n 1, 0, 0, 0, 0), (.iconst (-1), 0, 0, 0, (-1)), (.if_icmp .eq 27, 29, 0, 0, 0), (.iload_n 1, 0, 0, 0, 0), (.iconst 0, 0, 0, 0, 0), (.aload_n 0, 0, 0, 0, 0), (.getfield 12, 11, 0, 0, 0), (.getfield 134, 10, 6, 0, 0), (.iconst 1, 0, 0, 0, 1), (.isub, 0, 0, 0, 0), (.invokestatic 99, 142, 3, 0, 0), (.ifCond .ne 10, 29, 0, 0, 0), (.aload_n 0, 0, 0, 0, 0), (.bipush (-2), 0, 0, 0, (-2)), (.invokevirtual 82, 137, 1, 11, 0), (.ireturn, 0, 0, 0, 0)]
  | 29 => [(.aload_n 0, 0, 0, 0, 0), (.getfield 12, 11, 0, 0, 0), (.getfield 148, 10, 7, 0, 0), (.istore_n 2, 0, 0, 0, 0), (.aload_n 0, 0, 0, 0, 0), (.getfield 12, 11, 0, 0, 0), (.iload_n 1, 0, 0, 0, 0), (.putfield 148, 10, 7, 0, 0), (.aload_n 0, 0, 0, 0, 0), (.iconst 1, 0, 0, 0, 1), (.putfield 71, 11, 12, 1, 0), (.aload_n 0, 0, 0, 0, 0), (.iload_n 2, 0, 0, 0, 0), (.invokevirtual 90, 138, 1, 11, 0), (.ireturn, 0, 0, 0, 0)]
  | _ => []
theorem kX11_force (pc : Nat) : chk 113 (bX11_force pc) pc = true := by
  unfold bX11_force; split
  · decide +kernel
  · decide +kernel
  · rfl
def bX11_at : Nat → List Ins := fun pc => match pc with
  | 0 => [(.iconst 0, 0, 0, 0, 0), (.istore_n 3, 0, 0, 0, 0)]
  | 2 => [(.iload_n 3, 0, 0, 0, 0), (.aload_n 0, 0, 0, 0, 0), (.getfield 12, 11, 0, 0, 0), (.getfield 75, 10, 3, 0, 0), (.if_icmp .ge 40, 50, 0, 0, 0), (.aload_n 0, 0, 0, 0, 0), (.getfield 12, 11, 0, 0, 0), (.getfield 111, 10, 5, 0, 0), (.iload_n 3, 0, 0, 0, 0), (.ishr, 0, 0, 0, 0), (.iconst 1, 0, 0, 0, 1), (.iand, 0, 0, 0, 0), (.ifCond .eq 20, 44, 0, 0, 0), (.aload_n 0, 0, 0, 0, 0), (.getfield 12, 11, 0, 0, 0), (.iload_n 3, 0, 0, 0, 0), (.iload_n 1, 0, 0, 0, 0), (.iload_n 2, 0, 0, 0, 0), (.iconst 1, 0, 0, 0, 1), (.iconst 1, 0, 0, 0, 1), (.invokevirtual 151, 98, 5, 10, 0), (.ifCond .eq 5, 44, 0, 0, 0), (.iload_n 3, 0, 0, 0, 0), (.ireturn, 0, 0, 0, 0)]
  | 44 => [(.iinc 3 1, 0, 0, 0, 1), (.goto (-45), 2, 0, 0, 0)]
  | 50 => [(.iconst (-1), 0, 0, 0, (-1)), (.ireturn, 0, 0, 0, 0)]
  | _ => []
theorem kX11_at (pc : Nat) : chk 114 (bX11_at pc) pc = true := by
  unfold bX11_at; split
  · decide +kernel
  · decide +kernel
  · decide +kernel
  · decide +kernel
  · rfl
def bX11_touches : Nat → List Ins := fun pc => match pc with
  | 0 => [(.aload_n 0, 0, 0, 0, 0), (.getfield 12, 11, 0, 0, 0), (.iload_n 1, 0, 0, 0, 0), (.invokevirtual 103, 95, 1, 10, 0), (.ifCond .ne 5, 13, 0, 0, 0), (.iconst (-1), 0, 0, 0, (-1)), (.ireturn, 0, 0, 0, 0)]
  | 13 => [(.aload_n 0, 0, 0, 0, 0), (.invokevirtual 155, 141, 0, 11, 0), (.iload_n 2, 0, 0, 0, 0), (.tableswitch 107 0 3 #[30, 39, 73, 90], 125, 0, 0, 0)]
  | 48 => [(.aload_n 0, 0, 0, 0, 0), (.getfield 43, 11, 5, 0, 0), (.iload_n 1, 0, 0, 0, 0), (.invokevirtual 158, 16, 1, 2, 0), (.ireturn, 0, 0, 0, 0)]
  | 57 => [(.aload_n 0, 0, 0, 0, 0), (.getfield 12, 11, 0, 0, 0), (.getfield 111, 10, 5, 0, 0), (.iload_n 1, 0, 0, 0, 0), (.ishr, 0, 0, 0, 0), (.iconst 1, 0, 0, 0, 1), (.iand, 0, 0, 0, 0), (.ifCond .ne 7, 75, 0, 0, 0), (.iconst (-1), 0, 0, 0, (-1)), (.goto 18, 90, 0, 0, 0)]
  | 75 => [(.aload_n 0, 0, 0, 0, 0), (.getfield 43, 11, 5, 0, 0), (.iload_n 1, 0, 0, 0, 0), (.aload_n 0, 0, 0, 0, 0), (.getfield 12, 11, 0, 0, 0), (.getfield 111, 10, 5, 0, 0), (.invokevirtual 161, 19, 2, 2, 0)]
  | 90 => [(.ireturn, 0, 0, 0, 0)]
  | 91 => [(.aload_n 0, 0, 0, 0, 0), (.getfield 43, 11, 5, 0, 0), (.iload_n 1, 0, 0, 0, 0), (.invokevirtual 164, 18, 1, 2, 0), (.ifCond .eq 7, 106, 0, 0, 0), (.iconst 1, 0, 0, 0, 1), (.goto 4, 107, 0, 0, 0)]
  | 106 => [(.iconst 0, 0, 0, 0, 0)]
  | 107 => [(.ireturn, 0, 0, 0, 0)]
  | 108 => [(.aload_n 0, 0, 0, 0, 0), (.getfield 43, 11, 5, 0, 0), (.iload_n 1, 0, 0, 0, 0), (.invokevirtual 167, 17, 1, 2, 0), (.aload_n 0, 0, 0, 0, 0), (.getfield 12, 11, 0, 0, 0), (.getfield 111, 10, 5, 0, 0), (.iand, 0, 0, 0, 0), (.ireturn, 0, 0, 0, 0)]
  | 125 => [(.iconst (-1), 0, 0, 0, (-1)), (.ireturn, 0, 0, 0, 0)]
  | _ => []
theorem kX11_touches (pc : Nat) : chk 115 (bX11_touches pc) pc = true := by
  unfold bX11_touches; split
  · decide +kernel
  · decide +kernel
  · decide +kernel
  · decide +kernel
  · decide +kernel
  · decide +kernel
  · decide +kernel
  · decide +kernel
  · decide +kernel
  · decide +kernel
  · decide +kernel
  · rfl
def bX11_unlawful : Nat → List Ins := fun pc => match pc with
  | 0 => [(.aload_n 0, 0, 0, 0, 0), (.invokevirtual 155, 141, 0, 11, 0), (.aload_n 0, 0, 0, 0, 0), (.getfield 43, 11, 5, 0, 0), (.aload_n 0, 0, 0, 0, 0), (.getfield 12, 11, 0, 0, 0), (.getfield 111, 10, 5, 0, 0), (.invokevirtual 170, 21, 1, 2, 0), (.istore_n 1, 0, 0, 0, 0), (.iconst 0, 0, 0, 0, 0), (.istore_n 2, 0, 0, 0, 0)]
  | 21 => [(.iload_n 2, 0, 0, 0, 0), (.bipush 14, 0, 0, 0, 14), (.if_icmp .ge 19, 43, 0, 0, 0), (.iload_n 1, 0, 0, 0, 0), (.iload_n 2, 0, 0, 0, 0), (.ishr, 0, 0, 0, 0), (.iconst 1, 0, 0, 0, 1), (.iand, 0, 0, 0, 0), (.ifCond .eq 5, 37, 0, 0, 0), (.iload_n 2, 0, 0, 0, 0), (.ireturn, 0, 0, 0, 0)]
  | 37 => [(.iinc 2 1, 0, 0, 0, 1), (.goto (-19), 21, 0, 0, 0)]
  | 43 => [(.iconst (-1), 0, 0, 0, (-1)), (.ireturn, 0, 0, 0, 0)]
  | _ => []
theorem kX11_unlawful (pc : Nat) : chk 116 (bX11_unlawful pc) pc = true := by
  unfold bX11_unlawful; split
  · decide +kernel
  · decide +kernel
  · decide +kernel
  · decide +kernel
  · rfl
def bX11_there : Nat → List Ins := fun pc => match pc with
  | 0 => [(.aload_n 0, 0, 0, 0, 0), (.getfield 12, 11, 0, 0, 0), (.getfield 111, 10, 5, 0, 0), (.ireturn, 0, 0, 0, 0)]
  | _ => []
theorem kX11_there (pc : Nat) : chk 117 (bX11_there pc) pc = true := by
  unfold bX11_there; split
  · decide +kernel
  · rfl
def bX11_stand : Nat → List Ins := fun pc => match pc with
  | 0 => [(.iload_n 1, 0, 0, 0, 0), (.aload_n 0, 0, 0, 0, 0), (.getfield 12, 11, 0, 0, 0), (.invokevirtual 173, 97, 0, 10, 0), (.invokestatic 177, 143, 2, 0, 0), (.ifCond .ne 9, 20, 0, 0, 0), (.aload_n 0, 0, 0, 0, 0), (.iconst (-1), 0, 0, 0, (-1)), (.invokevirtual 82, 137, 1, 11, 0), (.ireturn, 0, 0, 0, 0)]
  | 20 => [(.aload_n 0, 0, 0, 0, 0), (.getfield 12, 11, 0, 0, 0), (.getfield 111, 10, 5, 0, 0), (.istore_n 2, 0, 0, 0, 0), (.aload_n 0, 0, 0, 0, 0), (.getfield 12, 11, 0, 0, 0), (.iload_n 1, 0, 0, 0, 0), (.putfield 111, 10, 5, 0, 0), (.aload_n 0, 0, 0, 0, 0), (.iconst 1, 0, 0, 0, 1), (.putfield 71, 11, 12, 1, 0), (.aload_n 0, 0, 0, 0, 0), (.iload_n 2, 0, 0, 0, 0), (.invokevirtual 90, 138, 1, 11, 0), (.ireturn, 0, 0, 0, 0)]
  | _ => []
theorem kX11_stand (pc : Nat) : chk 118 (bX11_stand pc) pc = true := by
  unfold bX11_stand; split
  · decide +kernel
  · decide +kernel
  · rfl
def bX11_falls : Nat → List Ins := fun pc => match pc with
  | 0 => [(.iload_n 1, 0, 0, 0, 0), (.aload_n 0, 0, 0, 0, 0), (.getfield 12, 11, 0, 0, 0), (.getfield 111, 10, 5, 0, 0), (.invokestatic 177, 143, 2, 0, 0), (.ifCond .ne 5, 16, 0, 0, 0), (.iconst (-1), 0, 0, 0, (-1)), (.ireturn, 0, 0, 0, 0)]
  | 16 => [(.aload_n 0, 0, 0, 0, 0), (.invokevirtual 155, 141, 0, 11, 0), (.aload_n 0, 0, 0, 0, 0), (.getfield 12, 11, 0, 0, 0), (.getfield 111, 10, 5, 0, 0), (.iload_n 1, 0, 0, 0, 0), (.iconst (-1), 0, 0, 0, (-1)), (.ixor, 0, 0, 0, 0), (.iand, 0, 0, 0, 0), (.istore_n 3, 0, 0, 0, 0), (.aload_n 0, 0, 0, 0, 0), (.getfield 43, 11, 5, 0, 0), (.iload_n 3, 0, 0, 0, 0), (.invokevirtual 181, 22, 1, 2, 0), (.istore 4, 0, 0, 0, 0), (.iload_n 2, 0, 0, 0, 0), (.tableswitch 65 0 3 #[29, 39, 48, 51], 108, 0, 0, 0)]
  | 72 => [(.iload_n 3, 0, 0, 0, 0), (.iload 4, 0, 0, 0, 0), (.iconst (-1), 0, 0, 0, (-1)), (.ixor, 0, 0, 0, 0), (.iand, 0, 0, 0, 0), (.invokestatic 184, 236, 1, 0, 0), (.ireturn, 0, 0, 0, 0)]
  | 82 => [(.aload_n 0, 0, 0, 0, 0), (.getfield 43, 11, 5, 0, 0), (.iload_n 3, 0, 0, 0, 0), (.invokevirtual 189, 23, 1, 2, 0), (.ireturn, 0, 0, 0, 0)]
  | 91 => [(.iload 4, 0, 0, 0, 0), (.ireturn, 0, 0, 0, 0)]
  | 94 => [(.aload_n 0, 0, 0, 0, 0), (.getfield 12, 11, 0, 0, 0), (.iload_n 3, 0, 0, 0, 0), (.iload 4, 0, 0, 0, 0), (.iconst (-1), 0, 0, 0, (-1)), (.ixor, 0, 0, 0, 0), (.iand, 0, 0, 0, 0), (.invokevirtual 192, 100, 1, 10, 0), (.ireturn, 0, 0, 0, 0)]
  | 108 => [(.iconst (-1), 0, 0, 0, (-1)), (.ireturn, 0, 0, 0, 0)]
  | _ => []
theorem kX11_falls (pc : Nat) : chk 119 (bX11_falls pc) pc = true := by
  unfold bX11_falls; split
  · decide +kernel
  · decide +kernel
  · decide +kernel
  · decide +kernel
  · decide +kernel
  · decide +kernel
  · decide +kernel
  · rfl
def bX11_round : Nat → List Ins := fun pc => match pc with
  | 0 => [(.iload_n 1, 0, 0, 0, 0), (.aload_n 0, 0, 0, 0, 0), (.getfield 12, 11, 0, 0, 0), (.getfield 111, 10, 5, 0, 0), (.invokestatic 177, 143, 2, 0, 0), (.ifCond .eq 28, 39, 0, 0, 0), (.aload_n 0, 0, 0, 0, 0), (.getfield 12, 11, 0, 0, 0), (.iload_n 2, 0, 0, 0, 0), (.invokevirtual 103, 95, 1, 10, 0), (.ifCond .eq 17, 39, 0, 0, 0), (.aload_n 0, 0, 0, 0, 0), (.getfield 12, 11, 0, 0, 0), (.getfield 111, 10, 5, 0, 0), (.iload_n 2, 0, 0, 0, 0), (.ishr, 0, 0, 0, 0), (.iconst 1, 0, 0, 0, 1), (.iand, 0, 0, 0, 0), (.ifCond .ne 5, 41, 0, 0, 0)]
  | 39 => [(.iconst (-1), 0, 0, 0, (-1)), (.ireturn, 0, 0, 0, 0)]
  | 41 => [(.aload_n 0, 0, 0, 0, 0), (.invokevirtual 155, 141, 0, 11, 0), (.aload_n 0, 0, 0, 0, 0), (.getfield 43, 11, 5, 0, 0), (.aload_n 0, 0, 0, 0, 0), (.getfield 12, 11, 0, 0, 0), (.getfield 111, 10, 5, 0, 0), (.iload_n 1, 0, 0, 0, 0), (.iconst (-1), 0, 0, 0, (-1)), (.ixor, 0, 0, 0, 0), (.iand, 0, 0, 0, 0), (.iload_n 2, 0, 0, 0, 0), (.invokevirtual 195, 24, 2, 2, 0), (.ireturn, 0, 0, 0, 0)]
  | _ => []
theorem kX11_round (pc : Nat) : chk 120 (bX11_round pc) pc = true := by
  unfold bX11_round; split
  · decide +kernel
  · decide +kernel
  · decide +kernel
  · rfl
def bX11_take : Nat → List Ins := fun pc => match pc with
  | 0 => [(.iload_n 1, 0, 0, 0, 0), (.aload_n 0, 0, 0, 0, 0), (.getfield 12, 11, 0, 0, 0), (.getfield 111, 10, 5, 0, 0), (.invokestatic 177, 143, 2, 0, 0), (.ifCond .ne 9, 20, 0, 0, 0), (.aload_n 0, 0, 0, 0, 0), (.iconst (-1), 0, 0, 0, (-1)), (.invokevirtual 82, 137, 1, 11, 0), (.ireturn, 0, 0, 0, 0)]
  | 20 => [(.aload_n 0, 0, 0, 0, 0), (.invokevirtual 155, 141, 0, 11, 0), (.aload_n 0, 0, 0, 0, 0), (.getfield 12, 11, 0, 0, 0), (.getfield 111, 10, 5, 0, 0), (.istore_n 2, 0, 0, 0, 0), (.aload_n 0, 0, 0, 0, 0), (.getfield 12, 11, 0, 0, 0), (.aload_n 0, 0, 0, 0, 0), (.getfield 43, 11, 5, 0, 0), (.iload_n 2, 0, 0, 0, 0), (.iload_n 1, 0, 0, 0, 0), (.iconst (-1), 0, 0, 0, (-1)), (.ixor, 0, 0, 0, 0), (.iand, 0, 0, 0, 0), (.invokevirtual 181, 22, 1, 2, 0), (.putfield 111, 10, 5, 0, 0), (.aload_n 0, 0, 0, 0, 0), (.iconst 1, 0, 0, 0, 1), (.putfield 71, 11, 12, 1, 0), (.aload_n 0, 0, 0, 0, 0), (.iload_n 2, 0, 0, 0, 0), (.aload_n 0, 0, 0, 0, 0), (.getfield 12, 11, 0, 0, 0), (.getfield 111, 10, 5, 0, 0), (.iconst (-1), 0, 0, 0, (-1)), (.ixor, 0, 0, 0, 0), (.iand, 0, 0, 0, 0), (.invokestatic 184, 236, 1, 0, 0), (.invokevirtual 90, 138, 1, 11, 0), (.ireturn, 0, 0, 0, 0)]
  | _ => []
theorem kX11_take (pc : Nat) : chk 121 (bX11_take pc) pc = true := by
  unfold bX11_take; split
  · decide +kernel
  · decide +kernel
  · rfl
def bX11_farm : Nat → List Ins := fun pc => match pc with
  | 0 => [(.iload_n 1, 0, 0, 0, 0), (.aload_n 0, 0, 0, 0, 0), (.getfield 12, 11, 0, 0, 0), (.getfield 111, 10, 5, 0, 0), (.invokestatic 177, 143, 2, 0, 0), (.ifCond .eq 12, 23, 0, 0, 0), (.iload_n 2, 0, 0, 0, 0), (.iconst 0, 0, 0, 0, 0), (.iconst 3, 0, 0, 0, 3), (.invokestatic 99, 142, 3, 0, 0), (.ifCond .ne 5, 25, 0, 0, 0)]
  | 23 => [(.iconst (-1), 0, 0, 0, (-1)), (.ireturn, 0, 0, 0, 0)]
  | 25 => [(.aload_n 0, 0, 0, 0, 0), (.invokevirtual 155, 141, 0, 11, 0), (.aload_n 0, 0, 0, 0, 0), (.getfield 12, 11, 0, 0, 0), (.getfield 111, 10, 5, 0, 0), (.aload_n 0, 0, 0, 0, 0), (.getfield 43, 11, 5, 0, 0), (.aload_n 0, 0, 0, 0, 0), (.getfield 12, 11, 0, 0, 0), (.getfield 111, 10, 5, 0, 0), (.iload_n 1, 0, 0, 0, 0), (.iconst (-1), 0, 0, 0, (-1)), (.ixor, 0, 0, 0, 0), (.iand, 0, 0, 0, 0), (.invokevirtual 181, 22, 1, 2, 0), (.iconst (-1), 0, 0, 0, (-1)), (.ixor, 0, 0, 0, 0), (.iand, 0, 0, 0, 0), (.istore_n 3, 0, 0, 0, 0), (.iconst 0, 0, 0, 0, 0), (.istore 4, 0, 0, 0, 0), (.iconst 0, 0, 0, 0, 0), (.istore 5, 0, 0, 0, 0)]
  | 64 => [(.iload 5, 0, 0, 0, 0), (.aload_n 0, 0, 0, 0, 0), (.getfield 12, 11, 0, 0, 0), (.getfield 75, 10, 3, 0, 0), (.if_icmp .ge 35, 108, 0, 0, 0), (.iload_n 3, 0, 0, 0, 0), (.iload 5, 0, 0, 0, 0), (.ishr, 0, 0, 0, 0), (.iconst 1, 0, 0, 0, 1), (.iand, 0, 0, 0, 0), (.ifCond .eq 20, 102, 0, 0, 0), (.aload_n 0, 0, 0, 0, 0), (.getfield 12, 11, 0, 0, 0), (.iload 5, 0, 0, 0, 0), (.iconst 5, 0, 0, 0, 5), (.invokevirtual 114, 90, 2, 10, 0), (.iload_n 2, 0, 0, 0, 0), (.if_icmp .ne 6, 102, 0, 0, 0), (.iinc 4 1, 0, 0, 0, 1)]
  | 102 => [(.iinc 5 1, 0, 0, 0, 1), (.goto (-41), 64, 0, 0, 0)]
  | 108 => [(.iload 4, 0, 0, 0, 0), (.ireturn, 0, 0, 0, 0)]
  | _ => []
theorem kX11_farm (pc : Nat) : chk 122 (bX11_farm pc) pc = true := by
  unfold bX11_farm; split
  · decide +kernel
  · decide +kernel
  · decide +kernel
  · decide +kernel
  · decide +kernel
  · decide +kernel
  · rfl
def bX11_once : Nat → List Ins := fun pc => match pc with
  | 0 => [(.aload_n 0, 0, 0, 0, 0), (.invokevirtual 155, 141, 0, 11, 0), (.aload_n 0, 0, 0, 0, 0), (.getfield 52, 11, 6, 0, 0), (.invokevirtual 198, 74, 0, 9, 0), (.iload_n 1, 0, 0, 0, 0), (.invokevirtual 202, 34, 1, 4, 0), (.ireturn, 0, 0, 0, 0)]
  | _ => []
theorem kX11_once (pc : Nat) : chk 123 (bX11_once pc) pc = true := by
  unfold bX11_once; split
  · decide +kernel
  · rfl
def bX11_oneByOne : Nat → List Ins := fun pc => match pc with
  | 0 => [(.aload_n 0, 0, 0, 0, 0), (.invokevirtual 155, 141, 0, 11, 0), (.aload_n 0, 0, 0, 0, 0), (.getfield 52, 11, 6, 0, 0), (.invokevirtual 207, 75, 0, 9, 0), (.iload_n 1, 0, 0, 0, 0), (.invokevirtual 202, 34, 1, 4, 0), (.ireturn, 0, 0, 0, 0)]
  | _ => []
theorem kX11_oneByOne (pc : Nat) : chk 124 (bX11_oneByOne pc) pc = true := by
  unfold bX11_oneByOne; split
  · decide +kernel
  · rfl
def bX11_order : Nat → List Ins := fun pc => match pc with
  | 0 => [(.aload_n 0, 0, 0, 0, 0), (.invokevirtual 155, 141, 0, 11, 0), (.aload_n 0, 0, 0, 0, 0), (.getfield 52, 11, 6, 0, 0), (.invokevirtual 207, 75, 0, 9, 0), (.pop, 0, 0, 0, 0), (.aload_n 0, 0, 0, 0, 0), (.getfield 52, 11, 6, 0, 0), (.iload_n 1, 0, 0, 0, 0), (.invokevirtual 210, 79, 1, 9, 0), (.ireturn, 0, 0, 0, 0)]
  | _ => []
theorem kX11_order (pc : Nat) : chk 125 (bX11_order pc) pc = true := by
  unfold bX11_order; split
  · decide +kernel
  · rfl
def bX11_fell : Nat → List Ins := fun pc => match pc with
  | 0 => [(.aload_n 0, 0, 0, 0, 0), (.invokevirtual 155, 141, 0, 11, 0), (.aload_n 0, 0, 0, 0, 0), (.getfield 52, 11, 6, 0, 0), (.invokevirtual 213, 80, 0, 9, 0), (.iload_n 1, 0, 0, 0, 0), (.invokevirtual 217, 11, 1, 1, 0), (.ireturn, 0, 0, 0, 0)]
  | _ => []
theorem kX11_fell (pc : Nat) : chk 126 (bX11_fell pc) pc = true := by
  unfold bX11_fell; split
  · decide +kernel
  · rfl
def bX11_gate : Nat → List Ins := fun pc => match pc with
  | 0 => [(.iload_n 1, 0, 0, 0, 0), (.ifCond .lt 31, 32, 0, 0, 0), (.iload_n 1, 0, 0, 0, 0), (.iload_n 3, 0, 0, 0, 0), (.if_icmp .gt 26, 32, 0, 0, 0), (.iload_n 3, 0, 0, 0, 0), (.bipush 12, 0, 0, 0, 12), (.if_icmp .ge 20, 32, 0, 0, 0), (.iload_n 2, 0, 0, 0, 0), (.ifCond .lt 16, 32, 0, 0, 0), (.iload_n 2, 0, 0, 0, 0), (.iload 4, 0, 0, 0, 0), (.if_icmp .gt 10, 32, 0, 0, 0), (.iload 4, 0, 0, 0, 0), (.bipush 8, 0, 0, 0, 8), (.if_icmp .lt 5, 34, 0, 0, 0)]
  | 32 => [(.iconst (-1), 0, 0, 0, (-1)), (.ireturn, 0, 0, 0, 0)]
  | 34 => [(.iconst 0, 0, 0, 0, 0), (.istore 6, 0, 0, 0, 0), (.iconst 0, 0, 0, 0, 0), (.istore 7, 0, 0, 0, 0)]
  | 40 => [(.iload 7, 0, 0, 0, 0), (.aload_n 0, 0, 0, 0, 0), (.getfield 12, 11, 0, 0, 0), (.getfield 75, 10, 3, 0, 0), (.if_icmp .ge 43, 92, 0, 0, 0), (.aload_n 0, 0, 0, 0, 0), (.getfield 12, 11, 0, 0, 0), (.iload 7, 0, 0, 0, 0), (.iload_n 1, 0, 0, 0, 0), (.iload_n 2, 0, 0, 0, 0), (.iload_n 3, 0, 0, 0, 0), (.iload_n 1, 0, 0, 0, 0), (.isub, 0, 0, 0, 0), (.iconst 1, 0, 0, 0, 1), (.iadd, 0, 0, 0, 0), (.iload 4, 0, 0, 0, 0), (.iload_n 2, 0, 0, 0, 0), (.isub, 0, 0, 0, 0), (.iconst 1, 0, 0, 0, 1), (.iadd, 0, 0, 0, 0), (.invokevirtual 151, 98, 5, 10, 0), (.ifCond .eq 12, 86, 0, 0, 0), (.iload 6, 0, 0, 0, 0), (.iconst 1, 0, 0, 0, 1), (.iload 7, 0, 0, 0, 0), (.ishl, 0, 0, 0, 0), (.ior, 0, 0, 0, 0), (.istore 6, 0, 0, 0, 0)]
  | 86 => [(.iinc 7 1, 0, 0, 0, 1), (.goto (-49), 40, 0, 0, 0)]
  | 92 => [(.iload 6, 0, 0, 0, 0), (.aload_n 0, 0, 0, 0, 0), (.getfield 12, 11, 0, 0, 0), (.getfield 111, 10, 5, 0, 0), (.iand, 0, 0, 0, 0), (.istore 6, 0, 0, 0, 0), (.aload_n 0, 0, 0, 0, 0), (.invokevirtual 155, 141, 0, 11, 0), (.aload_n 0, 0, 0, 0, 0), (.getfield 43, 11, 5, 0, 0), (.aload_n 0, 0, 0, 0, 0), (.getfield 12, 11, 0, 0, 0), (.getfield 111, 10, 5, 0, 0), (.iload 6, 0, 0, 0, 0), (.iconst (-1), 0, 0, 0, (-1)), (.ixor, 0, 0, 0, 0), (.iand, 0, 0, 0, 0), (.invokevirtual 181, 22, 1, 2, 0), (.istore 7, 0, 0, 0, 0), (.iload 5, 0, 0, 0, 0), (.tableswitch 50 0 2 #[25, 41, 47], 181, 0, 0, 0)]
  | 156 => [(.aload_n 0, 0, 0, 0, 0), (.getfield 12, 11, 0, 0, 0), (.getfield 111, 10, 5, 0, 0), (.iload 7, 0, 0, 0, 0), (.iconst (-1), 0, 0, 0, (-1)), (.ixor, 0, 0, 0, 0), (.iand, 0, 0, 0, 0), (.invokestatic 184, 236, 1, 0, 0), (.ireturn, 0, 0, 0, 0)]
  | 172 => [(.iload 6, 0, 0, 0, 0), (.invokestatic 184, 236, 1, 0, 0), (.ireturn, 0, 0, 0, 0)]
  | 178 => [(.iload 7, 0, 0, 0, 0), (.ireturn, 0, 0, 0, 0)]
  | 181 => [(.iconst (-1), 0, 0, 0, (-1)), (.ireturn, 0, 0, 0, 0)]
  | _ => []
theorem kX11_gate (pc : Nat) : chk 127 (bX11_gate pc) pc = true := by
  unfold bX11_gate; split
  · decide +kernel
  · decide +kernel
  · decide +kernel
  · decide +kernel
  · decide +kernel
  · decide +kernel
  · decide +kernel
  · decide +kernel
  · decide +kernel
  · decide +kernel
  · rfl
def bX11_mend : Nat → List Ins := fun pc => match pc with
  | 0 => [(.aload_n 0, 0, 0, 0, 0), (.invokevirtual 155, 141, 0, 11, 0), (.aload_n 0, 0, 0, 0, 0), (.getfield 52, 11, 6, 0, 0), (.invokevirtual 220, 81, 0, 9, 0), (.iload_n 1, 0, 0, 0, 0), (.invokevirtual 217, 11, 1, 1, 0), (.ireturn, 0, 0, 0, 0)]
  | _ => []
theorem kX11_mend (pc : Nat) : chk 128 (bX11_mend pc) pc = true := by
  unfold bX11_mend; split
  · decide +kernel
  · rfl
def bX11_game : Nat → List Ins := fun pc => match pc with
  | 0 => [(.aload_n 0, 0, 0, 0, 0), (.invokevirtual 155, 141, 0, 11, 0), (.aload_n 0, 0, 0, 0, 0), (.getfield 52, 11, 6, 0, 0), (.invokevirtual 223, 82, 0, 9, 0), (.iload_n 1, 0, 0, 0, 0), (.tableswitch 61 0 2 #[28, 45, 53], 73, 0, 0, 0)]
  | 40 => [(.aload_n 0, 0, 0, 0, 0), (.getfield 52, 11, 6, 0, 0), (.getfield 226, 9, 10, 0, 0), (.iconst (-1), 0, 0, 0, (-1)), (.if_icmp .ne 7, 55, 0, 0, 0), (.iconst 0, 0, 0, 0, 0), (.goto 4, 56, 0, 0, 0)]
  | 55 => [(.iconst 1, 0, 0, 0, 1)]
  | 56 => [(.ireturn, 0, 0, 0, 0)]
  | 57 => [(.aload_n 0, 0, 0, 0, 0), (.getfield 52, 11, 6, 0, 0), (.getfield 226, 9, 10, 0, 0), (.ireturn, 0, 0, 0, 0)]
  | 65 => [(.aload_n 0, 0, 0, 0, 0), (.getfield 52, 11, 6, 0, 0), (.getfield 229, 9, 11, 0, 0), (.ireturn, 0, 0, 0, 0)]
  | 73 => [(.iconst (-1), 0, 0, 0, (-1)), (.ireturn, 0, 0, 0, 0)]
  | _ => []
theorem kX11_game (pc : Nat) : chk 129 (bX11_game pc) pc = true := by
  unfold bX11_game; split
  · decide +kernel
  · decide +kernel
  · decide +kernel
  · decide +kernel
  · decide +kernel
  · decide +kernel
  · decide +kernel
  · rfl
def bX11_night : Nat → List Ins := fun pc => match pc with
  | 0 => [(.iload_n 1, 0, 0, 0, 0), (.aload_n 0, 0, 0, 0, 0), (.getfield 12, 11, 0, 0, 0), (.getfield 111, 10, 5, 0, 0), (.invokestatic 177, 143, 2, 0, 0), (.ifCond .ne 5, 16, 0, 0, 0), (.iconst (-1), 0, 0, 0, (-1)), (.ireturn, 0, 0, 0, 0)]
  | 16 => [(.aload_n 0, 0, 0, 0, 0), (.invokevirtual 155, 141, 0, 11, 0), (.iload_n 2, 0, 0, 0, 0), (.tableswitch 99 0 3 #[31, 48, 65, 82], 120, 0, 0, 0)]
  | 52 => [(.aload_n 0, 0, 0, 0, 0), (.getfield 43, 11, 5, 0, 0), (.aload_n 0, 0, 0, 0, 0), (.getfield 12, 11, 0, 0, 0), (.getfield 111, 10, 5, 0, 0), (.iload_n 1, 0, 0, 0, 0), (.iconst 0, 0, 0, 0, 0), (.invokevirtual 232, 25, 3, 2, 0), (.ireturn, 0, 0, 0, 0)]
  | 69 => [(.aload_n 0, 0, 0, 0, 0), (.getfield 43, 11, 5, 0, 0), (.aload_n 0, 0, 0, 0, 0), (.getfield 12, 11, 0, 0, 0), (.getfield 111, 10, 5, 0, 0), (.iload_n 1, 0, 0, 0, 0), (.iconst 1, 0, 0, 0, 1), (.invokevirtual 232, 25, 3, 2, 0), (.ireturn, 0, 0, 0, 0)]
  | 86 => [(.aload_n 0, 0, 0, 0, 0), (.getfield 43, 11, 5, 0, 0), (.aload_n 0, 0, 0, 0, 0), (.getfield 12, 11, 0, 0, 0), (.getfield 111, 10, 5, 0, 0), (.iload_n 1, 0, 0, 0, 0), (.iconst 0, 0, 0, 0, 0), (.invokevirtual 236, 26, 3, 2, 0), (.ireturn, 0, 0, 0, 0)]
  | 103 => [(.aload_n 0, 0, 0, 0, 0), (.getfield 43, 11, 5, 0, 0), (.aload_n 0, 0, 0, 0, 0), (.getfield 12, 11, 0, 0, 0), (.getfield 111, 10, 5, 0, 0), (.iload_n 1, 0, 0, 0, 0), (.iconst 1, 0, 0, 0, 1), (.invokevirtual 236, 26, 3, 2, 0), (.ireturn, 0, 0, 0, 0)]
  | 120 => [(.iconst (-1), 0, 0, 0, (-1)), (.ireturn, 0, 0, 0, 0)]
  | _ => []
theorem kX11_night (pc : Nat) : chk 130 (bX11_night pc) pc = true := by
  unfold bX11_night; split
  · decide +kernel
  · decide +kernel
  · decide +kernel
  · decide +kernel
  · decide +kernel
  · decide +kernel
  · decide +kernel
  · rfl
def bX11_winters : Nat → List Ins := fun pc => match pc with
  | 0 => [(.iload_n 1, 0, 0, 0, 0), (.iconst 0, 0, 0, 0, 0), (.ldc 239, 0, 0, 0, 1000000), (.invokestatic 99, 142, 3, 0, 0), (.ifCond .eq 13, 20, 0, 0, 0), (.iload_n 2, 0, 0, 0, 0), (.iconst 1, 0, 0, 0, 1), (.bipush 40, 0, 0, 0, 40), (.invokestatic 99, 142, 3, 0, 0), (.ifCond .ne 9, 26, 0, 0, 0)]
  | 20 => [(.aload_n 0, 0, 0, 0, 0), (.iconst (-1), 0, 0, 0, (-1)), (.invokevirtual 82, 137, 1, 11, 0), (.ireturn, 0, 0, 0, 0)]
  | 26 => [(.aload_n 0, 0, 0, 0, 0), (.invokevirtual 155, 141, 0, 11, 0), (.aload_n 0, 0, 0, 0, 0), (.aload_n 0, 0, 0, 0, 0), (.getfield 59, 11, 7, 0, 0), (.aload_n 0, 0, 0, 0, 0), (.getfield 12, 11, 0, 0, 0), (.aload_n 0, 0, 0, 0, 0), (.getfield 43, 11, 5, 0, 0), (.iload_n 1, 0, 0, 0, 0), (.iload_n 2, 0, 0, 0, 0), (.invokevirtual 240, 55, 4, 6, 0), (.invokevirtual 90, 138, 1, 11, 0), (.ireturn, 0, 0, 0, 0)]
  | _ => []
theorem kX11_winters (pc : Nat) : chk 131 (bX11_winters pc) pc = true := by
  unfold bX11_winters; split
  · decide +kernel
  · decide +kernel
  · decide +kernel
  · rfl
def bX11_winter : Nat → List Ins := fun pc => match pc with
  | 0 => [(.aload_n 0, 0, 0, 0, 0), (.getfield 59, 11, 7, 0, 0), (.iload_n 1, 0, 0, 0, 0), (.invokevirtual 244, 56, 1, 6, 0), (.ireturn, 0, 0, 0, 0)]
  | _ => []
theorem kX11_winter (pc : Nat) : chk 132 (bX11_winter pc) pc = true := by
  unfold bX11_winter; split
  · decide +kernel
  · rfl
def bX11_image : Nat → List Ins := fun pc => match pc with
  | 0 => [(.iload_n 1, 0, 0, 0, 0), (.iconst 0, 0, 0, 0, 0), (.iconst 1, 0, 0, 0, 1), (.invokestatic 99, 142, 3, 0, 0), (.ifCond .ne 9, 15, 0, 0, 0), (.aload_n 0, 0, 0, 0, 0), (.iconst (-1), 0, 0, 0, (-1)), (.invokevirtual 82, 137, 1, 11, 0), (.ireturn, 0, 0, 0, 0)]
  | 15 => [(.aload_n 0, 0, 0, 0, 0), (.getfield 16, 11, 1, 0, 0), (.iload_n 1, 0, 0, 0, 0), (.aaload, 0, 0, 0, 0), (.aload_n 0, 0, 0, 0, 0), (.getfield 12, 11, 0, 0, 0), (.invokevirtual 247, 85, 1, 10, 0), (.aload_n 0, 0, 0, 0, 0), (.getfield 20, 11, 2, 0, 0), (.iload_n 1, 0, 0, 0, 0), (.iconst 1, 0, 0, 0, 1), (.bastore, 0, 0, 0, 0), (.aload_n 0, 0, 0, 0, 0), (.iconst 0, 0, 0, 0, 0), (.invokevirtual 90, 138, 1, 11, 0), (.ireturn, 0, 0, 0, 0)]
  | _ => []
theorem kX11_image (pc : Nat) : chk 133 (bX11_image pc) pc = true := by
  unfold bX11_image; split
  · decide +kernel
  · decide +kernel
  · rfl
def bX11_back : Nat → List Ins := fun pc => match pc with
  | 0 => [(.iload_n 1, 0, 0, 0, 0), (.iconst 0, 0, 0, 0, 0), (.iconst 1, 0, 0, 0, 1), (.invokestatic 99, 142, 3, 0, 0), (.ifCond .ne 9, 15, 0, 0, 0), (.aload_n 0, 0, 0, 0, 0), (.iconst (-1), 0, 0, 0, (-1)), (.invokevirtual 82, 137, 1, 11, 0), (.ireturn, 0, 0, 0, 0)]
  | 15 => [(.aload_n 0, 0, 0, 0, 0), (.getfield 20, 11, 2, 0, 0), (.iload_n 1, 0, 0, 0, 0), (.baload, 0, 0, 0, 0), (.ifCond .ne 10, 31, 0, 0, 0), (.aload_n 0, 0, 0, 0, 0), (.bipush (-2), 0, 0, 0, (-2)), (.invokevirtual 82, 137, 1, 11, 0), (.ireturn, 0, 0, 0, 0)]
  | 31 => [(.aload_n 0, 0, 0, 0, 0), (.getfield 12, 11, 0, 0, 0), (.aload_n 0, 0, 0, 0, 0), (.getfield 16, 11, 1, 0, 0), (.iload_n 1, 0, 0, 0, 0), (.aaload, 0, 0, 0, 0), (.invokevirtual 247, 85, 1, 10, 0), (.aload_n 0, 0, 0, 0, 0), (.iconst 1, 0, 0, 0, 1), (.putfield 71, 11, 12, 1, 0), (.aload_n 0, 0, 0, 0, 0), (.iconst 0, 0, 0, 0, 0), (.invokevirtual 90, 138, 1, 11, 0), (.ireturn, 0, 0, 0, 0)]
  | _ => []
theorem kX11_back (pc : Nat) : chk 134 (bX11_back pc) pc = true := by
  unfold bX11_back; split
  · decide +kernel
  · decide +kernel
  · decide +kernel
  · rfl
def bX11_count : Nat → List Ins := fun pc => match pc with
  | 0 => [(.iload_n 1, 0, 0, 0, 0), (.iconst 5, 0, 0, 0, 5), (.bipush 9, 0, 0, 0, 9), (.invokestatic 99, 142, 3, 0, 0), (.ifCond .eq 12, 19, 0, 0, 0), (.aload_n 0, 0, 0, 0, 0), (.getfield 63, 11, 8, 0, 0), (.iload_n 1, 0, 0, 0, 0), (.iconst 5, 0, 0, 0, 5), (.isub, 0, 0, 0, 0), (.iaload, 0, 0, 0, 0), (.ireturn, 0, 0, 0, 0)]
  | 19 => [(.iload_n 1, 0, 0, 0, 0), (.bipush 11, 0, 0, 0, 11), (.bipush 13, 0, 0, 0, 13), (.invokestatic 99, 142, 3, 0, 0), (.ifCond .eq 15, 42, 0, 0, 0), (.aload_n 0, 0, 0, 0, 0), (.getfield 12, 11, 0, 0, 0), (.iload_n 1, 0, 0, 0, 0), (.bipush 11, 0, 0, 0, 11), (.isub, 0, 0, 0, 0), (.invokevirtual 251, 91, 1, 10, 0), (.ireturn, 0, 0, 0, 0)]
  | 42 => [(.iload_n 1, 0, 0, 0, 0), (.tableswitch 108 0 10 #[57, 65, 76, 84, 92, 108, 108, 108, 108, 108, 100], 151, 0, 0, 0)]
  | 100 => [(.aload_n 0, 0, 0, 0, 0), (.getfield 12, 11, 0, 0, 0), (.getfield 75, 10, 3, 0, 0), (.ireturn, 0, 0, 0, 0)]
  | 108 => [(.aload_n 0, 0, 0, 0, 0), (.getfield 12, 11, 0, 0, 0), (.getfield 111, 10, 5, 0, 0), (.invokestatic 184, 236, 1, 0, 0), (.ireturn, 0, 0, 0, 0)]
  | 119 => [(.aload_n 0, 0, 0, 0, 0), (.getfield 12, 11, 0, 0, 0), (.getfield 93, 10, 4, 0, 0), (.ireturn, 0, 0, 0, 0)]
  | 127 => [(.aload_n 0, 0, 0, 0, 0), (.getfield 12, 11, 0, 0, 0), (.getfield 134, 10, 6, 0, 0), (.ireturn, 0, 0, 0, 0)]
  | 135 => [(.aload_n 0, 0, 0, 0, 0), (.getfield 27, 11, 3, 0, 0), (.getfield 121, 8, 1, 0, 0), (.ireturn, 0, 0, 0, 0)]
  | 143 => [(.aload_n 0, 0, 0, 0, 0), (.getfield 12, 11, 0, 0, 0), (.getfield 148, 10, 7, 0, 0), (.ireturn, 0, 0, 0, 0)]
  | 151 => [(.iconst (-1), 0, 0, 0, (-1)), (.ireturn, 0, 0, 0, 0)]
  | _ => []
theorem kX11_count (pc : Nat) : chk 135 (bX11_count pc) pc = true := by
  unfold bX11_count; split
  · decide +kernel
  · decide +kernel
  · decide +kernel
  · decide +kernel
  · decide +kernel
  · decide +kernel
  · decide +kernel
  · decide +kernel
  · decide +kernel
  · decide +kernel
  · rfl
def bX11_status : Nat → List Ins := fun pc => match pc with
  | 0 => [(.aload_n 0, 0, 0, 0, 0), (.getfield 254, 11, 9, 0, 0), (.ireturn, 0, 0, 0, 0)]
  | _ => []
theorem kX11_status (pc : Nat) : chk 136 (bX11_status pc) pc = true := by
  unfold bX11_status; split
  · decide +kernel
  · rfl
def bX11_refuse : Nat → List Ins := fun pc => match pc with
  | 0 => [(.aload_n 0, 0, 0, 0, 0), (.iload_n 1, 0, 0, 0, 0), (.putfield 254, 11, 9, 0, 0), (.iload_n 1, 0, 0, 0, 0), (.bipush (-3), 0, 0, 0, (-3)), (.if_icmp .lt 9, 17, 0, 0, 0), (.iconst (-1), 0, 0, 0, (-1)), (.iload_n 1, 0, 0, 0, 0), (.isub, 0, 0, 0, 0), (.goto 7, 21, 0, 0, 0)]
  | 17 => [(.bipush (-2), 0, 0, 0, (-2)), (.iload_n 1, 0, 0, 0, 0), (.isub, 0, 0, 0, 0)]
  | 21 => [(.istore_n 2, 0, 0, 0, 0), (.iload_n 2, 0, 0, 0, 0), (.iconst 0, 0, 0, 0, 0), (.iconst 4, 0, 0, 0, 4), (.invokestatic 99, 142, 3, 0, 0), (.ifCond .eq 13, 41, 0, 0, 0), (.aload_n 0, 0, 0, 0, 0), (.getfield 63, 11, 8, 0, 0), (.iload_n 2, 0, 0, 0, 0), (.dup2, 0, 0, 0, 0), (.iaload, 0, 0, 0, 0), (.iconst 1, 0, 0, 0, 1), (.iadd, 0, 0, 0, 0), (.iastore, 0, 0, 0, 0)]
  | 41 => [(.iload_n 1, 0, 0, 0, 0), (.ireturn, 0, 0, 0, 0)]
  | _ => []
theorem kX11_refuse (pc : Nat) : chk 137 (bX11_refuse pc) pc = true := by
  unfold bX11_refuse; split
  · decide +kernel
  · decide +kernel
  · decide +kernel
  · decide +kernel
  · rfl
def bX11_accept : Nat → List Ins := fun pc => match pc with
  | 0 => [(.aload_n 0, 0, 0, 0, 0), (.iconst 0, 0, 0, 0, 0), (.putfield 254, 11, 9, 0, 0), (.iload_n 1, 0, 0, 0, 0), (.ireturn, 0, 0, 0, 0)]
  | _ => []
theorem kX11_accept (pc : Nat) : chk 138 (bX11_accept pc) pc = true := by
  unfold bX11_accept; split
  · decide +kernel
  · rfl
def bX11_hindrance : Nat → List Ins := fun pc => match pc with
  | 0 => [(.iload_n 1, 0, 0, 0, 0), (.iconst 0, 0, 0, 0, 0), (.bipush 11, 0, 0, 0, 11), (.invokestatic 99, 142, 3, 0, 0), (.ifCond .eq 66, 73, 0, 0, 0), (.iload_n 2, 0, 0, 0, 0), (.iconst 0, 0, 0, 0, 0), (.bipush 7, 0, 0, 0, 7), (.invokestatic 99, 142, 3, 0, 0), (.ifCond .eq 56, 73, 0, 0, 0), (.iload_n 3, 0, 0, 0, 0), (.iconst 1, 0, 0, 0, 1), (.bipush 6, 0, 0, 0, 6), (.invokestatic 99, 142, 3, 0, 0), (.ifCond .eq 46, 73, 0, 0, 0), (.iload 4, 0, 0, 0, 0), (.iconst 1, 0, 0, 0, 1), (.bipush 6, 0, 0, 0, 6), (.invokestatic 99, 142, 3, 0, 0), (.ifCond .eq 35, 73, 0, 0, 0), (.iload_n 1, 0, 0, 0, 0), (.iload_n 3, 0, 0, 0, 0), (.iadd, 0, 0, 0, 0), (.bipush 12, 0, 0, 0, 12), (.if_icmp .gt 27, 73, 0, 0, 0), (.iload_n 2, 0, 0, 0, 0), (.iload 4, 0, 0, 0, 0), (.iadd, 0, 0, 0, 0), (.bipush 8, 0, 0, 0, 8), (.if_icmp .gt 18, 73, 0, 0, 0), (.iload 5, 0, 0, 0, 0), (.iconst 1, 0, 0, 0, 1), (.bipush 99, 0, 0, 0, 99), (.invokestatic 99, 142, 3, 0, 0), (.ifCond .eq 7, 73, 0, 0, 0), (.iconst 1, 0, 0, 0, 1), (.goto 4, 74, 0, 0, 0)]
  | 73 => [(.iconst 0, 0, 0, 0, 0)]
  | 74 => [(.istore 7, 0, 0, 0, 0), (.iload 7, 0, 0, 0, 0), (.ifCond .ne 5, 83, 0, 0, 0), (.iconst (-1), 0, 0, 0, (-1)), (.ireturn, 0, 0, 0, 0)]
  | 83 => [(.aload_n 0, 0, 0, 0, 0), (.getfield 12, 11, 0, 0, 0), (.iload_n 1, 0, 0, 0, 0), (.iload_n 2, 0, 0, 0, 0), (.iload_n 3, 0, 0, 0, 0), (.iload 4, 0, 0, 0, 0), (.invokevirtual 257, 99, 4, 10, 0), (.ifCond .eq 6, 101, 0, 0, 0), (.bipush (-3), 0, 0, 0, (-3)), (.ireturn, 0, 0, 0, 0)]
  | 101 => [(.iload 6, 0, 0, 0, 0), (.ifCond .eq 7, 110, 0, 0, 0), (.iconst 0, 0, 0, 0, 0), (.goto 5, 112, 0, 0, 0)]
  | 110 => [(.bipush (-5), 0, 0, 0, (-5))]
  | 112 => [(.ireturn, 0, 0, 0, 0)]
  | _ => []
theorem kX11_hindrance (pc : Nat) : chk 139 (bX11_hindrance pc) pc = true := by
  unfold bX11_hindrance; split
  · decide +kernel
  · decide +kernel
  · decide +kernel
  · decide +kernel
  · decide +kernel
  · decide +kernel
  · decide +kernel
  · rfl
def bX11_addFromTape : Nat → List Ins := fun pc => match pc with
  | 0 => [(.iload_n 1, 0, 0, 0, 0), (.iconst 5, 0, 0, 0, 5), (.iadd, 0, 0, 0, 0), (.aload_n 0, 0, 0, 0, 0), (.getfield 27, 11, 3, 0, 0), (.getfield 121, 8, 1, 0, 0), (.if_icmp .le 5, 15, 0, 0, 0), (.iconst 0, 0, 0, 0, 0), (.ireturn, 1, 0, 0, 0)]
  | 15 => [(.aload_n 0, 0, 0, 0, 0), (.getfield 27, 11, 3, 0, 0), (.iload_n 1, 0, 0, 0, 0), (.invokevirtual 261, 68, 1, 8, 0), (.istore_n 2, 0, 0, 0, 0), (.aload_n 0, 0, 0, 0, 0), (.getfield 27, 11, 3, 0, 0), (.iload_n 1, 0, 0, 0, 0), (.iconst 1, 0, 0, 0, 1), (.iadd, 0, 0, 0, 0), (.invokevirtual 261, 68, 1, 8, 0), (.istore_n 3, 0, 0, 0, 0), (.aload_n 0, 0, 0, 0, 0), (.getfield 27, 11, 3, 0, 0), (.iload_n 1, 0, 0, 0, 0), (.iconst 2, 0, 0, 0, 2), (.iadd, 0, 0, 0, 0), (.invokevirtual 261, 68, 1, 8, 0), (.istore 4, 0, 0, 0, 0), (.aload_n 0, 0, 0, 0, 0), (.getfield 27, 11, 3, 0, 0), (.iload_n 1, 0, 0, 0, 0), (.iconst 3, 0, 0, 0, 3), (.iadd, 0, 0, 0, 0), (.invokevirtual 261, 68, 1, 8, 0), (.istore 5, 0, 0, 0, 0), (.aload_n 0, 0, 0, 0, 0), (.getfield 27, 11, 3, 0, 0), (.iload_n 1, 0, 0, 0, 0), (.iconst 4, 0, 0, 0, 4), (.iadd, 0, 0, 0, 0), (.invokevirtual 261, 68, 1, 8, 0), (.istore 6, 0, 0, 0, 0), (.aload_n 0, 0, 0, 0, 0), (.iload_n 2, 0, 0, 0, 0), (.iload_n 3, 0, 0, 0, 0), (.iload 4, 0, 0, 0, 0), (.iload 5, 0, 0, 0, 0), (.iload 6, 0, 0, 0, 0), (.aload_n 0, 0, 0, 0, 0), (.getfield 12, 11, 0, 0, 0), (.getfield 75, 10, 3, 0, 0), (.bipush 14, 0, 0, 0, 14), (.if_icmp .ge 7, 96, 0, 0, 0), (.iconst 1, 0, 0, 0, 1), (.goto 4, 97, 0, 0, 0)]
  | 96 => [(.iconst 0, 0, 0, 0, 0)]
  | 97 => [(.invokevirtual 78, 139, 6, 11, 0), (.ifCond .eq 5, 105, 0, 0, 0), (.iconst 0, 0, 0, 0, 0), (.ireturn, 1, 0, 0, 0)]
  | 105 => [(.aload_n 0, 0, 0, 0, 0), (.getfield 12, 11, 0, 0, 0), (.iload_n 2, 0, 0, 0, 0), (.iload_n 3, 0, 0, 0, 0), (.iload 4, 0, 0, 0, 0), (.iload 5, 0, 0, 0, 0), (.iload 6, 0, 0, 0, 0), (.invokevirtual 86, 86, 5, 10, 0), (.pop, 0, 0, 0, 0), (.iconst 1, 0, 0, 0, 1), (.ireturn, 1, 0, 0, 0)]
  | _ => []
theorem kX11_addFromTape (pc : Nat) : chk 140 (bX11_addFromTape pc) pc = true := by
  unfold bX11_addFromTape; split
  · decide +kernel
  · decide +kernel
  · decide +kernel
  · decide +kernel
  · decide +kernel
  · rfl
def bX11_refresh : Nat → List Ins := fun pc => match pc with
  | 0 => [(.aload_n 0, 0, 0, 0, 0), (.getfield 71, 11, 12, 0, 0), (.ifCond .eq 26, 30, 0, 0, 0), (.aload_n 0, 0, 0, 0, 0), (.getfield 43, 11, 5, 0, 0), (.aload_n 0, 0, 0, 0, 0), (.getfield 12, 11, 0, 0, 0), (.invokevirtual 264, 13, 1, 2, 0), (.aload_n 0, 0, 0, 0, 0), (.getfield 52, 11, 6, 0, 0), (.invokevirtual 267, 70, 0, 9, 0), (.aload_n 0, 0, 0, 0, 0), (.iconst 0, 0, 0, 0, 0), (.putfield 71, 11, 12, 1, 0)]
  | 30 => [(.return_, 0, 0, 0, 0)]
  | _ => []
theorem kX11_refresh (pc : Nat) : chk 141 (bX11_refresh pc) pc = true := by
  unfold bX11_refresh; split
  · decide +kernel
  · decide +kernel
  · rfl
def bX11_isWithin : Nat → List Ins := fun pc => match pc with
  | 0 => [(.iload_n 0, 0, 0, 0, 0), (.iload_n 1, 0, 0, 0, 0), (.if_icmp .lt 12, 14, 0, 0, 0), (.iload_n 0, 0, 0, 0, 0), (.iload_n 2, 0, 0, 0, 0), (.if_icmp .gt 7, 14, 0, 0, 0), (.iconst 1, 0, 0, 0, 1), (.goto 4, 15, 0, 0, 0)]
  | 14 => [(.iconst 0, 0, 0, 0, 0)]
  | 15 => [(.ireturn, 1, 0, 0, 0)]
  | _ => []
theorem kX11_isWithin (pc : Nat) : chk 142 (bX11_isWithin pc) pc = true := by
  unfold bX11_isWithin; split
  · decide +kernel
  · decide +kernel
  · decide +kernel
  · rfl
def bX11_isPart : Nat → List Ins := fun pc => match pc with
  | 0 => [(.iload_n 0, 0, 0, 0, 0), (.iload_n 1, 0, 0, 0, 0), (.iconst (-1), 0, 0, 0, (-1)), (.ixor, 0, 0, 0, 0), (.iand, 0, 0, 0, 0), (.ifCond .ne 7, 12, 0, 0, 0), (.iconst 1, 0, 0, 0, 1), (.goto 4, 13, 0, 0, 0)]
  | 12 => [(.iconst 0, 0, 0, 0, 0)]
  | 13 => [(.ireturn, 1, 0, 0, 0)]
  | _ => []
theorem kX11_isPart (pc : Nat) : chk 143 (bX11_isPart pc) pc = true := by
  unfold bX11_isPart; split
  · decide +kernel
  · decide +kernel
  · decide +kernel
  · rfl
end
section
/-! the code of the methods, as lists (wip/gen/code.py) -/
def bX12_lies : Nat → List Ins := fun pc => match pc with
  | 0 => [(.iload_n 0, 0, 0, 0, 0), (.iload_n 1, 0, 0, 0, 0), (.if_icmp .lt 12, 14, 0, 0, 0), (.iload_n 0, 0, 0, 0, 0), (.iload_n 2, 0, 0, 0, 0), (.if_icmp .gt 7, 14, 0, 0, 0), (.iconst 1, 0, 0, 0, 1), (.goto 4, 15, 0, 0, 0)]
  | 14 => [(.iconst 0, 0, 0, 0, 0)]
  | 15 => [(.ireturn, 1, 0, 0, 0)]
  | _ => []
theorem kX12_lies (pc : Nat) : chk 144 (bX12_lies pc) pc = true := by
  unfold bX12_lies; split
  · decide +kernel
  · decide +kernel
  · decide +kernel
  · rfl
def bX12_refuses : Nat → List Ins := fun pc => match pc with
  | 0 => [(.aload_n 0, 0, 0, 0, 0), (.iload_n 1, 0, 0, 0, 0), (.putfield 3, 12, 0, 0, 0), (.aload_n 0, 0, 0, 0, 0), (.getfield 7, 12, 2, 0, 0), (.iload_n 1, 0, 0, 0, 0), (.ineg, 0, 0, 0, 0), (.dup2, 0, 0, 0, 0), (.iaload, 0, 0, 0, 0), (.iconst 1, 0, 0, 0, 1), (.iadd, 0, 0, 0, 0), (.iastore, 0, 0, 0, 0), (.iload_n 1, 0, 0, 0, 0), (.ireturn, 0, 0, 0, 0)]
  | _ => []
theorem kX12_refuses (pc : Nat) : chk 145 (bX12_refuses pc) pc = true := by
  unfold bX12_refuses; split
  · decide +kernel
  · rfl
def bX12_good : Nat → List Ins := fun pc => match pc with
  | 0 => [(.aload_n 0, 0, 0, 0, 0), (.iconst 0, 0, 0, 0, 0), (.putfield 3, 12, 0, 0, 0), (.aload_n 0, 0, 0, 0, 0), (.dup, 0, 0, 0, 0), (.getfield 11, 12, 1, 0, 0), (.iconst 1, 0, 0, 0, 1), (.iadd, 0, 0, 0, 0), (.putfield 11, 12, 1, 0, 0), (.iload_n 1, 0, 0, 0, 0), (.ireturn, 0, 0, 0, 0)]
  | _ => []
theorem kX12_good (pc : Nat) : chk 146 (bX12_good pc) pc = true := by
  unfold bX12_good; split
  · decide +kernel
  · rfl
def bX12_isIn : Nat → List Ins := fun pc => match pc with
  | 0 => [(.iload_n 0, 0, 0, 0, 0), (.iload_n 1, 0, 0, 0, 0), (.ishr, 0, 0, 0, 0), (.iconst 1, 0, 0, 0, 1), (.iand, 0, 0, 0, 0), (.iconst 1, 0, 0, 0, 1), (.if_icmp .ne 7, 13, 0, 0, 0), (.iconst 1, 0, 0, 0, 1), (.goto 4, 14, 0, 0, 0)]
  | 13 => [(.iconst 0, 0, 0, 0, 0)]
  | 14 => [(.ireturn, 1, 0, 0, 0)]
  | _ => []
theorem kX12_isIn (pc : Nat) : chk 147 (bX12_isIn pc) pc = true := by
  unfold bX12_isIn; split
  · decide +kernel
  · decide +kernel
  · decide +kernel
  · rfl
def bX12_ones : Nat → List Ins := fun pc => match pc with
  | 0 => [(.iconst 0, 0, 0, 0, 0), (.istore_n 1, 0, 0, 0, 0), (.iconst 0, 0, 0, 0, 0), (.istore_n 2, 0, 0, 0, 0)]
  | 4 => [(.iload_n 2, 0, 0, 0, 0), (.bipush 22, 0, 0, 0, 22), (.if_icmp .ge 17, 24, 0, 0, 0), (.iload_n 1, 0, 0, 0, 0), (.iload_n 0, 0, 0, 0, 0), (.iload_n 2, 0, 0, 0, 0), (.ishr, 0, 0, 0, 0), (.iconst 1, 0, 0, 0, 1), (.iand, 0, 0, 0, 0), (.iadd, 0, 0, 0, 0), (.istore_n 1, 0, 0, 0, 0), (.iinc 2 1, 0, 0, 0, 1), (.goto (-17), 4, 0, 0, 0)]
  | 24 => [(.iload_n 1, 0, 0, 0, 0), (.ireturn, 0, 0, 0, 0)]
  | _ => []
theorem kX12_ones (pc : Nat) : chk 148 (bX12_ones pc) pc = true := by
  unfold bX12_ones; split
  · decide +kernel
  · decide +kernel
  · decide +kernel
  · rfl
def bX12_image : Nat → List Ins := fun pc => match pc with
  | 0 => [(.iload_n 1, 0, 0, 0, 0), (.iconst 0, 0, 0, 0, 0), (.iconst 1, 0, 0, 0, 1), (.invokestatic 91, 144, 3, 0, 0), (.ifCond .ne 9, 15, 0, 0, 0), (.aload_n 0, 0, 0, 0, 0), (.iconst (-1), 0, 0, 0, (-1)), (.invokevirtual 95, 145, 1, 12, 0), (.ireturn, 0, 0, 0, 0)]
  | 15 => [(.iconst 0, 0, 0, 0, 0), (.istore_n 2, 0, 0, 0, 0)]
  | 17 => [(.iload_n 2, 0, 0, 0, 0), (.sipush 4968, 0, 0, 0, 4968), (.if_icmp .ge 27, 48, 0, 0, 0), (.aload_n 0, 0, 0, 0, 0), (.getfield 23, 12, 4, 0, 0), (.sipush 4968, 0, 0, 0, 4968), (.iload_n 1, 0, 0, 0, 0), (.imul, 0, 0, 0, 0), (.iload_n 2, 0, 0, 0, 0), (.iadd, 0, 0, 0, 0), (.aload_n 0, 0, 0, 0, 0), (.getfield 20, 12, 3, 0, 0), (.iload_n 2, 0, 0, 0, 0), (.iaload, 0, 0, 0, 0), (.iastore, 0, 0, 0, 0), (.iinc 2 1, 0, 0, 0, 1), (.goto (-28), 17, 0, 0, 0)]
  | 48 => [(.aload_n 0, 0, 0, 0, 0), (.getfield 26, 12, 5, 0, 0), (.iload_n 1, 0, 0, 0, 0), (.iconst 1, 0, 0, 0, 1), (.bastore, 0, 0, 0, 0), (.aload_n 0, 0, 0, 0, 0), (.iconst 0, 0, 0, 0, 0), (.invokevirtual 99, 146, 1, 12, 0), (.ireturn, 0, 0, 0, 0)]
  | _ => []
theorem kX12_image (pc : Nat) : chk 150 (bX12_image pc) pc = true := by
  unfold bX12_image; split
  · decide +kernel
  · decide +kernel
  · decide +kernel
  · decide +kernel
  · rfl
def bX12_back : Nat → List Ins := fun pc => match pc with
  | 0 => [(.iload_n 1, 0, 0, 0, 0), (.iconst 0, 0, 0, 0, 0), (.iconst 1, 0, 0, 0, 1), (.invokestatic 91, 144, 3, 0, 0), (.ifCond .ne 9, 15, 0, 0, 0), (.aload_n 0, 0, 0, 0, 0), (.iconst (-1), 0, 0, 0, (-1)), (.invokevirtual 95, 145, 1, 12, 0), (.ireturn, 0, 0, 0, 0)]
  | 15 => [(.aload_n 0, 0, 0, 0, 0), (.getfield 26, 12, 5, 0, 0), (.iload_n 1, 0, 0, 0, 0), (.baload, 0, 0, 0, 0), (.ifCond .ne 10, 31, 0, 0, 0), (.aload_n 0, 0, 0, 0, 0), (.bipush (-2), 0, 0, 0, (-2)), (.invokevirtual 95, 145, 1, 12, 0), (.ireturn, 0, 0, 0, 0)]
  | 31 => [(.iconst 0, 0, 0, 0, 0), (.istore_n 2, 0, 0, 0, 0)]
  | 33 => [(.iload_n 2, 0, 0, 0, 0), (.sipush 4968, 0, 0, 0, 4968), (.if_icmp .ge 27, 64, 0, 0, 0), (.aload_n 0, 0, 0, 0, 0), (.getfield 20, 12, 3, 0, 0), (.iload_n 2, 0, 0, 0, 0), (.aload_n 0, 0, 0, 0, 0), (.getfield 23, 12, 4, 0, 0), (.sipush 4968, 0, 0, 0, 4968), (.iload_n 1, 0, 0, 0, 0), (.imul, 0, 0, 0, 0), (.iload_n 2, 0, 0, 0, 0), (.iadd, 0, 0, 0, 0), (.iaload, 0, 0, 0, 0), (.iastore, 0, 0, 0, 0), (.iinc 2 1, 0, 0, 0, 1), (.goto (-28), 33, 0, 0, 0)]
  | 64 => [(.aload_n 0, 0, 0, 0, 0), (.iconst 0, 0, 0, 0, 0), (.invokevirtual 99, 146, 1, 12, 0), (.ireturn, 0, 0, 0, 0)]
  | _ => []
theorem kX12_back (pc : Nat) : chk 151 (bX12_back pc) pc = true := by
  unfold bX12_back; split
  · decide +kernel
  · decide +kernel
  · decide +kernel
  · decide +kernel
  · decide +kernel
  · rfl
def bX12_stones : Nat → List Ins := fun pc => match pc with
  | 0 => [(.aload_n 0, 0, 0, 0, 0), (.getfield 20, 12, 3, 0, 0), (.sipush 157, 0, 0, 0, 157), (.iaload, 0, 0, 0, 0), (.ireturn, 0, 0, 0, 0)]
  | _ => []
theorem kX12_stones (pc : Nat) : chk 152 (bX12_stones pc) pc = true := by
  unfold bX12_stones; split
  · decide +kernel
  · rfl
def bX12_spares : Nat → List Ins := fun pc => match pc with
  | 0 => [(.aload_n 0, 0, 0, 0, 0), (.getfield 20, 12, 3, 0, 0), (.sipush 158, 0, 0, 0, 158), (.iaload, 0, 0, 0, 0), (.ireturn, 0, 0, 0, 0)]
  | _ => []
theorem kX12_spares (pc : Nat) : chk 153 (bX12_spares pc) pc = true := by
  unfold bX12_spares; split
  · decide +kernel
  · rfl
def bX12_isStone : Nat → List Ins := fun pc => match pc with
  | 0 => [(.iload_n 1, 0, 0, 0, 0), (.iconst 0, 0, 0, 0, 0), (.aload_n 0, 0, 0, 0, 0), (.invokevirtual 102, 152, 0, 12, 0), (.iconst 1, 0, 0, 0, 1), (.isub, 0, 0, 0, 0), (.invokestatic 91, 144, 3, 0, 0), (.ireturn, 1, 0, 0, 0)]
  | _ => []
theorem kX12_isStone (pc : Nat) : chk 154 (bX12_isStone pc) pc = true := by
  unfold bX12_isStone; split
  · decide +kernel
  · rfl
def bX12_factOf : Nat → List Ins := fun pc => match pc with
  | 0 => [(.aload_n 0, 0, 0, 0, 0), (.getfield 20, 12, 3, 0, 0), (.bipush 7, 0, 0, 0, 7), (.iload_n 1, 0, 0, 0, 0), (.imul, 0, 0, 0, 0), (.iload_n 2, 0, 0, 0, 0), (.iadd, 0, 0, 0, 0), (.iaload, 0, 0, 0, 0), (.ireturn, 0, 0, 0, 0)]
  | _ => []
theorem kX12_factOf (pc : Nat) : chk 155 (bX12_factOf pc) pc = true := by
  unfold bX12_factOf; split
  · decide +kernel
  · rfl
def bX12_isItem : Nat → List Ins := fun pc => match pc with
  | 0 => [(.iload_n 1, 0, 0, 0, 0), (.bipush 14, 0, 0, 0, 14), (.if_icmp .ge 11, 14, 0, 0, 0), (.aload_n 0, 0, 0, 0, 0), (.iload_n 1, 0, 0, 0, 0), (.invokevirtual 106, 154, 1, 12, 0), (.goto 19, 30, 0, 0, 0)]
  | 14 => [(.iload_n 1, 0, 0, 0, 0), (.bipush 14, 0, 0, 0, 14), (.isub, 0, 0, 0, 0), (.aload_n 0, 0, 0, 0, 0), (.invokevirtual 110, 153, 0, 12, 0), (.if_icmp .ge 7, 29, 0, 0, 0), (.iconst 1, 0, 0, 0, 1), (.goto 4, 30, 0, 0, 0)]
  | 29 => [(.iconst 0, 0, 0, 0, 0)]
  | 30 => [(.ireturn, 1, 0, 0, 0)]
  | _ => []
theorem kX12_isItem (pc : Nat) : chk 156 (bX12_isItem pc) pc = true := by
  unfold bX12_isItem; split
  · decide +kernel
  · decide +kernel
  · decide +kernel
  · decide +kernel
  · rfl
def bX12_covers : Nat → List Ins := fun pc => match pc with
  | 0 => [(.iload_n 2, 0, 0, 0, 0), (.aload_n 0, 0, 0, 0, 0), (.iload_n 1, 0, 0, 0, 0), (.iconst 0, 0, 0, 0, 0), (.invokevirtual 113, 155, 2, 12, 0), (.aload_n 0, 0, 0, 0, 0), (.iload_n 1, 0, 0, 0, 0), (.iconst 0, 0, 0, 0, 0), (.invokevirtual 113, 155, 2, 12, 0), (.aload_n 0, 0, 0, 0, 0), (.iload_n 1, 0, 0, 0, 0), (.iconst 2, 0, 0, 0, 2), (.invokevirtual 113, 155, 2, 12, 0), (.iadd, 0, 0, 0, 0), (.iconst 1, 0, 0, 0, 1), (.isub, 0, 0, 0, 0), (.invokestatic 91, 144, 3, 0, 0), (.ifCond .eq 35, 60, 0, 0, 0), (.iload_n 3, 0, 0, 0, 0), (.aload_n 0, 0, 0, 0, 0), (.iload_n 1, 0, 0, 0, 0), (.iconst 1, 0, 0, 0, 1), (.invokevirtual 113, 155, 2, 12, 0), (.aload_n 0, 0, 0, 0, 0), (.iload_n 1, 0, 0, 0, 0), (.iconst 1, 0, 0, 0, 1), (.invokevirtual 113, 155, 2, 12, 0), (.aload_n 0, 0, 0, 0, 0), (.iload_n 1, 0, 0, 0, 0), (.iconst 3, 0, 0, 0, 3), (.invokevirtual 113, 155, 2, 12, 0), (.iadd, 0, 0, 0, 0), (.iconst 1, 0, 0, 0, 1), (.isub, 0, 0, 0, 0), (.invokestatic 91, 144, 3, 0, 0), (.ifCond .eq 7, 60, 0, 0, 0), (.iconst 1, 0, 0, 0, 1), (.goto 4, 61, 0, 0, 0)]
  | 60 => [(.iconst 0, 0, 0, 0, 0)]
  | 61 => [(.ireturn, 1, 0, 0, 0)]
  | _ => []
theorem kX12_covers (pc : Nat) : chk 157 (bX12_covers pc) pc = true := by
  unfold bX12_covers; split
  · decide +kernel
  · decide +kernel
  · decide +kernel
  · rfl
def bX12_canBe : Nat → List Ins := fun pc => match pc with
  | 0 => [(.iload_n 2, 0, 0, 0, 0), (.iconst 1, 0, 0, 0, 1), (.bipush 6, 0, 0, 0, 6), (.invokestatic 91, 144, 3, 0, 0), (.ifCond .eq 52, 59, 0, 0, 0), (.iload_n 3, 0, 0, 0, 0), (.iconst 1, 0, 0, 0, 1), (.bipush 6, 0, 0, 0, 6), (.invokestatic 91, 144, 3, 0, 0), (.ifCond .eq 42, 59, 0, 0, 0), (.iload_n 0, 0, 0, 0, 0), (.iconst 0, 0, 0, 0, 0), (.bipush 12, 0, 0, 0, 12), (.iload_n 2, 0, 0, 0, 0), (.isub, 0, 0, 0, 0), (.invokestatic 91, 144, 3, 0, 0), (.ifCond .eq 30, 59, 0, 0, 0), (.iload_n 1, 0, 0, 0, 0), (.iconst 0, 0, 0, 0, 0), (.bipush 8, 0, 0, 0, 8), (.iload_n 3, 0, 0, 0, 0), (.isub, 0, 0, 0, 0), (.invokestatic 91, 144, 3, 0, 0), (.ifCond .eq 18, 59, 0, 0, 0), (.iload 4, 0, 0, 0, 0), (.iconst 1, 0, 0, 0, 1), (.bipush 99, 0, 0, 0, 99), (.invokestatic 91, 144, 3, 0, 0), (.ifCond .eq 7, 59, 0, 0, 0), (.iconst 1, 0, 0, 0, 1), (.goto 4, 60, 0, 0, 0)]
  | 59 => [(.iconst 0, 0, 0, 0, 0)]
  | 60 => [(.ireturn, 1, 0, 0, 0)]
  | _ => []
theorem kX12_canBe (pc : Nat) : chk 158 (bX12_canBe pc) pc = true := by
  unfold bX12_canBe; split
  · decide +kernel
  · decide +kernel
  · decide +kernel
  · rfl
def bX12_isFree : Nat → List Ins := fun pc => match pc with
  | 0 => [(.iconst 0, 0, 0, 0, 0), (.istore 5, 0, 0, 0, 0)]
  | 3 => [(.iload 5, 0, 0, 0, 0), (.bipush 22, 0, 0, 0, 22), (.if_icmp .ge 59, 66, 0, 0, 0), (.iconst 0, 0, 0, 0, 0), (.istore 6, 0, 0, 0, 0)]
  | 13 => [(.iload 6, 0, 0, 0, 0), (.iload_n 3, 0, 0, 0, 0), (.iload 4, 0, 0, 0, 0), (.imul, 0, 0, 0, 0), (.if_icmp .ge 41, 60, 0, 0, 0), (.aload_n 0, 0, 0, 0, 0), (.iload 5, 0, 0, 0, 0), (.invokevirtual 117, 156, 1, 12, 0), (.ifCond .eq 26, 54, 0, 0, 0), (.aload_n 0, 0, 0, 0, 0), (.iload 5, 0, 0, 0, 0), (.iload_n 1, 0, 0, 0, 0), (.iload 6, 0, 0, 0, 0), (.iload_n 3, 0, 0, 0, 0), (.irem, 0, 0, 0, 0), (.iadd, 0, 0, 0, 0), (.iload_n 2, 0, 0, 0, 0), (.iload 6, 0, 0, 0, 0), (.iload_n 3, 0, 0, 0, 0), (.idiv, 0, 0, 0, 0), (.iadd, 0, 0, 0, 0), (.invokevirtual 120, 157, 3, 12, 0), (.ifCond .eq 5, 54, 0, 0, 0), (.iconst 0, 0, 0, 0, 0), (.ireturn, 1, 0, 0, 0)]
  | 54 => [(.iinc 6 1, 0, 0, 0, 1), (.goto (-44), 13, 0, 0, 0)]
  | 60 => [(.iinc 5 1, 0, 0, 0, 1), (.goto (-60), 3, 0, 0, 0)]
  | 66 => [(.iconst 1, 0, 0, 0, 1), (.ireturn, 1, 0, 0, 0)]
  | _ => []
theorem kX12_isFree (pc : Nat) : chk 159 (bX12_isFree pc) pc = true := by
  unfold bX12_isFree; split
  · decide +kernel
  · decide +kernel
  · decide +kernel
  · decide +kernel
  · decide +kernel
  · decide +kernel
  · rfl
def bX12_lays : Nat → List Ins := fun pc => match pc with
  | 0 => [(.bipush 7, 0, 0, 0, 7), (.iload_n 1, 0, 0, 0, 0), (.imul, 0, 0, 0, 0), (.istore 7, 0, 0, 0, 0), (.aload_n 0, 0, 0, 0, 0), (.getfield 20, 12, 3, 0, 0), (.iload 7, 0, 0, 0, 0), (.iload_n 2, 0, 0, 0, 0), (.iastore, 0, 0, 0, 0), (.aload_n 0, 0, 0, 0, 0), (.getfield 20, 12, 3, 0, 0), (.iload 7, 0, 0, 0, 0), (.iconst 1, 0, 0, 0, 1), (.iadd, 0, 0, 0, 0), (.iload_n 3, 0, 0, 0, 0), (.iastore, 0, 0, 0, 0), (.aload_n 0, 0, 0, 0, 0), (.getfield 20, 12, 3, 0, 0), (.iload 7, 0, 0, 0, 0), (.iconst 2, 0, 0, 0, 2), (.iadd, 0, 0, 0, 0), (.iload 4, 0, 0, 0, 0), (.iastore, 0, 0, 0, 0), (.aload_n 0, 0, 0, 0, 0), (.getfield 20, 12, 3, 0, 0), (.iload 7, 0, 0, 0, 0), (.iconst 3, 0, 0, 0, 3), (.iadd, 0, 0, 0, 0), (.iload 5, 0, 0, 0, 0), (.iastore, 0, 0, 0, 0), (.aload_n 0, 0, 0, 0, 0), (.getfield 20, 12, 3, 0, 0), (.iload 7, 0, 0, 0, 0), (.iconst 4, 0, 0, 0, 4), (.iadd, 0, 0, 0, 0), (.iload 6, 0, 0, 0, 0), (.iastore, 0, 0, 0, 0), (.aload_n 0, 0, 0, 0, 0), (.getfield 20, 12, 3, 0, 0), (.iload 7, 0, 0, 0, 0), (.iconst 5, 0, 0, 0, 5), (.iadd, 0, 0, 0, 0), (.iconst 0, 0, 0, 0, 0), (.iastore, 0, 0, 0, 0), (.aload_n 0, 0, 0, 0, 0), (.getfield 20, 12, 3, 0, 0), (.iload 7, 0, 0, 0, 0), (.bipush 6, 0, 0, 0, 6), (.iadd, 0, 0, 0, 0), (.iconst 0, 0, 0, 0, 0), (.iastore, 0, 0, 0, 0), (.return_, 0, 0, 0, 0)]
  | _ => []
theorem kX12_lays (pc : Nat) : chk 160 (bX12_lays pc) pc = true := by
  unfold bX12_lays; split
  · decide +kernel
  · rfl
def bX12_adds : Nat → List Ins := fun pc => match pc with
  | 0 => [(.aload_n 0, 0, 0, 0, 0), (.invokevirtual 102, 152, 0, 12, 0), (.istore 6, 0, 0, 0, 0), (.aload_n 0, 0, 0, 0, 0), (.iload 6, 0, 0, 0, 0), (.iload_n 1, 0, 0, 0, 0), (.iload_n 2, 0, 0, 0, 0), (.iload_n 3, 0, 0, 0, 0), (.iload 4, 0, 0, 0, 0), (.iload 5, 0, 0, 0, 0), (.invokevirtual 123, 160, 6, 12, 0), (.aload_n 0, 0, 0, 0, 0), (.getfield 20, 12, 3, 0, 0), (.sipush 159, 0, 0, 0, 159), (.dup2, 0, 0, 0, 0), (.iaload, 0, 0, 0, 0), (.iconst 1, 0, 0, 0, 1), (.iload 6, 0, 0, 0, 0), (.ishl, 0, 0, 0, 0), (.ior, 0, 0, 0, 0), (.iastore, 0, 0, 0, 0), (.aload_n 0, 0, 0, 0, 0), (.getfield 20, 12, 3, 0, 0), (.sipush 157, 0, 0, 0, 157), (.dup2, 0, 0, 0, 0), (.iaload, 0, 0, 0, 0), (.iconst 1, 0, 0, 0, 1), (.iadd, 0, 0, 0, 0), (.iastore, 0, 0, 0, 0), (.iload 6, 0, 0, 0, 0), (.ireturn, 0, 0, 0, 0)]
  | _ => []
theorem kX12_adds (pc : Nat) : chk 161 (bX12_adds pc) pc = true := by
  unfold bX12_adds; split
  · decide +kernel
  · rfl
def bX12_stone : Nat → List Ins := fun pc => match pc with
  | 0 => [(.iload_n 1, 0, 0, 0, 0), (.iload_n 2, 0, 0, 0, 0), (.iload_n 3, 0, 0, 0, 0), (.iload 4, 0, 0, 0, 0), (.iload 5, 0, 0, 0, 0), (.invokestatic 127, 158, 5, 0, 0), (.ifCond .ne 9, 19, 0, 0, 0), (.aload_n 0, 0, 0, 0, 0), (.iconst (-1), 0, 0, 0, (-1)), (.invokevirtual 95, 145, 1, 12, 0), (.ireturn, 0, 0, 0, 0)]
  | 19 => [(.aload_n 0, 0, 0, 0, 0), (.iload_n 1, 0, 0, 0, 0), (.iload_n 2, 0, 0, 0, 0), (.iload_n 3, 0, 0, 0, 0), (.iload 4, 0, 0, 0, 0), (.invokevirtual 131, 159, 4, 12, 0), (.ifCond .ne 10, 38, 0, 0, 0), (.aload_n 0, 0, 0, 0, 0), (.bipush (-3), 0, 0, 0, (-3)), (.invokevirtual 95, 145, 1, 12, 0), (.ireturn, 0, 0, 0, 0)]
  | 38 => [(.aload_n 0, 0, 0, 0, 0), (.invokevirtual 102, 152, 0, 12, 0), (.bipush 14, 0, 0, 0, 14), (.if_icmp .ne 10, 54, 0, 0, 0), (.aload_n 0, 0, 0, 0, 0), (.bipush (-5), 0, 0, 0, (-5)), (.invokevirtual 95, 145, 1, 12, 0), (.ireturn, 0, 0, 0, 0)]
  | 54 => [(.aload_n 0, 0, 0, 0, 0), (.aload_n 0, 0, 0, 0, 0), (.iload_n 1, 0, 0, 0, 0), (.iload_n 2, 0, 0, 0, 0), (.iload_n 3, 0, 0, 0, 0), (.iload 4, 0, 0, 0, 0), (.iload 5, 0, 0, 0, 0), (.invokevirtual 135, 161, 5, 12, 0), (.invokevirtual 99, 146, 1, 12, 0), (.ireturn, 0, 0, 0, 0)]
  | _ => []
theorem kX12_stone (pc : Nat) : chk 162 (bX12_stone pc) pc = true := by
  unfold bX12_stone; split
  · decide +kernel
  · decide +kernel
  · decide +kernel
  · decide +kernel
  · rfl
def bX12_spare : Nat → List Ins := fun pc => match pc with
  | 0 => [(.iload_n 1, 0, 0, 0, 0), (.iload_n 2, 0, 0, 0, 0), (.iload_n 3, 0, 0, 0, 0), (.iload 4, 0, 0, 0, 0), (.iload 5, 0, 0, 0, 0), (.invokestatic 127, 158, 5, 0, 0), (.ifCond .ne 9, 19, 0, 0, 0), (.aload_n 0, 0, 0, 0, 0), (.iconst (-1), 0, 0, 0, (-1)), (.invokevirtual 95, 145, 1, 12, 0), (.ireturn, 0, 0, 0, 0)]
  | 19 => [(.aload_n 0, 0, 0, 0, 0), (.iload_n 1, 0, 0, 0, 0), (.iload_n 2, 0, 0, 0, 0), (.iload_n 3, 0, 0, 0, 0), (.iload 4, 0, 0, 0, 0), (.invokevirtual 131, 159, 4, 12, 0), (.ifCond .ne 10, 38, 0, 0, 0), (.aload_n 0, 0, 0, 0, 0), (.bipush (-3), 0, 0, 0, (-3)), (.invokevirtual 95, 145, 1, 12, 0), (.ireturn, 0, 0, 0, 0)]
  | 38 => [(.aload_n 0, 0, 0, 0, 0), (.invokevirtual 110, 153, 0, 12, 0), (.istore 6, 0, 0, 0, 0), (.iload 6, 0, 0, 0, 0), (.bipush 8, 0, 0, 0, 8), (.if_icmp .ne 10, 58, 0, 0, 0), (.aload_n 0, 0, 0, 0, 0), (.bipush (-5), 0, 0, 0, (-5)), (.invokevirtual 95, 145, 1, 12, 0), (.ireturn, 0, 0, 0, 0)]
  | 58 => [(.aload_n 0, 0, 0, 0, 0), (.bipush 14, 0, 0, 0, 14), (.iload 6, 0, 0, 0, 0), (.iadd, 0, 0, 0, 0), (.iload_n 1, 0, 0, 0, 0), (.iload_n 2, 0, 0, 0, 0), (.iload_n 3, 0, 0, 0, 0), (.iload 4, 0, 0, 0, 0), (.iload 5, 0, 0, 0, 0), (.invokevirtual 123, 160, 6, 12, 0), (.aload_n 0, 0, 0, 0, 0), (.getfield 20, 12, 3, 0, 0), (.sipush 158, 0, 0, 0, 158), (.dup2, 0, 0, 0, 0), (.iaload, 0, 0, 0, 0), (.iconst 1, 0, 0, 0, 1), (.iadd, 0, 0, 0, 0), (.iastore, 0, 0, 0, 0), (.aload_n 0, 0, 0, 0, 0), (.iload 6, 0, 0, 0, 0), (.invokevirtual 99, 146, 1, 12, 0), (.ireturn, 0, 0, 0, 0)]
  | _ => []
theorem kX12_spare (pc : Nat) : chk 163 (bX12_spare pc) pc = true := by
  unfold bX12_spare; split
  · decide +kernel
  · decide +kernel
  · decide +kernel
  · decide +kernel
  · rfl
def bX12_put : Nat → List Ins := fun pc => match pc with
  | 0 => [(.iload_n 2, 0, 0, 0, 0), (.iconst 0, 0, 0, 0, 0), (.iconst 2, 0, 0, 0, 2), (.invokestatic 91, 144, 3, 0, 0), (.ifCond .eq 39, 45, 0, 0, 0), (.iload_n 3, 0, 0, 0, 0), (.iload_n 2, 0, 0, 0, 0), (.ifCond .ne 7, 18, 0, 0, 0), (.iconst 1, 0, 0, 0, 1), (.goto 4, 19, 0, 0, 0)]
  | 18 => [(.iconst 0, 0, 0, 0, 0)]
  | 19 => [(.iload_n 2, 0, 0, 0, 0), (.ifCond .ne 8, 28, 0, 0, 0), (.bipush 99, 0, 0, 0, 99), (.goto 14, 39, 0, 0, 0)]
  | 28 => [(.iload_n 2, 0, 0, 0, 0), (.iconst 1, 0, 0, 0, 1), (.if_icmp .ne 7, 37, 0, 0, 0), (.iconst 3, 0, 0, 0, 3), (.goto 5, 39, 0, 0, 0)]
  | 37 => [(.bipush 100, 0, 0, 0, 100)]
  | 39 => [(.invokestatic 91, 144, 3, 0, 0), (.ifCond .ne 9, 51, 0, 0, 0)]
  | 45 => [(.aload_n 0, 0, 0, 0, 0), (.iconst (-1), 0, 0, 0, (-1)), (.invokevirtual 95, 145, 1, 12, 0), (.ireturn, 0, 0, 0, 0)]
  | 51 => [(.aload_n 0, 0, 0, 0, 0), (.iload_n 1, 0, 0, 0, 0), (.invokevirtual 106, 154, 1, 12, 0), (.ifCond .ne 10, 66, 0, 0, 0), (.aload_n 0, 0, 0, 0, 0), (.bipush (-2), 0, 0, 0, (-2)), (.invokevirtual 95, 145, 1, 12, 0), (.ireturn, 0, 0, 0, 0)]
  | 66 => [(.aload_n 0, 0, 0, 0, 0), (.iload_n 1, 0, 0, 0, 0), (.iconst 4, 0, 0, 0, 4), (.iload_n 2, 0, 0, 0, 0), (.iadd, 0, 0, 0, 0), (.invokevirtual 113, 155, 2, 12, 0), (.istore 4, 0, 0, 0, 0), (.aload_n 0, 0, 0, 0, 0), (.getfield 20, 12, 3, 0, 0), (.bipush 7, 0, 0, 0, 7), (.iload_n 1, 0, 0, 0, 0), (.imul, 0, 0, 0, 0), (.iconst 4, 0, 0, 0, 4), (.iadd, 0, 0, 0, 0), (.iload_n 2, 0, 0, 0, 0), (.iadd, 0, 0, 0, 0), (.iload_n 3, 0, 0, 0, 0), (.iastore, 0, 0, 0, 0), (.aload_n 0, 0, 0, 0, 0), (.iload 4, 0, 0, 0, 0), (.invokevirtual 99, 146, 1, 12, 0), (.ireturn, 0, 0, 0, 0)]
  | _ => []
theorem kX12_put (pc : Nat) : chk 164 (bX12_put pc) pc = true := by
  unfold bX12_put; split
  · decide +kernel
  · decide +kernel
  · decide +kernel
  · decide +kernel
  · decide +kernel
  · decide +kernel
  · decide +kernel
  · decide +kernel
  · decide +kernel
  · rfl
def bX12_of : Nat → List Ins := fun pc => match pc with
  | 0 => [(.aload_n 0, 0, 0, 0, 0), (.iload_n 1, 0, 0, 0, 0), (.invokevirtual 106, 154, 1, 12, 0), (.ifCond .eq 13, 18, 0, 0, 0), (.iload_n 2, 0, 0, 0, 0), (.iconst 0, 0, 0, 0, 0), (.bipush 7, 0, 0, 0, 7), (.invokestatic 91, 144, 3, 0, 0), (.ifCond .ne 5, 20, 0, 0, 0)]
  | 18 => [(.iconst (-1), 0, 0, 0, (-1)), (.ireturn, 0, 0, 0, 0)]
  | 20 => [(.iload_n 2, 0, 0, 0, 0), (.bipush 7, 0, 0, 0, 7), (.if_icmp .ge 12, 35, 0, 0, 0), (.aload_n 0, 0, 0, 0, 0), (.iload_n 1, 0, 0, 0, 0), (.iload_n 2, 0, 0, 0, 0), (.invokevirtual 113, 155, 2, 12, 0), (.goto 15, 47, 0, 0, 0)]
  | 35 => [(.aload_n 0, 0, 0, 0, 0), (.getfield 20, 12, 3, 0, 0), (.sipush 159, 0, 0, 0, 159), (.iaload, 0, 0, 0, 0), (.iload_n 1, 0, 0, 0, 0), (.ishr, 0, 0, 0, 0), (.iconst 1, 0, 0, 0, 1), (.iand, 0, 0, 0, 0)]
  | 47 => [(.ireturn, 0, 0, 0, 0)]
  | _ => []
theorem kX12_of (pc : Nat) : chk 165 (bX12_of pc) pc = true := by
  unfold bX12_of; split
  · decide +kernel
  · decide +kernel
  · decide +kernel
  · decide +kernel
  · decide +kernel
  · rfl
def bX12_terms : Nat → List Ins := fun pc => match pc with
  | 0 => [(.iload_n 1, 0, 0, 0, 0), (.iconst 0, 0, 0, 0, 0), (.iconst 2, 0, 0, 0, 2), (.invokestatic 91, 144, 3, 0, 0), (.ifCond .eq 22, 28, 0, 0, 0), (.iload_n 2, 0, 0, 0, 0), (.iconst 0, 0, 0, 0, 0), (.iload_n 1, 0, 0, 0, 0), (.ifCond .ne 8, 20, 0, 0, 0), (.bipush 12, 0, 0, 0, 12), (.goto 5, 22, 0, 0, 0)]
  | 20 => [(.bipush 9, 0, 0, 0, 9)]
  | 22 => [(.invokestatic 91, 144, 3, 0, 0), (.ifCond .ne 9, 34, 0, 0, 0)]
  | 28 => [(.aload_n 0, 0, 0, 0, 0), (.iconst (-1), 0, 0, 0, (-1)), (.invokevirtual 95, 145, 1, 12, 0), (.ireturn, 0, 0, 0, 0)]
  | 34 => [(.aload_n 0, 0, 0, 0, 0), (.getfield 20, 12, 3, 0, 0), (.sipush 154, 0, 0, 0, 154), (.iload_n 1, 0, 0, 0, 0), (.iadd, 0, 0, 0, 0), (.iaload, 0, 0, 0, 0), (.istore_n 3, 0, 0, 0, 0), (.aload_n 0, 0, 0, 0, 0), (.getfield 20, 12, 3, 0, 0), (.sipush 154, 0, 0, 0, 154), (.iload_n 1, 0, 0, 0, 0), (.iadd, 0, 0, 0, 0), (.iload_n 2, 0, 0, 0, 0), (.iastore, 0, 0, 0, 0), (.aload_n 0, 0, 0, 0, 0), (.iload_n 3, 0, 0, 0, 0), (.invokevirtual 99, 146, 1, 12, 0), (.ireturn, 0, 0, 0, 0)]
  | _ => []
theorem kX12_terms (pc : Nat) : chk 166 (bX12_terms pc) pc = true := by
  unfold bX12_terms; split
  · decide +kernel
  · decide +kernel
  · decide +kernel
  · decide +kernel
  · decide +kernel
  · rfl
def bX12_row : Nat → List Ins := fun pc => match pc with
  | 0 => [(.aload_n 0, 0, 0, 0, 0), (.getfield 139, 12, 10, 0, 0), (.istore_n 1, 0, 0, 0, 0), (.aload_n 0, 0, 0, 0, 0), (.iconst 0, 0, 0, 0, 0), (.putfield 139, 12, 10, 0, 0), (.iload_n 1, 0, 0, 0, 0), (.ifCond .ne 10, 21, 0, 0, 0), (.aload_n 0, 0, 0, 0, 0), (.bipush (-6), 0, 0, 0, (-6)), (.invokevirtual 95, 145, 1, 12, 0), (.ireturn, 0, 0, 0, 0)]
  | 21 => [(.iconst 0, 0, 0, 0, 0), (.istore_n 2, 0, 0, 0, 0), (.aload_n 0, 0, 0, 0, 0), (.iload_n 1, 0, 0, 0, 0), (.iconst 5, 0, 0, 0, 5), (.irem, 0, 0, 0, 0), (.ifCond .ne 7, 34, 0, 0, 0), (.iconst 0, 0, 0, 0, 0), (.goto 4, 35, 0, 0, 0)]
  | 34 => [(.iconst 1, 0, 0, 0, 1)]
  | 35 => [(.putfield 142, 12, 6, 0, 0), (.iconst 0, 0, 0, 0, 0), (.istore_n 3, 0, 0, 0, 0)]
  | 40 => [(.iload_n 3, 0, 0, 0, 0), (.iconst 5, 0, 0, 0, 5), (.iadd, 0, 0, 0, 0), (.iload_n 1, 0, 0, 0, 0), (.if_icmp .gt 186, 230, 0, 0, 0), (.aload_n 0, 0, 0, 0, 0), (.getfield 34, 12, 8, 0, 0), (.iload_n 3, 0, 0, 0, 0), (.baload, 0, 0, 0, 0), (.aload_n 0, 0, 0, 0, 0), (.getfield 34, 12, 8, 0, 0), (.iload_n 3, 0, 0, 0, 0), (.iconst 1, 0, 0, 0, 1), (.iadd, 0, 0, 0, 0), (.baload, 0, 0, 0, 0), (.aload_n 0, 0, 0, 0, 0), (.getfield 34, 12, 8, 0, 0), (.iload_n 3, 0, 0, 0, 0), (.iconst 2, 0, 0, 0, 2), (.iadd, 0, 0, 0, 0), (.baload, 0, 0, 0, 0), (.aload_n 0, 0, 0, 0, 0), (.getfield 34, 12, 8, 0, 0), (.iload_n 3, 0, 0, 0, 0), (.iconst 3, 0, 0, 0, 3), (.iadd, 0, 0, 0, 0), (.baload, 0, 0, 0, 0), (.aload_n 0, 0, 0, 0, 0), (.getfield 34, 12, 8, 0, 0), (.iload_n 3, 0, 0, 0, 0), (.iconst 4, 0, 0, 0, 4), (.iadd, 0, 0, 0, 0), (.baload, 0, 0, 0, 0), (.invokestatic 127, 158, 5, 0, 0), (.ifCond .eq 53, 141, 0, 0, 0), (.aload_n 0, 0, 0, 0, 0), (.invokevirtual 102, 152, 0, 12, 0), (.bipush 14, 0, 0, 0, 14), (.if_icmp .ge 44, 141, 0, 0, 0), (.aload_n 0, 0, 0, 0, 0), (.aload_n 0, 0, 0, 0, 0), (.getfield 34, 12, 8, 0, 0), (.iload_n 3, 0, 0, 0, 0), (.baload, 0, 0, 0, 0), (.aload_n 0, 0, 0, 0, 0), (.getfield 34, 12, 8, 0, 0), (.iload_n 3, 0, 0, 0, 0), (.iconst 1, 0, 0, 0, 1), (.iadd, 0, 0, 0, 0), (.baload, 0, 0, 0, 0), (.aload_n 0, 0, 0, 0, 0), (.getfield 34, 12, 8, 0, 0), (.iload_n 3, 0, 0, 0, 0), (.iconst 2, 0, 0, 0, 2), (.iadd, 0, 0, 0, 0), (.baload, 0, 0, 0, 0), (.aload_n 0, 0, 0, 0, 0), (.getfield 34, 12, 8, 0, 0), (.iload_n 3, 0, 0, 0, 0), (.iconst 3, 0, 0, 0, 3), (.iadd, 0, 0, 0, 0), (.baload, 0, 0, 0, 0), (.invokevirtual 131, 159, 4, 12, 0), (.ifCond .eq 7, 141, 0, 0, 0), (.iconst 1, 0, 0, 0, 1), (.goto 4, 142, 0, 0, 0)]
  | 141 => [(.iconst 0, 0, 0, 0, 0)]
  | 142 => [(.istore 4, 0, 0, 0, 0), (.iload 4, 0, 0, 0, 0), (.ifCond .eq 46, 192, 0, 0, 0), (.aload_n 0, 0, 0, 0, 0), (.aload_n 0, 0, 0, 0, 0), (.getfield 34, 12, 8, 0, 0), (.iload_n 3, 0, 0, 0, 0), (.baload, 0, 0, 0, 0), (.aload_n 0, 0, 0, 0, 0), (.getfield 34, 12, 8, 0, 0), (.iload_n 3, 0, 0, 0, 0), (.iconst 1, 0, 0, 0, 1), (.iadd, 0, 0, 0, 0), (.baload, 0, 0, 0, 0), (.aload_n 0, 0, 0, 0, 0), (.getfield 34, 12, 8, 0, 0), (.iload_n 3, 0, 0, 0, 0), (.iconst 2, 0, 0, 0, 2), (.iadd, 0, 0, 0, 0), (.baload, 0, 0, 0, 0), (.aload_n 0, 0, 0, 0, 0), (.getfield 34, 12, 8, 0, 0), (.iload_n 3, 0, 0, 0, 0), (.iconst 3, 0, 0, 0, 3), (.iadd, 0, 0, 0, 0), (.baload, 0, 0, 0, 0), (.aload_n 0, 0, 0, 0, 0), (.getfield 34, 12, 8, 0, 0), (.iload_n 3, 0, 0, 0, 0), (.iconst 4, 0, 0, 0, 4), (.iadd, 0, 0, 0, 0), (.baload, 0, 0, 0, 0), (.invokevirtual 135, 161, 5, 12, 0), (.pop, 0, 0, 0, 0)]
  | 192 => [(.iload_n 2, 0, 0, 0, 0), (.iload 4, 0, 0, 0, 0), (.ifCond .eq 7, 202, 0, 0, 0), (.iconst 1, 0, 0, 0, 1), (.goto 4, 203, 0, 0, 0)]
  | 202 => [(.iconst 0, 0, 0, 0, 0)]
  | 203 => [(.iadd, 0, 0, 0, 0), (.istore_n 2, 0, 0, 0, 0), (.aload_n 0, 0, 0, 0, 0), (.dup, 0, 0, 0, 0), (.getfield 142, 12, 6, 0, 0), (.iload 4, 0, 0, 0, 0), (.ifCond .eq 7, 219, 0, 0, 0), (.iconst 0, 0, 0, 0, 0), (.goto 4, 220, 0, 0, 0)]
  | 219 => [(.iconst 1, 0, 0, 0, 1)]
  | 220 => [(.iadd, 0, 0, 0, 0), (.putfield 142, 12, 6, 0, 0), (.iinc 3 5, 0, 0, 0, 5), (.goto (-187), 40, 0, 0, 0)]
  | 230 => [(.aload_n 0, 0, 0, 0, 0), (.iload_n 2, 0, 0, 0, 0), (.invokevirtual 99, 146, 1, 12, 0), (.ireturn, 0, 0, 0, 0)]
  | _ => []
theorem kX12_row (pc : Nat) : chk 167 (bX12_row pc) pc = true := by
  unfold bX12_row; split
  · decide +kernel
  · decide +kernel
  · decide +kernel
  · decide +kernel
  · decide +kernel
  · decide +kernel
  · decide +kernel
  · decide +kernel
  · decide +kernel
  · decide +kernel
  · decide +kernel
  · decide +kernel
  · decide +kernel
  · rfl
def bX12_rubble : Nat → List Ins := fun pc => match pc with
  | 0 => [(.aload_n 0, 0, 0, 0, 0), (.getfield 142, 12, 6, 0, 0), (.ireturn, 0, 0, 0, 0)]
  | _ => []
theorem kX12_rubble (pc : Nat) : chk 168 (bX12_rubble pc) pc = true := by
  unfold bX12_rubble; split
  · decide +kernel
  · rfl
def bX12_feed : Nat → List Ins := fun pc => match pc with
  | 0 => [(.aload_n 0, 0, 0, 0, 0), (.getfield 139, 12, 10, 0, 0), (.bipush 20, 0, 0, 0, 20), (.iadd, 0, 0, 0, 0), (.sipush 400, 0, 0, 0, 400), (.if_icmp .le 5, 15, 0, 0, 0), (.iconst (-1), 0, 0, 0, (-1)), (.ireturn, 0, 0, 0, 0)]
  | 15 => [(.aload_n 0, 0, 0, 0, 0), (.getfield 37, 12, 9, 0, 0), (.iconst 0, 0, 0, 0, 0), (.iload_n 1, 0, 0, 0, 0), (.iastore, 0, 0, 0, 0), (.aload_n 0, 0, 0, 0, 0), (.getfield 37, 12, 9, 0, 0), (.iconst 1, 0, 0, 0, 1), (.iload_n 2, 0, 0, 0, 0), (.iastore, 0, 0, 0, 0), (.aload_n 0, 0, 0, 0, 0), (.getfield 37, 12, 9, 0, 0), (.iconst 2, 0, 0, 0, 2), (.iload_n 3, 0, 0, 0, 0), (.iastore, 0, 0, 0, 0), (.aload_n 0, 0, 0, 0, 0), (.getfield 37, 12, 9, 0, 0), (.iconst 3, 0, 0, 0, 3), (.iload 4, 0, 0, 0, 0), (.iastore, 0, 0, 0, 0), (.aload_n 0, 0, 0, 0, 0), (.getfield 37, 12, 9, 0, 0), (.iconst 4, 0, 0, 0, 4), (.iload 5, 0, 0, 0, 0), (.iastore, 0, 0, 0, 0), (.iconst 0, 0, 0, 0, 0), (.istore 6, 0, 0, 0, 0)]
  | 55 => [(.iload 6, 0, 0, 0, 0), (.bipush 20, 0, 0, 0, 20), (.if_icmp .ge 42, 101, 0, 0, 0), (.aload_n 0, 0, 0, 0, 0), (.getfield 34, 12, 8, 0, 0), (.aload_n 0, 0, 0, 0, 0), (.getfield 139, 12, 10, 0, 0), (.iload 6, 0, 0, 0, 0), (.iadd, 0, 0, 0, 0), (.aload_n 0, 0, 0, 0, 0), (.getfield 37, 12, 9, 0, 0), (.iload 6, 0, 0, 0, 0), (.iconst 4, 0, 0, 0, 4), (.idiv, 0, 0, 0, 0), (.iaload, 0, 0, 0, 0), (.bipush 24, 0, 0, 0, 24), (.bipush 8, 0, 0, 0, 8), (.iload 6, 0, 0, 0, 0), (.iconst 4, 0, 0, 0, 4), (.irem, 0, 0, 0, 0), (.imul, 0, 0, 0, 0), (.isub, 0, 0, 0, 0), (.ishr, 0, 0, 0, 0), (.i2b, 0, 0, 0, 0), (.bastore, 0, 0, 0, 0), (.iinc 6 1, 0, 0, 0, 1), (.goto (-43), 55, 0, 0, 0)]
  | 101 => [(.aload_n 0, 0, 0, 0, 0), (.dup, 0, 0, 0, 0), (.getfield 139, 12, 10, 0, 0), (.bipush 20, 0, 0, 0, 20), (.iadd, 0, 0, 0, 0), (.putfield 139, 12, 10, 0, 0), (.aload_n 0, 0, 0, 0, 0), (.getfield 139, 12, 10, 0, 0), (.ireturn, 0, 0, 0, 0)]
  | _ => []
theorem kX12_feed (pc : Nat) : chk 169 (bX12_feed pc) pc = true := by
  unfold bX12_feed; split
  · decide +kernel
  · decide +kernel
  · decide +kernel
  · decide +kernel
  · rfl
def bX12_end : Nat → List Ins := fun pc => match pc with
  | 0 => [(.iload_n 1, 0, 0, 0, 0), (.iconst 0, 0, 0, 0, 0), (.aload_n 0, 0, 0, 0, 0), (.getfield 139, 12, 10, 0, 0), (.invokestatic 91, 144, 3, 0, 0), (.ifCond .ne 5, 14, 0, 0, 0), (.iconst (-1), 0, 0, 0, (-1)), (.ireturn, 0, 0, 0, 0)]
  | 14 => [(.aload_n 0, 0, 0, 0, 0), (.iload_n 1, 0, 0, 0, 0), (.putfield 139, 12, 10, 0, 0), (.iload_n 1, 0, 0, 0, 0), (.ireturn, 0, 0, 0, 0)]
  | _ => []
theorem kX12_end (pc : Nat) : chk 170 (bX12_end pc) pc = true := by
  unfold bX12_end; split
  · decide +kernel
  · decide +kernel
  · rfl
def bX12_isSmall : Nat → List Ins := fun pc => match pc with
  | 0 => [(.iload_n 0, 0, 0, 0, 0), (.bipush 97, 0, 0, 0, 97), (.if_icmp .lt 13, 16, 0, 0, 0), (.iload_n 0, 0, 0, 0, 0), (.bipush 122, 0, 0, 0, 122), (.if_icmp .gt 7, 16, 0, 0, 0), (.iconst 1, 0, 0, 0, 1), (.goto 4, 17, 0, 0, 0)]
  | 16 => [(.iconst 0, 0, 0, 0, 0)]
  | 17 => [(.ireturn, 1, 0, 0, 0)]
  | _ => []
theorem kX12_isSmall (pc : Nat) : chk 171 (bX12_isSmall pc) pc = true := by
  unfold bX12_isSmall; split
  · decide +kernel
  · decide +kernel
  · decide +kernel
  · rfl
def bX12_isDigit : Nat → List Ins := fun pc => match pc with
  | 0 => [(.iload_n 0, 0, 0, 0, 0), (.bipush 48, 0, 0, 0, 48), (.if_icmp .lt 13, 16, 0, 0, 0), (.iload_n 0, 0, 0, 0, 0), (.bipush 57, 0, 0, 0, 57), (.if_icmp .gt 7, 16, 0, 0, 0), (.iconst 1, 0, 0, 0, 1), (.goto 4, 17, 0, 0, 0)]
  | 16 => [(.iconst 0, 0, 0, 0, 0)]
  | 17 => [(.ireturn, 1, 0, 0, 0)]
  | _ => []
theorem kX12_isDigit (pc : Nat) : chk 172 (bX12_isDigit pc) pc = true := by
  unfold bX12_isDigit; split
  · decide +kernel
  · decide +kernel
  · decide +kernel
  · rfl
def bX12_wordOf : Nat → List Ins := fun pc => match pc with
  | 0 => [(.iconst 1, 0, 0, 0, 1), (.istore_n 3, 0, 0, 0, 0), (.iconst 0, 0, 0, 0, 0), (.istore 4, 0, 0, 0, 0)]
  | 5 => [(.iload 4, 0, 0, 0, 0), (.aload_n 0, 0, 0, 0, 0), (.getfield 30, 12, 7, 0, 0), (.arraylength, 0, 0, 0, 0), (.if_icmp .ge 114, 126, 0, 0, 0), (.iconst 0, 0, 0, 0, 0), (.istore 5, 0, 0, 0, 0)]
  | 18 => [(.aload_n 0, 0, 0, 0, 0), (.getfield 30, 12, 7, 0, 0), (.iload 4, 0, 0, 0, 0), (.iload 5, 0, 0, 0, 0), (.iadd, 0, 0, 0, 0), (.baload, 0, 0, 0, 0), (.bipush 32, 0, 0, 0, 32), (.if_icmp .eq 9, 39, 0, 0, 0), (.iinc 5 1, 0, 0, 0, 1), (.goto (-18), 18, 0, 0, 0)]
  | 39 => [(.iload 5, 0, 0, 0, 0), (.iload_n 2, 0, 0, 0, 0), (.iload_n 1, 0, 0, 0, 0), (.isub, 0, 0, 0, 0), (.if_icmp .ne 7, 51, 0, 0, 0), (.iconst 1, 0, 0, 0, 1), (.goto 4, 52, 0, 0, 0)]
  | 51 => [(.iconst 0, 0, 0, 0, 0)]
  | 52 => [(.istore 6, 0, 0, 0, 0), (.iconst 0, 0, 0, 0, 0), (.istore 7, 0, 0, 0, 0)]
  | 57 => [(.iload 7, 0, 0, 0, 0), (.iload 5, 0, 0, 0, 0), (.if_icmp .ge 43, 104, 0, 0, 0), (.iload 6, 0, 0, 0, 0), (.ifCond .eq 38, 104, 0, 0, 0), (.aload_n 0, 0, 0, 0, 0), (.getfield 30, 12, 7, 0, 0), (.iload 4, 0, 0, 0, 0), (.iload 7, 0, 0, 0, 0), (.iadd, 0, 0, 0, 0), (.baload, 0, 0, 0, 0), (.aload_n 0, 0, 0, 0, 0), (.getfield 34, 12, 8, 0, 0), (.iload_n 1, 0, 0, 0, 0), (.iload 7, 0, 0, 0, 0), (.iadd, 0, 0, 0, 0), (.baload, 0, 0, 0, 0), (.if_icmp .ne 7, 95, 0, 0, 0), (.iconst 1, 0, 0, 0, 1), (.goto 4, 96, 0, 0, 0)]
  | 95 => [(.iconst 0, 0, 0, 0, 0)]
  | 96 => [(.istore 6, 0, 0, 0, 0), (.iinc 7 1, 0, 0, 0, 1), (.goto (-44), 57, 0, 0, 0)]
  | 104 => [(.iload 6, 0, 0, 0, 0), (.ifCond .eq 5, 111, 0, 0, 0), (.iload_n 3, 0, 0, 0, 0), (.ireturn, 0, 0, 0, 0)]
  | 111 => [(.iload 4, 0, 0, 0, 0), (.iload 5, 0, 0, 0, 0), (.iconst 1, 0, 0, 0, 1), (.iadd, 0, 0, 0, 0), (.iadd, 0, 0, 0, 0), (.istore 4, 0, 0, 0, 0), (.iinc 3 1, 0, 0, 0, 1), (.goto (-118), 5, 0, 0, 0)]
  | 126 => [(.iconst 0, 0, 0, 0, 0), (.ireturn, 0, 0, 0, 0)]
  | _ => []
theorem kX12_wordOf (pc : Nat) : chk 173 (bX12_wordOf pc) pc = true := by
  unfold bX12_wordOf; split
  · decide +kernel
  · decide +kernel
  · decide +kernel
  · decide +kernel
  · decide +kernel
  · decide +kernel
  · decide +kernel
  · decide +kernel
  · decide +kernel
  · decide +kernel
  · decide +kernel
  · decide +kernel
  · rfl
def bX12_splits : Nat → List Ins := fun pc => match pc with
  | 0 => [(.aload_n 0, 0, 0, 0, 0), (.iconst 0, 0, 0, 0, 0), (.putfield 145, 12, 15, 0, 0), (.iconst 0, 0, 0, 0, 0), (.istore_n 2, 0, 0, 0, 0)]
  | 7 => [(.iload_n 2, 0, 0, 0, 0), (.iload_n 1, 0, 0, 0, 0), (.if_icmp .ge 254, 263, 0, 0, 0), (.aload_n 0, 0, 0, 0, 0), (.getfield 34, 12, 8, 0, 0), (.iload_n 2, 0, 0, 0, 0), (.baload, 0, 0, 0, 0), (.istore_n 3, 0, 0, 0, 0), (.iload_n 3, 0, 0, 0, 0), (.bipush 32, 0, 0, 0, 32), (.if_icmp .ne 9, 31, 0, 0, 0), (.iinc 2 1, 0, 0, 0, 1), (.goto (-21), 7, 0, 0, 0)]
  | 31 => [(.iload_n 2, 0, 0, 0, 0), (.iconst 1, 0, 0, 0, 1), (.iadd, 0, 0, 0, 0), (.istore 4, 0, 0, 0, 0), (.iload_n 3, 0, 0, 0, 0), (.invokestatic 148, 171, 1, 0, 0), (.ifCond .eq 28, 68, 0, 0, 0)]
  | 43 => [(.iload 4, 0, 0, 0, 0), (.iload_n 1, 0, 0, 0, 0), (.if_icmp .ge 22, 68, 0, 0, 0), (.aload_n 0, 0, 0, 0, 0), (.getfield 34, 12, 8, 0, 0), (.iload 4, 0, 0, 0, 0), (.baload, 0, 0, 0, 0), (.invokestatic 148, 171, 1, 0, 0), (.ifCond .eq 9, 68, 0, 0, 0), (.iinc 4 1, 0, 0, 0, 1), (.goto (-22), 43, 0, 0, 0)]
  | 68 => [(.iload_n 3, 0, 0, 0, 0), (.invokestatic 151, 172, 1, 0, 0), (.ifCond .eq 28, 100, 0, 0, 0)]
  | 75 => [(.iload 4, 0, 0, 0, 0), (.iload_n 1, 0, 0, 0, 0), (.if_icmp .ge 22, 100, 0, 0, 0), (.aload_n 0, 0, 0, 0, 0), (.getfield 34, 12, 8, 0, 0), (.iload 4, 0, 0, 0, 0), (.baload, 0, 0, 0, 0), (.invokestatic 151, 172, 1, 0, 0), (.ifCond .eq 9, 100, 0, 0, 0), (.iinc 4 1, 0, 0, 0, 1), (.goto (-22), 75, 0, 0, 0)]
  | 100 => [(.aload_n 0, 0, 0, 0, 0), (.getfield 49, 12, 14, 0, 0), (.aload_n 0, 0, 0, 0, 0), (.getfield 145, 12, 15, 0, 0), (.iload_n 2, 0, 0, 0, 0), (.iastore, 0, 0, 0, 0), (.aload_n 0, 0, 0, 0, 0), (.getfield 46, 12, 13, 0, 0), (.aload_n 0, 0, 0, 0, 0), (.getfield 145, 12, 15, 0, 0), (.iconst 0, 0, 0, 0, 0), (.iastore, 0, 0, 0, 0), (.aload_n 0, 0, 0, 0, 0), (.getfield 43, 12, 12, 0, 0), (.aload_n 0, 0, 0, 0, 0), (.getfield 145, 12, 15, 0, 0), (.iload_n 3, 0, 0, 0, 0), (.invokestatic 148, 171, 1, 0, 0), (.ifCond .eq 13, 145, 0, 0, 0), (.aload_n 0, 0, 0, 0, 0), (.iload_n 2, 0, 0, 0, 0), (.iload 4, 0, 0, 0, 0), (.invokevirtual 154, 173, 2, 12, 0), (.goto 23, 165, 0, 0, 0)]
  | 145 => [(.iload_n 3, 0, 0, 0, 0), (.invokestatic 151, 172, 1, 0, 0), (.ifCond .eq 8, 157, 0, 0, 0), (.bipush 50, 0, 0, 0, 50), (.goto 11, 165, 0, 0, 0)]
  | 157 => [(.bipush 100, 0, 0, 0, 100), (.iload_n 3, 0, 0, 0, 0), (.sipush 255, 0, 0, 0, 255), (.iand, 0, 0, 0, 0), (.iadd, 0, 0, 0, 0)]
  | 165 => [(.iastore, 0, 0, 0, 0), (.iload_n 2, 0, 0, 0, 0), (.istore 5, 0, 0, 0, 0)]
  | 169 => [(.iload 5, 0, 0, 0, 0), (.iload 4, 0, 0, 0, 0), (.if_icmp .ge 74, 247, 0, 0, 0), (.iload_n 3, 0, 0, 0, 0), (.invokestatic 151, 172, 1, 0, 0), (.ifCond .eq 67, 247, 0, 0, 0), (.aload_n 0, 0, 0, 0, 0), (.getfield 46, 12, 13, 0, 0), (.aload_n 0, 0, 0, 0, 0), (.getfield 145, 12, 15, 0, 0), (.aload_n 0, 0, 0, 0, 0), (.getfield 46, 12, 13, 0, 0), (.aload_n 0, 0, 0, 0, 0), (.getfield 145, 12, 15, 0, 0), (.iaload, 0, 0, 0, 0), (.ldc 157, 0, 0, 0, 1000000), (.if_icmp .le 15, 217, 0, 0, 0), (.aload_n 0, 0, 0, 0, 0), (.getfield 46, 12, 13, 0, 0), (.aload_n 0, 0, 0, 0, 0), (.getfield 145, 12, 15, 0, 0), (.iaload, 0, 0, 0, 0), (.goto 26, 240, 0, 0, 0)]
  | 217 => [(.bipush 10, 0, 0, 0, 10), (.aload_n 0, 0, 0, 0, 0), (.getfield 46, 12, 13, 0, 0), (.aload_n 0, 0, 0, 0, 0), (.getfield 145, 12, 15, 0, 0), (.iaload, 0, 0, 0, 0), (.imul, 0, 0, 0, 0), (.aload_n 0, 0, 0, 0, 0), (.getfield 34, 12, 8, 0, 0), (.iload 5, 0, 0, 0, 0), (.baload, 0, 0, 0, 0), (.iadd, 0, 0, 0, 0), (.bipush 48, 0, 0, 0, 48), (.isub, 0, 0, 0, 0)]
  | 240 => [(.iastore, 0, 0, 0, 0), (.iinc 5 1, 0, 0, 0, 1), (.goto (-75), 169, 0, 0, 0)]
  | 247 => [(.aload_n 0, 0, 0, 0, 0), (.dup, 0, 0, 0, 0), (.getfield 145, 12, 15, 0, 0), (.iconst 1, 0, 0, 0, 1), (.iadd, 0, 0, 0, 0), (.putfield 145, 12, 15, 0, 0), (.iload 4, 0, 0, 0, 0), (.istore_n 2, 0, 0, 0, 0), (.goto (-253), 7, 0, 0, 0)]
  | 263 => [(.aload_n 0, 0, 0, 0, 0), (.getfield 49, 12, 14, 0, 0), (.aload_n 0, 0, 0, 0, 0), (.getfield 145, 12, 15, 0, 0), (.iload_n 1, 0, 0, 0, 0), (.iastore, 0, 0, 0, 0), (.aload_n 0, 0, 0, 0, 0), (.getfield 43, 12, 12, 0, 0), (.aload_n 0, 0, 0, 0, 0), (.getfield 145, 12, 15, 0, 0), (.iconst 0, 0, 0, 0, 0), (.iastore, 0, 0, 0, 0), (.aload_n 0, 0, 0, 0, 0), (.getfield 46, 12, 13, 0, 0), (.aload_n 0, 0, 0, 0, 0), (.getfield 145, 12, 15, 0, 0), (.iconst 0, 0, 0, 0, 0), (.iastore, 0, 0, 0, 0), (.return_, 0, 0, 0, 0)]
  | _ => []
theorem kX12_splits (pc : Nat) : chk 174 (bX12_splits pc) pc = true := by
  unfold bX12_splits; split
  · decide +kernel
  · decide +kernel
  · decide +kernel
  · decide +kernel
  · decide +kernel
  · decide +kernel
  · decide +kernel
  · decide +kernel
  · decide +kernel
  · decide +kernel
  · decide +kernel
  · decide +kernel
  · decide +kernel
  · decide +kernel
  · decide +kernel
  · rfl
def bX12_fine : Nat → List Ins := fun pc => match pc with
  | 0 => [(.aload_n 0, 0, 0, 0, 0), (.getfield 158, 12, 18, 0, 0), (.iconst (-1), 0, 0, 0, (-1)), (.if_icmp .ne 7, 12, 0, 0, 0), (.iconst 1, 0, 0, 0, 1), (.goto 4, 13, 0, 0, 0)]
  | 12 => [(.iconst 0, 0, 0, 0, 0)]
  | 13 => [(.ireturn, 1, 0, 0, 0)]
  | _ => []
theorem kX12_fine (pc : Nat) : chk 175 (bX12_fine pc) pc = true := by
  unfold bX12_fine; split
  · decide +kernel
  · decide +kernel
  · decide +kernel
  · rfl
def bX12_faults : Nat → List Ins := fun pc => match pc with
  | 0 => [(.aload_n 0, 0, 0, 0, 0), (.invokevirtual 161, 175, 0, 12, 0), (.ifCond .eq 16, 20, 0, 0, 0), (.aload_n 0, 0, 0, 0, 0), (.aload_n 0, 0, 0, 0, 0), (.getfield 49, 12, 14, 0, 0), (.aload_n 0, 0, 0, 0, 0), (.getfield 165, 12, 16, 0, 0), (.iaload, 0, 0, 0, 0), (.putfield 158, 12, 18, 0, 0)]
  | 20 => [(.return_, 0, 0, 0, 0)]
  | _ => []
theorem kX12_faults (pc : Nat) : chk 176 (bX12_faults pc) pc = true := by
  unfold bX12_faults; split
  · decide +kernel
  · decide +kernel
  · rfl
def bX12_takes0 : Nat → List Ins := fun pc => match pc with
  | 0 => [(.aload_n 0, 0, 0, 0, 0), (.invokevirtual 161, 175, 0, 12, 0), (.ifCond .eq 20, 24, 0, 0, 0), (.aload_n 0, 0, 0, 0, 0), (.getfield 43, 12, 12, 0, 0), (.aload_n 0, 0, 0, 0, 0), (.getfield 165, 12, 16, 0, 0), (.iaload, 0, 0, 0, 0), (.iload_n 1, 0, 0, 0, 0), (.if_icmp .ne 7, 24, 0, 0, 0), (.iconst 1, 0, 0, 0, 1), (.goto 4, 25, 0, 0, 0)]
  | 24 => [(.iconst 0, 0, 0, 0, 0)]
  | 25 => [(.istore_n 2, 0, 0, 0, 0), (.iload_n 2, 0, 0, 0, 0), (.ifCond .eq 13, 40, 0, 0, 0), (.aload_n 0, 0, 0, 0, 0), (.dup, 0, 0, 0, 0), (.getfield 165, 12, 16, 0, 0), (.iconst 1, 0, 0, 0, 1), (.iadd, 0, 0, 0, 0), (.putfield 165, 12, 16, 0, 0)]
  | 40 => [(.iload_n 2, 0, 0, 0, 0), (.ireturn, 1, 0, 0, 0)]
  | _ => []
theorem kX12_takes0 (pc : Nat) : chk 177 (bX12_takes0 pc) pc = true := by
  unfold bX12_takes0; split
  · decide +kernel
  · decide +kernel
  · decide +kernel
  · decide +kernel
  · rfl
def bX12_must : Nat → List Ins := fun pc => match pc with
  | 0 => [(.aload_n 0, 0, 0, 0, 0), (.iload_n 1, 0, 0, 0, 0), (.invokevirtual 168, 177, 1, 12, 0), (.ifCond .ne 7, 12, 0, 0, 0), (.aload_n 0, 0, 0, 0, 0), (.invokevirtual 171, 176, 0, 12, 0)]
  | 12 => [(.return_, 0, 0, 0, 0)]
  | _ => []
theorem kX12_must (pc : Nat) : chk 178 (bX12_must pc) pc = true := by
  unfold bX12_must; split
  · decide +kernel
  · decide +kernel
  · rfl
def bX12_leaf : Nat → List Ins := fun pc => match pc with
  | 0 => [(.aload_n 0, 0, 0, 0, 0), (.getfield 174, 12, 17, 0, 0), (.bipush 50, 0, 0, 0, 50), (.if_icmp .ne 7, 13, 0, 0, 0), (.aload_n 0, 0, 0, 0, 0), (.invokevirtual 171, 176, 0, 12, 0)]
  | 13 => [(.aload_n 0, 0, 0, 0, 0), (.dup, 0, 0, 0, 0), (.getfield 174, 12, 17, 0, 0), (.iconst 1, 0, 0, 0, 1), (.iadd, 0, 0, 0, 0), (.putfield 174, 12, 17, 0, 0), (.aload_n 0, 0, 0, 0, 0), (.invokevirtual 161, 175, 0, 12, 0), (.ifCond .eq 13, 40, 0, 0, 0), (.aload_n 0, 0, 0, 0, 0), (.dup, 0, 0, 0, 0), (.getfield 165, 12, 16, 0, 0), (.iconst 1, 0, 0, 0, 1), (.iadd, 0, 0, 0, 0), (.putfield 165, 12, 16, 0, 0)]
  | 40 => [(.return_, 0, 0, 0, 0)]
  | _ => []
theorem kX12_leaf (pc : Nat) : chk 179 (bX12_leaf pc) pc = true := by
  unfold bX12_leaf; split
  · decide +kernel
  · decide +kernel
  · decide +kernel
  · rfl
def bX12_sign : Nat → List Ins := fun pc => match pc with
  | 0 => [(.bipush 100, 0, 0, 0, 100), (.iload_n 0, 0, 0, 0, 0), (.iadd, 0, 0, 0, 0), (.ireturn, 0, 0, 0, 0)]
  | _ => []
theorem kX12_sign (pc : Nat) : chk 180 (bX12_sign pc) pc = true := by
  unfold bX12_sign; split
  · decide +kernel
  · rfl
def bX12_readClause : Nat → List Ins := fun pc => match pc with
  | 0 => [(.aload_n 0, 0, 0, 0, 0), (.iconst 1, 0, 0, 0, 1), (.invokevirtual 168, 177, 1, 12, 0), (.ifCond .eq 11, 16, 0, 0, 0), (.aload_n 0, 0, 0, 0, 0), (.iconst 0, 0, 0, 0, 0), (.invokevirtual 177, 185, 1, 12, 0), (.goto 8, 21, 0, 0, 0)]
  | 16 => [(.aload_n 0, 0, 0, 0, 0), (.iconst 2, 0, 0, 0, 2), (.invokevirtual 181, 178, 1, 12, 0)]
  | 21 => [(.aload_n 0, 0, 0, 0, 0), (.iconst 3, 0, 0, 0, 3), (.invokevirtual 168, 177, 1, 12, 0), (.ifCond .eq 8, 34, 0, 0, 0), (.aload_n 0, 0, 0, 0, 0), (.iconst 0, 0, 0, 0, 0), (.invokevirtual 184, 182, 1, 12, 0)]
  | 34 => [(.return_, 0, 0, 0, 0)]
  | _ => []
theorem kX12_readClause (pc : Nat) : chk 181 (bX12_readClause pc) pc = true := by
  unfold bX12_readClause; split
  · decide +kernel
  · decide +kernel
  · decide +kernel
  · decide +kernel
  · rfl
def bX12_readTest : Nat → List Ins := fun pc => match pc with
  | 0 => [(.aload_n 0, 0, 0, 0, 0), (.iload_n 1, 0, 0, 0, 0), (.invokevirtual 187, 183, 1, 12, 0)]
  | 5 => [(.aload_n 0, 0, 0, 0, 0), (.iconst 4, 0, 0, 0, 4), (.invokevirtual 168, 177, 1, 12, 0), (.ifCond .eq 11, 21, 0, 0, 0), (.aload_n 0, 0, 0, 0, 0), (.iload_n 1, 0, 0, 0, 0), (.invokevirtual 187, 183, 1, 12, 0), (.goto (-13), 5, 0, 0, 0)]
  | 21 => [(.return_, 0, 0, 0, 0)]
  | _ => []
theorem kX12_readTest (pc : Nat) : chk 182 (bX12_readTest pc) pc = true := by
  unfold bX12_readTest; split
  · decide +kernel
  · decide +kernel
  · decide +kernel
  · rfl
def bX12_readBoth : Nat → List Ins := fun pc => match pc with
  | 0 => [(.aload_n 0, 0, 0, 0, 0), (.iload_n 1, 0, 0, 0, 0), (.invokevirtual 190, 184, 1, 12, 0)]
  | 5 => [(.aload_n 0, 0, 0, 0, 0), (.iconst 5, 0, 0, 0, 5), (.invokevirtual 168, 177, 1, 12, 0), (.ifCond .eq 11, 21, 0, 0, 0), (.aload_n 0, 0, 0, 0, 0), (.iload_n 1, 0, 0, 0, 0), (.invokevirtual 190, 184, 1, 12, 0), (.goto (-13), 5, 0, 0, 0)]
  | 21 => [(.return_, 0, 0, 0, 0)]
  | _ => []
theorem kX12_readBoth (pc : Nat) : chk 183 (bX12_readBoth pc) pc = true := by
  unfold bX12_readBoth; split
  · decide +kernel
  · decide +kernel
  · decide +kernel
  · rfl
def bX12_readPlain : Nat → List Ins := fun pc => match pc with
  | 0 => [(.iconst 1, 0, 0, 0, 1), (.istore_n 2, 0, 0, 0, 0)]
  | 2 => [(.iload_n 2, 0, 0, 0, 0), (.ifCond .eq 13, 16, 0, 0, 0), (.aload_n 0, 0, 0, 0, 0), (.bipush 6, 0, 0, 0, 6), (.invokevirtual 168, 177, 1, 12, 0), (.istore_n 2, 0, 0, 0, 0), (.goto (-11), 2, 0, 0, 0)]
  | 16 => [(.aload_n 0, 0, 0, 0, 0), (.invokevirtual 161, 175, 0, 12, 0), (.ifCond .ne 4, 24, 0, 0, 0), (.return_, 0, 0, 0, 0)]
  | 24 => [(.aload_n 0, 0, 0, 0, 0), (.getfield 43, 12, 12, 0, 0), (.aload_n 0, 0, 0, 0, 0), (.getfield 165, 12, 16, 0, 0), (.iaload, 0, 0, 0, 0), (.istore_n 3, 0, 0, 0, 0), (.iload_n 3, 0, 0, 0, 0), (.bipush 40, 0, 0, 0, 40), (.invokestatic 193, 180, 1, 0, 0), (.if_icmp .ne 50, 90, 0, 0, 0), (.iload_n 1, 0, 0, 0, 0), (.bipush 8, 0, 0, 0, 8), (.if_icmp .ne 7, 53, 0, 0, 0), (.aload_n 0, 0, 0, 0, 0), (.invokevirtual 171, 176, 0, 12, 0)]
  | 53 => [(.aload_n 0, 0, 0, 0, 0), (.invokevirtual 161, 175, 0, 12, 0), (.ifCond .ne 4, 61, 0, 0, 0), (.return_, 0, 0, 0, 0)]
  | 61 => [(.aload_n 0, 0, 0, 0, 0), (.dup, 0, 0, 0, 0), (.getfield 165, 12, 16, 0, 0), (.iconst 1, 0, 0, 0, 1), (.iadd, 0, 0, 0, 0), (.putfield 165, 12, 16, 0, 0), (.aload_n 0, 0, 0, 0, 0), (.iload_n 1, 0, 0, 0, 0), (.iconst 1, 0, 0, 0, 1), (.iadd, 0, 0, 0, 0), (.invokevirtual 184, 182, 1, 12, 0), (.aload_n 0, 0, 0, 0, 0), (.bipush 41, 0, 0, 0, 41), (.invokestatic 193, 180, 1, 0, 0), (.invokevirtual 181, 178, 1, 12, 0), (.goto 46, 133, 0, 0, 0)]
  | 90 => [(.aload_n 0, 0, 0, 0, 0), (.iload_n 1, 0, 0, 0, 0), (.invokevirtual 177, 185, 1, 12, 0), (.aload_n 0, 0, 0, 0, 0), (.bipush 60, 0, 0, 0, 60), (.invokestatic 193, 180, 1, 0, 0), (.invokevirtual 168, 177, 1, 12, 0), (.ifCond .ne 24, 128, 0, 0, 0), (.aload_n 0, 0, 0, 0, 0), (.bipush 62, 0, 0, 0, 62), (.invokestatic 193, 180, 1, 0, 0), (.invokevirtual 168, 177, 1, 12, 0), (.ifCond .ne 12, 128, 0, 0, 0), (.aload_n 0, 0, 0, 0, 0), (.bipush 61, 0, 0, 0, 61), (.invokestatic 193, 180, 1, 0, 0), (.invokevirtual 181, 178, 1, 12, 0)]
  | 128 => [(.aload_n 0, 0, 0, 0, 0), (.iload_n 1, 0, 0, 0, 0), (.invokevirtual 177, 185, 1, 12, 0)]
  | 133 => [(.return_, 0, 0, 0, 0)]
  | _ => []
theorem kX12_readPlain (pc : Nat) : chk 184 (bX12_readPlain pc) pc = true := by
  unfold bX12_readPlain; split
  · decide +kernel
  · decide +kernel
  · decide +kernel
  · decide +kernel
  · decide +kernel
  · decide +kernel
  · decide +kernel
  · decide +kernel
  · decide +kernel
  · rfl
def bX12_readSum : Nat → List Ins := fun pc => match pc with
  | 0 => [(.aload_n 0, 0, 0, 0, 0), (.iload_n 1, 0, 0, 0, 0), (.invokevirtual 197, 186, 1, 12, 0)]
  | 5 => [(.aload_n 0, 0, 0, 0, 0), (.bipush 43, 0, 0, 0, 43), (.invokestatic 193, 180, 1, 0, 0), (.invokevirtual 168, 177, 1, 12, 0), (.ifCond .ne 15, 29, 0, 0, 0), (.aload_n 0, 0, 0, 0, 0), (.bipush 45, 0, 0, 0, 45), (.invokestatic 193, 180, 1, 0, 0), (.invokevirtual 168, 177, 1, 12, 0), (.ifCond .eq 11, 37, 0, 0, 0)]
  | 29 => [(.aload_n 0, 0, 0, 0, 0), (.iload_n 1, 0, 0, 0, 0), (.invokevirtual 197, 186, 1, 12, 0), (.goto (-29), 5, 0, 0, 0)]
  | 37 => [(.return_, 0, 0, 0, 0)]
  | _ => []
theorem kX12_readSum (pc : Nat) : chk 185 (bX12_readSum pc) pc = true := by
  unfold bX12_readSum; split
  · decide +kernel
  · decide +kernel
  · decide +kernel
  · decide +kernel
  · rfl
def bX12_readTerm : Nat → List Ins := fun pc => match pc with
  | 0 => [(.aload_n 0, 0, 0, 0, 0), (.iload_n 1, 0, 0, 0, 0), (.invokevirtual 200, 187, 1, 12, 0)]
  | 5 => [(.aload_n 0, 0, 0, 0, 0), (.bipush 42, 0, 0, 0, 42), (.invokestatic 193, 180, 1, 0, 0), (.invokevirtual 168, 177, 1, 12, 0), (.ifCond .ne 15, 29, 0, 0, 0), (.aload_n 0, 0, 0, 0, 0), (.bipush 47, 0, 0, 0, 47), (.invokestatic 193, 180, 1, 0, 0), (.invokevirtual 168, 177, 1, 12, 0), (.ifCond .eq 11, 37, 0, 0, 0)]
  | 29 => [(.aload_n 0, 0, 0, 0, 0), (.iload_n 1, 0, 0, 0, 0), (.invokevirtual 200, 187, 1, 12, 0), (.goto (-29), 5, 0, 0, 0)]
  | 37 => [(.return_, 0, 0, 0, 0)]
  | _ => []
theorem kX12_readTerm (pc : Nat) : chk 186 (bX12_readTerm pc) pc = true := by
  unfold bX12_readTerm; split
  · decide +kernel
  · decide +kernel
  · decide +kernel
  · decide +kernel
  · rfl
def bX12_readPart : Nat → List Ins := fun pc => match pc with
  | 0 => [(.aload_n 0, 0, 0, 0, 0), (.invokevirtual 161, 175, 0, 12, 0), (.ifCond .ne 4, 8, 0, 0, 0), (.return_, 0, 0, 0, 0)]
  | 8 => [(.aload_n 0, 0, 0, 0, 0), (.getfield 43, 12, 12, 0, 0), (.aload_n 0, 0, 0, 0, 0), (.getfield 165, 12, 16, 0, 0), (.iaload, 0, 0, 0, 0), (.istore_n 2, 0, 0, 0, 0), (.iload_n 2, 0, 0, 0, 0), (.bipush 91, 0, 0, 0, 91), (.invokestatic 193, 180, 1, 0, 0), (.if_icmp .ne 50, 74, 0, 0, 0), (.iload_n 1, 0, 0, 0, 0), (.bipush 8, 0, 0, 0, 8), (.if_icmp .ne 7, 37, 0, 0, 0), (.aload_n 0, 0, 0, 0, 0), (.invokevirtual 171, 176, 0, 12, 0)]
  | 37 => [(.aload_n 0, 0, 0, 0, 0), (.invokevirtual 161, 175, 0, 12, 0), (.ifCond .ne 4, 45, 0, 0, 0), (.return_, 0, 0, 0, 0)]
  | 45 => [(.aload_n 0, 0, 0, 0, 0), (.dup, 0, 0, 0, 0), (.getfield 165, 12, 16, 0, 0), (.iconst 1, 0, 0, 0, 1), (.iadd, 0, 0, 0, 0), (.putfield 165, 12, 16, 0, 0), (.aload_n 0, 0, 0, 0, 0), (.iload_n 1, 0, 0, 0, 0), (.iconst 1, 0, 0, 0, 1), (.iadd, 0, 0, 0, 0), (.invokevirtual 177, 185, 1, 12, 0), (.aload_n 0, 0, 0, 0, 0), (.bipush 93, 0, 0, 0, 93), (.invokestatic 193, 180, 1, 0, 0), (.invokevirtual 181, 178, 1, 12, 0), (.goto 47, 118, 0, 0, 0)]
  | 74 => [(.iload_n 2, 0, 0, 0, 0), (.bipush 50, 0, 0, 0, 50), (.if_icmp .ne 18, 95, 0, 0, 0), (.aload_n 0, 0, 0, 0, 0), (.getfield 46, 12, 13, 0, 0), (.aload_n 0, 0, 0, 0, 0), (.getfield 165, 12, 16, 0, 0), (.iaload, 0, 0, 0, 0), (.sipush 1000, 0, 0, 0, 1000), (.if_icmp .le 15, 107, 0, 0, 0)]
  | 95 => [(.iload_n 2, 0, 0, 0, 0), (.bipush 7, 0, 0, 0, 7), (.if_icmp .lt 16, 114, 0, 0, 0), (.iload_n 2, 0, 0, 0, 0), (.bipush 14, 0, 0, 0, 14), (.if_icmp .gt 10, 114, 0, 0, 0)]
  | 107 => [(.aload_n 0, 0, 0, 0, 0), (.invokevirtual 203, 179, 0, 12, 0), (.goto 7, 118, 0, 0, 0)]
  | 114 => [(.aload_n 0, 0, 0, 0, 0), (.invokevirtual 171, 176, 0, 12, 0)]
  | 118 => [(.return_, 0, 0, 0, 0)]
  | _ => []
theorem kX12_readPart (pc : Nat) : chk 187 (bX12_readPart pc) pc = true := by
  unfold bX12_readPart; split
  · decide +kernel
  · decide +kernel
  · decide +kernel
  · decide +kernel
  · decide +kernel
  · decide +kernel
  · decide +kernel
  · decide +kernel
  · decide +kernel
  · rfl
def bX12_reads : Nat → List Ins := fun pc => match pc with
  | 0 => [(.aload_n 0, 0, 0, 0, 0), (.aload_n 0, 0, 0, 0, 0), (.getfield 139, 12, 10, 0, 0), (.invokevirtual 206, 174, 1, 12, 0), (.aload_n 0, 0, 0, 0, 0), (.iconst 0, 0, 0, 0, 0), (.putfield 139, 12, 10, 0, 0), (.aload_n 0, 0, 0, 0, 0), (.iconst 0, 0, 0, 0, 0), (.putfield 165, 12, 16, 0, 0), (.aload_n 0, 0, 0, 0, 0), (.iconst 0, 0, 0, 0, 0), (.putfield 174, 12, 17, 0, 0), (.aload_n 0, 0, 0, 0, 0), (.iconst (-1), 0, 0, 0, (-1)), (.putfield 158, 12, 18, 0, 0), (.aload_n 0, 0, 0, 0, 0), (.invokevirtual 209, 181, 0, 12, 0), (.iconst 1, 0, 0, 0, 1), (.istore_n 1, 0, 0, 0, 0)]
  | 34 => [(.aload_n 0, 0, 0, 0, 0), (.bipush 59, 0, 0, 0, 59), (.invokestatic 193, 180, 1, 0, 0), (.invokevirtual 168, 177, 1, 12, 0), (.ifCond .eq 30, 73, 0, 0, 0), (.iload_n 1, 0, 0, 0, 0), (.bipush 12, 0, 0, 0, 12), (.if_icmp .ne 7, 56, 0, 0, 0), (.aload_n 0, 0, 0, 0, 0), (.invokevirtual 171, 176, 0, 12, 0)]
  | 56 => [(.aload_n 0, 0, 0, 0, 0), (.invokevirtual 161, 175, 0, 12, 0), (.ifCond .eq 7, 67, 0, 0, 0), (.aload_n 0, 0, 0, 0, 0), (.invokevirtual 209, 181, 0, 12, 0)]
  | 67 => [(.iinc 1 1, 0, 0, 0, 1), (.goto (-36), 34, 0, 0, 0)]
  | 73 => [(.aload_n 0, 0, 0, 0, 0), (.invokevirtual 161, 175, 0, 12, 0), (.ifCond .eq 18, 95, 0, 0, 0), (.aload_n 0, 0, 0, 0, 0), (.getfield 165, 12, 16, 0, 0), (.aload_n 0, 0, 0, 0, 0), (.getfield 145, 12, 15, 0, 0), (.if_icmp .ge 7, 95, 0, 0, 0), (.aload_n 0, 0, 0, 0, 0), (.invokevirtual 171, 176, 0, 12, 0)]
  | 95 => [(.aload_n 0, 0, 0, 0, 0), (.aload_n 0, 0, 0, 0, 0), (.getfield 158, 12, 18, 0, 0), (.putfield 40, 12, 11, 0, 0), (.aload_n 0, 0, 0, 0, 0), (.invokevirtual 161, 175, 0, 12, 0), (.ireturn, 1, 0, 0, 0)]
  | _ => []
theorem kX12_reads (pc : Nat) : chk 188 (bX12_reads pc) pc = true := by
  unfold bX12_reads; split
  · decide +kernel
  · decide +kernel
  · decide +kernel
  · decide +kernel
  · decide +kernel
  · decide +kernel
  · rfl
def bX12_law : Nat → List Ins := fun pc => match pc with
  | 0 => [(.aload_n 0, 0, 0, 0, 0), (.getfield 20, 12, 3, 0, 0), (.sipush 160, 0, 0, 0, 160), (.iaload, 0, 0, 0, 0), (.bipush 6, 0, 0, 0, 6), (.if_icmp .ne 15, 25, 0, 0, 0), (.aload_n 0, 0, 0, 0, 0), (.iconst 0, 0, 0, 0, 0), (.putfield 139, 12, 10, 0, 0), (.aload_n 0, 0, 0, 0, 0), (.bipush (-5), 0, 0, 0, (-5)), (.invokevirtual 95, 145, 1, 12, 0), (.ireturn, 0, 0, 0, 0)]
  | 25 => [(.aload_n 0, 0, 0, 0, 0), (.invokevirtual 212, 188, 0, 12, 0), (.ifCond .ne 10, 39, 0, 0, 0), (.aload_n 0, 0, 0, 0, 0), (.bipush (-6), 0, 0, 0, (-6)), (.invokevirtual 95, 145, 1, 12, 0), (.ireturn, 0, 0, 0, 0)]
  | 39 => [(.aload_n 0, 0, 0, 0, 0), (.getfield 20, 12, 3, 0, 0), (.sipush 160, 0, 0, 0, 160), (.iaload, 0, 0, 0, 0), (.istore_n 1, 0, 0, 0, 0), (.aload_n 0, 0, 0, 0, 0), (.getfield 20, 12, 3, 0, 0), (.sipush 162, 0, 0, 0, 162), (.iload_n 1, 0, 0, 0, 0), (.iadd, 0, 0, 0, 0), (.aload_n 0, 0, 0, 0, 0), (.getfield 145, 12, 15, 0, 0), (.iastore, 0, 0, 0, 0), (.iconst 0, 0, 0, 0, 0), (.istore_n 2, 0, 0, 0, 0)]
  | 64 => [(.iload_n 2, 0, 0, 0, 0), (.aload_n 0, 0, 0, 0, 0), (.getfield 145, 12, 15, 0, 0), (.if_icmp .ge 53, 122, 0, 0, 0), (.aload_n 0, 0, 0, 0, 0), (.getfield 20, 12, 3, 0, 0), (.sipush 168, 0, 0, 0, 168), (.sipush 400, 0, 0, 0, 400), (.iload_n 1, 0, 0, 0, 0), (.imul, 0, 0, 0, 0), (.iadd, 0, 0, 0, 0), (.iload_n 2, 0, 0, 0, 0), (.iadd, 0, 0, 0, 0), (.aload_n 0, 0, 0, 0, 0), (.getfield 43, 12, 12, 0, 0), (.iload_n 2, 0, 0, 0, 0), (.iaload, 0, 0, 0, 0), (.iastore, 0, 0, 0, 0), (.aload_n 0, 0, 0, 0, 0), (.getfield 20, 12, 3, 0, 0), (.sipush 2568, 0, 0, 0, 2568), (.sipush 400, 0, 0, 0, 400), (.iload_n 1, 0, 0, 0, 0), (.imul, 0, 0, 0, 0), (.iadd, 0, 0, 0, 0), (.iload_n 2, 0, 0, 0, 0), (.iadd, 0, 0, 0, 0), (.aload_n 0, 0, 0, 0, 0), (.getfield 46, 12, 13, 0, 0), (.iload_n 2, 0, 0, 0, 0), (.iaload, 0, 0, 0, 0), (.iastore, 0, 0, 0, 0), (.iinc 2 1, 0, 0, 0, 1), (.goto (-55), 64, 0, 0, 0)]
  | 122 => [(.aload_n 0, 0, 0, 0, 0), (.getfield 20, 12, 3, 0, 0), (.sipush 160, 0, 0, 0, 160), (.dup2, 0, 0, 0, 0), (.iaload, 0, 0, 0, 0), (.iconst 1, 0, 0, 0, 1), (.iadd, 0, 0, 0, 0), (.iastore, 0, 0, 0, 0), (.aload_n 0, 0, 0, 0, 0), (.iload_n 1, 0, 0, 0, 0), (.invokevirtual 99, 146, 1, 12, 0), (.ireturn, 0, 0, 0, 0)]
  | _ => []
theorem kX12_law (pc : Nat) : chk 189 (bX12_law pc) pc = true := by
  unfold bX12_law; split
  · decide +kernel
  · decide +kernel
  · decide +kernel
  · decide +kernel
  · decide +kernel
  · rfl
end
section
/-! the code of the methods, as lists (wip/gen/code.py) -/
def bX12_fault : Nat → List Ins := fun pc => match pc with
  | 0 => [(.aload_n 0, 0, 0, 0, 0), (.getfield 40, 12, 11, 0, 0), (.ireturn, 0, 0, 0, 0)]
  | _ => []
theorem kX12_fault (pc : Nat) : chk 190 (bX12_fault pc) pc = true := by
  unfold bX12_fault; split
  · decide +kernel
  · rfl
def bX12_force : Nat → List Ins := fun pc => match pc with
  | 0 => [(.iload_n 1, 0, 0, 0, 0), (.iconst (-1), 0, 0, 0, (-1)), (.aload_n 0, 0, 0, 0, 0), (.getfield 20, 12, 3, 0, 0), (.sipush 160, 0, 0, 0, 160), (.iaload, 0, 0, 0, 0), (.iconst 1, 0, 0, 0, 1), (.isub, 0, 0, 0, 0), (.invokestatic 91, 144, 3, 0, 0), (.ifCond .ne 10, 25, 0, 0, 0), (.aload_n 0, 0, 0, 0, 0), (.bipush (-2), 0, 0, 0, (-2)), (.invokevirtual 95, 145, 1, 12, 0), (.ireturn, 0, 0, 0, 0)]
  | 25 => [(.aload_n 0, 0, 0, 0, 0), (.getfield 20, 12, 3, 0, 0), (.sipush 161, 0, 0, 0, 161), (.iaload, 0, 0, 0, 0), (.istore_n 2, 0, 0, 0, 0), (.aload_n 0, 0, 0, 0, 0), (.getfield 20, 12, 3, 0, 0), (.sipush 161, 0, 0, 0, 161), (.iload_n 1, 0, 0, 0, 0), (.iastore, 0, 0, 0, 0), (.aload_n 0, 0, 0, 0, 0), (.iload_n 2, 0, 0, 0, 0), (.invokevirtual 99, 146, 1, 12, 0), (.ireturn, 0, 0, 0, 0)]
  | _ => []
theorem kX12_force (pc : Nat) : chk 191 (bX12_force pc) pc = true := by
  unfold bX12_force; split
  · decide +kernel
  · decide +kernel
  · rfl
def bX12_codeAt : Nat → List Ins := fun pc => match pc with
  | 0 => [(.iload_n 1, 0, 0, 0, 0), (.aload_n 0, 0, 0, 0, 0), (.getfield 215, 12, 20, 0, 0), (.if_icmp .ge 16, 21, 0, 0, 0), (.aload_n 0, 0, 0, 0, 0), (.getfield 20, 12, 3, 0, 0), (.sipush 168, 0, 0, 0, 168), (.iload_n 1, 0, 0, 0, 0), (.iadd, 0, 0, 0, 0), (.iaload, 0, 0, 0, 0), (.goto 4, 22, 0, 0, 0)]
  | 21 => [(.iconst 0, 0, 0, 0, 0)]
  | 22 => [(.ireturn, 0, 0, 0, 0)]
  | _ => []
theorem kX12_codeAt (pc : Nat) : chk 192 (bX12_codeAt pc) pc = true := by
  unfold bX12_codeAt; split
  · decide +kernel
  · decide +kernel
  · decide +kernel
  · rfl
def bX12_passes0 : Nat → List Ins := fun pc => match pc with
  | 0 => [(.aload_n 0, 0, 0, 0, 0), (.aload_n 0, 0, 0, 0, 0), (.getfield 218, 12, 19, 0, 0), (.invokevirtual 221, 192, 1, 12, 0), (.iload_n 1, 0, 0, 0, 0), (.if_icmp .ne 7, 16, 0, 0, 0), (.iconst 1, 0, 0, 0, 1), (.goto 4, 17, 0, 0, 0)]
  | 16 => [(.iconst 0, 0, 0, 0, 0)]
  | 17 => [(.istore_n 2, 0, 0, 0, 0), (.iload_n 2, 0, 0, 0, 0), (.ifCond .eq 13, 32, 0, 0, 0), (.aload_n 0, 0, 0, 0, 0), (.dup, 0, 0, 0, 0), (.getfield 218, 12, 19, 0, 0), (.iconst 1, 0, 0, 0, 1), (.iadd, 0, 0, 0, 0), (.putfield 218, 12, 19, 0, 0)]
  | 32 => [(.iload_n 2, 0, 0, 0, 0), (.ireturn, 1, 0, 0, 0)]
  | _ => []
theorem kX12_passes0 (pc : Nat) : chk 193 (bX12_passes0 pc) pc = true := by
  unfold bX12_passes0; split
  · decide +kernel
  · decide +kernel
  · decide +kernel
  · decide +kernel
  · rfl
def bX12_bounded : Nat → List Ins := fun pc => match pc with
  | 0 => [(.iload_n 3, 0, 0, 0, 0), (.ifCond .eq 24, 25, 0, 0, 0), (.lload_n 1, 0, 0, 0, 0), (.ldc2_w 224, 1000000000, 0, 0, 0), (.lcmp, 0, 0, 0, 0), (.ifCond .gt 11, 20, 0, 0, 0), (.lload_n 1, 0, 0, 0, 0), (.ldc2_w 226, 1000000000, 1, 0, 0), (.lcmp, 0, 0, 0, 0), (.ifCond .ge 8, 25, 0, 0, 0)]
  | 20 => [(.aload_n 0, 0, 0, 0, 0), (.iconst 1, 0, 0, 0, 1), (.putfield 228, 12, 21, 1, 0)]
  | 25 => [(.aload_n 0, 0, 0, 0, 0), (.getfield 228, 12, 21, 0, 0), (.ifCond .eq 7, 36, 0, 0, 0), (.lconst 0, 0, 0, 0, 0), (.goto 4, 37, 0, 0, 0)]
  | 36 => [(.lload_n 1, 0, 0, 0, 0)]
  | 37 => [(.lreturn, 0, 0, 0, 0)]
  | _ => []
theorem kX12_bounded (pc : Nat) : chk 194 (bX12_bounded pc) pc = true := by
  unfold bX12_bounded; split
  · decide +kernel
  · decide +kernel
  · decide +kernel
  · decide +kernel
  · decide +kernel
  · rfl
def bX12_sumOf : Nat → List Ins := fun pc => match pc with
  | 0 => [(.aload_n 0, 0, 0, 0, 0), (.iload_n 1, 0, 0, 0, 0), (.invokevirtual 232, 196, 1, 12, 0), (.lstore_n 2, 0, 0, 0, 0)]
  | 6 => [(.aload_n 0, 0, 0, 0, 0), (.aload_n 0, 0, 0, 0, 0), (.getfield 218, 12, 19, 0, 0), (.invokevirtual 221, 192, 1, 12, 0), (.bipush 43, 0, 0, 0, 43), (.invokestatic 193, 180, 1, 0, 0), (.if_icmp .eq 19, 38, 0, 0, 0), (.aload_n 0, 0, 0, 0, 0), (.aload_n 0, 0, 0, 0, 0), (.getfield 218, 12, 19, 0, 0), (.invokevirtual 221, 192, 1, 12, 0), (.bipush 45, 0, 0, 0, 45), (.invokestatic 193, 180, 1, 0, 0), (.if_icmp .ne 68, 103, 0, 0, 0)]
  | 38 => [(.aload_n 0, 0, 0, 0, 0), (.aload_n 0, 0, 0, 0, 0), (.getfield 218, 12, 19, 0, 0), (.invokevirtual 221, 192, 1, 12, 0), (.bipush 43, 0, 0, 0, 43), (.invokestatic 193, 180, 1, 0, 0), (.if_icmp .ne 7, 58, 0, 0, 0), (.iconst 1, 0, 0, 0, 1), (.goto 4, 59, 0, 0, 0)]
  | 58 => [(.iconst 0, 0, 0, 0, 0)]
  | 59 => [(.istore 4, 0, 0, 0, 0), (.aload_n 0, 0, 0, 0, 0), (.dup, 0, 0, 0, 0), (.getfield 218, 12, 19, 0, 0), (.iconst 1, 0, 0, 0, 1), (.iadd, 0, 0, 0, 0), (.putfield 218, 12, 19, 0, 0), (.aload_n 0, 0, 0, 0, 0), (.iload_n 1, 0, 0, 0, 0), (.invokevirtual 232, 196, 1, 12, 0), (.lstore 5, 0, 0, 0, 0), (.aload_n 0, 0, 0, 0, 0), (.iload 4, 0, 0, 0, 0), (.ifCond .eq 10, 91, 0, 0, 0), (.lload_n 2, 0, 0, 0, 0), (.lload 5, 0, 0, 0, 0), (.ladd, 0, 0, 0, 0), (.goto 7, 95, 0, 0, 0)]
  | 91 => [(.lload_n 2, 0, 0, 0, 0), (.lload 5, 0, 0, 0, 0), (.lsub, 0, 0, 0, 0)]
  | 95 => [(.iload_n 1, 0, 0, 0, 0), (.invokevirtual 236, 194, 2, 12, 0), (.lstore_n 2, 0, 0, 0, 0), (.goto (-94), 6, 0, 0, 0)]
  | 103 => [(.lload_n 2, 0, 0, 0, 0), (.lreturn, 0, 0, 0, 0)]
  | _ => []
theorem kX12_sumOf (pc : Nat) : chk 195 (bX12_sumOf pc) pc = true := by
  unfold bX12_sumOf; split
  · decide +kernel
  · decide +kernel
  · decide +kernel
  · decide +kernel
  · decide +kernel
  · decide +kernel
  · decide +kernel
  · decide +kernel
  · rfl
def bX12_termOf : Nat → List Ins := fun pc => match pc with
  | 0 => [(.aload_n 0, 0, 0, 0, 0), (.iload_n 1, 0, 0, 0, 0), (.invokevirtual 240, 197, 1, 12, 0), (.lstore_n 2, 0, 0, 0, 0)]
  | 6 => [(.aload_n 0, 0, 0, 0, 0), (.aload_n 0, 0, 0, 0, 0), (.getfield 218, 12, 19, 0, 0), (.invokevirtual 221, 192, 1, 12, 0), (.bipush 42, 0, 0, 0, 42), (.invokestatic 193, 180, 1, 0, 0), (.if_icmp .eq 19, 38, 0, 0, 0), (.aload_n 0, 0, 0, 0, 0), (.aload_n 0, 0, 0, 0, 0), (.getfield 218, 12, 19, 0, 0), (.invokevirtual 221, 192, 1, 12, 0), (.bipush 47, 0, 0, 0, 47), (.invokestatic 193, 180, 1, 0, 0), (.if_icmp .ne 103, 138, 0, 0, 0)]
  | 38 => [(.aload_n 0, 0, 0, 0, 0), (.aload_n 0, 0, 0, 0, 0), (.getfield 218, 12, 19, 0, 0), (.invokevirtual 221, 192, 1, 12, 0), (.bipush 42, 0, 0, 0, 42), (.invokestatic 193, 180, 1, 0, 0), (.if_icmp .ne 7, 58, 0, 0, 0), (.iconst 1, 0, 0, 0, 1), (.goto 4, 59, 0, 0, 0)]
  | 58 => [(.iconst 0, 0, 0, 0, 0)]
  | 59 => [(.istore 4, 0, 0, 0, 0), (.aload_n 0, 0, 0, 0, 0), (.dup, 0, 0, 0, 0), (.getfield 218, 12, 19, 0, 0), (.iconst 1, 0, 0, 0, 1), (.iadd, 0, 0, 0, 0), (.putfield 218, 12, 19, 0, 0), (.aload_n 0, 0, 0, 0, 0), (.iload_n 1, 0, 0, 0, 0), (.invokevirtual 240, 197, 1, 12, 0), (.lstore 5, 0, 0, 0, 0), (.iload 4, 0, 0, 0, 0), (.ifCond .ne 33, 113, 0, 0, 0), (.lload 5, 0, 0, 0, 0), (.lconst 0, 0, 0, 0, 0), (.lcmp, 0, 0, 0, 0), (.ifCond .ne 26, 113, 0, 0, 0), (.aload_n 0, 0, 0, 0, 0), (.aload_n 0, 0, 0, 0, 0), (.getfield 228, 12, 21, 0, 0), (.ifCond .ne 7, 102, 0, 0, 0), (.iload_n 1, 0, 0, 0, 0), (.ifCond .eq 7, 106, 0, 0, 0)]
  | 102 => [(.iconst 1, 0, 0, 0, 1), (.goto 4, 107, 0, 0, 0)]
  | 106 => [(.iconst 0, 0, 0, 0, 0)]
  | 107 => [(.putfield 228, 12, 21, 1, 0), (.lconst 1, 1, 0, 0, 0), (.lstore 5, 0, 0, 0, 0)]
  | 113 => [(.aload_n 0, 0, 0, 0, 0), (.iload 4, 0, 0, 0, 0), (.ifCond .eq 10, 126, 0, 0, 0), (.lload_n 2, 0, 0, 0, 0), (.lload 5, 0, 0, 0, 0), (.lmul, 0, 0, 0, 0), (.goto 7, 130, 0, 0, 0)]
  | 126 => [(.lload_n 2, 0, 0, 0, 0), (.lload 5, 0, 0, 0, 0), (.ldiv, 0, 0, 0, 0)]
  | 130 => [(.iload_n 1, 0, 0, 0, 0), (.invokevirtual 236, 194, 2, 12, 0), (.lstore_n 2, 0, 0, 0, 0), (.goto (-129), 6, 0, 0, 0)]
  | 138 => [(.lload_n 2, 0, 0, 0, 0), (.lreturn, 0, 0, 0, 0)]
  | _ => []
theorem kX12_termOf (pc : Nat) : chk 196 (bX12_termOf pc) pc = true := by
  unfold bX12_termOf; split
  · decide +kernel
  · decide +kernel
  · decide +kernel
  · decide +kernel
  · decide +kernel
  · decide +kernel
  · decide +kernel
  · decide +kernel
  · decide +kernel
  · decide +kernel
  · decide +kernel
  · decide +kernel
  · rfl
def bX12_partOf : Nat → List Ins := fun pc => match pc with
  | 0 => [(.aload_n 0, 0, 0, 0, 0), (.bipush 91, 0, 0, 0, 91), (.invokestatic 193, 180, 1, 0, 0), (.invokevirtual 243, 193, 1, 12, 0), (.ifCond .eq 21, 30, 0, 0, 0), (.aload_n 0, 0, 0, 0, 0), (.iload_n 1, 0, 0, 0, 0), (.invokevirtual 246, 195, 1, 12, 0), (.lstore_n 2, 0, 0, 0, 0), (.aload_n 0, 0, 0, 0, 0), (.dup, 0, 0, 0, 0), (.getfield 218, 12, 19, 0, 0), (.iconst 1, 0, 0, 0, 1), (.iadd, 0, 0, 0, 0), (.putfield 218, 12, 19, 0, 0), (.lload_n 2, 0, 0, 0, 0), (.lreturn, 0, 0, 0, 0)]
  | 30 => [(.aload_n 0, 0, 0, 0, 0), (.aload_n 0, 0, 0, 0, 0), (.getfield 218, 12, 19, 0, 0), (.invokevirtual 221, 192, 1, 12, 0), (.istore_n 2, 0, 0, 0, 0), (.aload_n 0, 0, 0, 0, 0), (.dup, 0, 0, 0, 0), (.getfield 218, 12, 19, 0, 0), (.iconst 1, 0, 0, 0, 1), (.iadd, 0, 0, 0, 0), (.putfield 218, 12, 19, 0, 0), (.iload_n 1, 0, 0, 0, 0), (.ifCond .eq 10, 60, 0, 0, 0), (.aload_n 0, 0, 0, 0, 0), (.getfield 228, 12, 21, 0, 0), (.ifCond .eq 5, 62, 0, 0, 0)]
  | 60 => [(.lconst 0, 0, 0, 0, 0), (.lreturn, 0, 0, 0, 0)]
  | 62 => [(.iload_n 2, 0, 0, 0, 0), (.bipush 50, 0, 0, 0, 50), (.if_icmp .ne 22, 87, 0, 0, 0), (.aload_n 0, 0, 0, 0, 0), (.getfield 20, 12, 3, 0, 0), (.sipush 2568, 0, 0, 0, 2568), (.aload_n 0, 0, 0, 0, 0), (.getfield 218, 12, 19, 0, 0), (.iadd, 0, 0, 0, 0), (.iconst 1, 0, 0, 0, 1), (.isub, 0, 0, 0, 0), (.iaload, 0, 0, 0, 0), (.i2l, 0, 0, 0, 0), (.goto 13, 97, 0, 0, 0)]
  | 87 => [(.aload_n 0, 0, 0, 0, 0), (.getfield 52, 12, 22, 0, 0), (.iload_n 2, 0, 0, 0, 0), (.bipush 7, 0, 0, 0, 7), (.isub, 0, 0, 0, 0), (.iaload, 0, 0, 0, 0), (.i2l, 0, 0, 0, 0)]
  | 97 => [(.lreturn, 0, 0, 0, 0)]
  | _ => []
theorem kX12_partOf (pc : Nat) : chk 197 (bX12_partOf pc) pc = true := by
  unfold bX12_partOf; split
  · decide +kernel
  · decide +kernel
  · decide +kernel
  · decide +kernel
  · decide +kernel
  · decide +kernel
  · rfl
def bX12_testOf : Nat → List Ins := fun pc => match pc with
  | 0 => [(.aload_n 0, 0, 0, 0, 0), (.iload_n 1, 0, 0, 0, 0), (.invokevirtual 249, 199, 1, 12, 0), (.istore_n 2, 0, 0, 0, 0)]
  | 6 => [(.aload_n 0, 0, 0, 0, 0), (.iconst 4, 0, 0, 0, 4), (.invokevirtual 243, 193, 1, 12, 0), (.ifCond .eq 38, 49, 0, 0, 0), (.aload_n 0, 0, 0, 0, 0), (.iload_n 1, 0, 0, 0, 0), (.ifCond .eq 11, 27, 0, 0, 0), (.iload_n 2, 0, 0, 0, 0), (.ifCond .ne 7, 27, 0, 0, 0), (.iconst 1, 0, 0, 0, 1), (.goto 4, 28, 0, 0, 0)]
  | 27 => [(.iconst 0, 0, 0, 0, 0)]
  | 28 => [(.invokevirtual 249, 199, 1, 12, 0), (.istore_n 3, 0, 0, 0, 0), (.iload_n 2, 0, 0, 0, 0), (.ifCond .ne 7, 40, 0, 0, 0), (.iload_n 3, 0, 0, 0, 0), (.ifCond .eq 7, 44, 0, 0, 0)]
  | 40 => [(.iconst 1, 0, 0, 0, 1), (.goto 4, 45, 0, 0, 0)]
  | 44 => [(.iconst 0, 0, 0, 0, 0)]
  | 45 => [(.istore_n 2, 0, 0, 0, 0), (.goto (-40), 6, 0, 0, 0)]
  | 49 => [(.iload_n 2, 0, 0, 0, 0), (.ireturn, 1, 0, 0, 0)]
  | _ => []
theorem kX12_testOf (pc : Nat) : chk 198 (bX12_testOf pc) pc = true := by
  unfold bX12_testOf; split
  · decide +kernel
  · decide +kernel
  · decide +kernel
  · decide +kernel
  · decide +kernel
  · decide +kernel
  · decide +kernel
  · decide +kernel
  · rfl
def bX12_bothOf : Nat → List Ins := fun pc => match pc with
  | 0 => [(.aload_n 0, 0, 0, 0, 0), (.iload_n 1, 0, 0, 0, 0), (.invokevirtual 253, 200, 1, 12, 0), (.istore_n 2, 0, 0, 0, 0)]
  | 6 => [(.aload_n 0, 0, 0, 0, 0), (.iconst 5, 0, 0, 0, 5), (.invokevirtual 243, 193, 1, 12, 0), (.ifCond .eq 38, 49, 0, 0, 0), (.aload_n 0, 0, 0, 0, 0), (.iload_n 1, 0, 0, 0, 0), (.ifCond .eq 11, 27, 0, 0, 0), (.iload_n 2, 0, 0, 0, 0), (.ifCond .eq 7, 27, 0, 0, 0), (.iconst 1, 0, 0, 0, 1), (.goto 4, 28, 0, 0, 0)]
  | 27 => [(.iconst 0, 0, 0, 0, 0)]
  | 28 => [(.invokevirtual 253, 200, 1, 12, 0), (.istore_n 3, 0, 0, 0, 0), (.iload_n 2, 0, 0, 0, 0), (.ifCond .eq 11, 44, 0, 0, 0), (.iload_n 3, 0, 0, 0, 0), (.ifCond .eq 7, 44, 0, 0, 0), (.iconst 1, 0, 0, 0, 1), (.goto 4, 45, 0, 0, 0)]
  | 44 => [(.iconst 0, 0, 0, 0, 0)]
  | 45 => [(.istore_n 2, 0, 0, 0, 0), (.goto (-40), 6, 0, 0, 0)]
  | 49 => [(.iload_n 2, 0, 0, 0, 0), (.ireturn, 1, 0, 0, 0)]
  | _ => []
theorem kX12_bothOf (pc : Nat) : chk 199 (bX12_bothOf pc) pc = true := by
  unfold bX12_bothOf; split
  · decide +kernel
  · decide +kernel
  · decide +kernel
  · decide +kernel
  · decide +kernel
  · decide +kernel
  · decide +kernel
  · rfl
def bX12_plainOf : Nat → List Ins := fun pc => match pc with
  | 0 => [(.iconst 0, 0, 0, 0, 0), (.istore_n 2, 0, 0, 0, 0)]
  | 2 => [(.aload_n 0, 0, 0, 0, 0), (.bipush 6, 0, 0, 0, 6), (.invokevirtual 243, 193, 1, 12, 0), (.ifCond .eq 16, 24, 0, 0, 0), (.iload_n 2, 0, 0, 0, 0), (.ifCond .ne 7, 19, 0, 0, 0), (.iconst 1, 0, 0, 0, 1), (.goto 4, 20, 0, 0, 0)]
  | 19 => [(.iconst 0, 0, 0, 0, 0)]
  | 20 => [(.istore_n 2, 0, 0, 0, 0), (.goto (-19), 2, 0, 0, 0)]
  | 24 => [(.aload_n 0, 0, 0, 0, 0), (.iload_n 1, 0, 0, 0, 0), (.invokevirtual 256, 201, 1, 12, 0), (.iload_n 2, 0, 0, 0, 0), (.if_icmp .eq 7, 37, 0, 0, 0), (.iconst 1, 0, 0, 0, 1), (.goto 4, 38, 0, 0, 0)]
  | 37 => [(.iconst 0, 0, 0, 0, 0)]
  | 38 => [(.ireturn, 1, 0, 0, 0)]
  | _ => []
theorem kX12_plainOf (pc : Nat) : chk 200 (bX12_plainOf pc) pc = true := by
  unfold bX12_plainOf; split
  · decide +kernel
  · decide +kernel
  · decide +kernel
  · decide +kernel
  · decide +kernel
  · decide +kernel
  · decide +kernel
  · rfl
def bX12_positiveOf : Nat → List Ins := fun pc => match pc with
  | 0 => [(.aload_n 0, 0, 0, 0, 0), (.bipush 40, 0, 0, 0, 40), (.invokestatic 193, 180, 1, 0, 0), (.invokevirtual 243, 193, 1, 12, 0), (.ifCond .eq 21, 30, 0, 0, 0), (.aload_n 0, 0, 0, 0, 0), (.iload_n 1, 0, 0, 0, 0), (.invokevirtual 259, 198, 1, 12, 0), (.istore_n 2, 0, 0, 0, 0), (.aload_n 0, 0, 0, 0, 0), (.dup, 0, 0, 0, 0), (.getfield 218, 12, 19, 0, 0), (.iconst 1, 0, 0, 0, 1), (.iadd, 0, 0, 0, 0), (.putfield 218, 12, 19, 0, 0), (.iload_n 2, 0, 0, 0, 0), (.ireturn, 1, 0, 0, 0)]
  | 30 => [(.aload_n 0, 0, 0, 0, 0), (.iload_n 1, 0, 0, 0, 0), (.invokevirtual 246, 195, 1, 12, 0), (.lstore_n 2, 0, 0, 0, 0), (.aload_n 0, 0, 0, 0, 0), (.aload_n 0, 0, 0, 0, 0), (.getfield 218, 12, 19, 0, 0), (.invokevirtual 221, 192, 1, 12, 0), (.istore 4, 0, 0, 0, 0), (.aload_n 0, 0, 0, 0, 0), (.dup, 0, 0, 0, 0), (.getfield 218, 12, 19, 0, 0), (.iconst 1, 0, 0, 0, 1), (.iadd, 0, 0, 0, 0), (.putfield 218, 12, 19, 0, 0), (.aload_n 0, 0, 0, 0, 0), (.iload_n 1, 0, 0, 0, 0), (.invokevirtual 246, 195, 1, 12, 0), (.lstore 5, 0, 0, 0, 0), (.iload_n 1, 0, 0, 0, 0), (.ifCond .eq 61, 125, 0, 0, 0), (.aload_n 0, 0, 0, 0, 0), (.getfield 228, 12, 21, 0, 0), (.ifCond .ne 54, 125, 0, 0, 0), (.iload 4, 0, 0, 0, 0), (.bipush 60, 0, 0, 0, 60), (.invokestatic 193, 180, 1, 0, 0), (.if_icmp .ne 13, 94, 0, 0, 0), (.lload_n 2, 0, 0, 0, 0), (.lload 5, 0, 0, 0, 0), (.lcmp, 0, 0, 0, 0), (.ifCond .ge 37, 125, 0, 0, 0), (.goto 30, 121, 0, 0, 0)]
  | 94 => [(.iload 4, 0, 0, 0, 0), (.bipush 62, 0, 0, 0, 62), (.invokestatic 193, 180, 1, 0, 0), (.if_icmp .ne 13, 114, 0, 0, 0), (.lload_n 2, 0, 0, 0, 0), (.lload 5, 0, 0, 0, 0), (.lcmp, 0, 0, 0, 0), (.ifCond .le 17, 125, 0, 0, 0), (.goto 10, 121, 0, 0, 0)]
  | 114 => [(.lload_n 2, 0, 0, 0, 0), (.lload 5, 0, 0, 0, 0), (.lcmp, 0, 0, 0, 0), (.ifCond .ne 7, 125, 0, 0, 0)]
  | 121 => [(.iconst 1, 0, 0, 0, 1), (.goto 4, 126, 0, 0, 0)]
  | 125 => [(.iconst 0, 0, 0, 0, 0)]
  | 126 => [(.ireturn, 1, 0, 0, 0)]
  | _ => []
theorem kX12_positiveOf (pc : Nat) : chk 201 (bX12_positiveOf pc) pc = true := by
  unfold bX12_positiveOf; split
  · decide +kernel
  · decide +kernel
  · decide +kernel
  · decide +kernel
  · decide +kernel
  · decide +kernel
  · decide +kernel
  · rfl
def bX12_asksOf : Nat → List Ins := fun pc => match pc with
  | 0 => [(.aload_n 0, 0, 0, 0, 0), (.getfield 55, 12, 23, 0, 0), (.iload_n 1, 0, 0, 0, 0), (.aload_n 0, 0, 0, 0, 0), (.getfield 20, 12, 3, 0, 0), (.sipush 154, 0, 0, 0, 154), (.iaload, 0, 0, 0, 0), (.iastore, 0, 0, 0, 0), (.aload_n 0, 0, 0, 0, 0), (.getfield 58, 12, 24, 0, 0), (.iload_n 1, 0, 0, 0, 0), (.iconst 0, 0, 0, 0, 0), (.bastore, 0, 0, 0, 0), (.aload_n 0, 0, 0, 0, 0), (.getfield 20, 12, 3, 0, 0), (.sipush 161, 0, 0, 0, 161), (.iaload, 0, 0, 0, 0), (.iconst (-1), 0, 0, 0, (-1)), (.if_icmp .ne 4, 34, 0, 0, 0), (.return_, 0, 0, 0, 0)]
  | 34 => [(.aload_n 0, 0, 0, 0, 0), (.getfield 52, 12, 22, 0, 0), (.iconst 0, 0, 0, 0, 0), (.iload_n 1, 0, 0, 0, 0), (.iastore, 0, 0, 0, 0), (.iconst 0, 0, 0, 0, 0), (.istore_n 2, 0, 0, 0, 0)]
  | 43 => [(.iload_n 2, 0, 0, 0, 0), (.bipush 7, 0, 0, 0, 7), (.if_icmp .ge 23, 69, 0, 0, 0), (.aload_n 0, 0, 0, 0, 0), (.getfield 52, 12, 22, 0, 0), (.iconst 1, 0, 0, 0, 1), (.iload_n 2, 0, 0, 0, 0), (.iadd, 0, 0, 0, 0), (.aload_n 0, 0, 0, 0, 0), (.iload_n 1, 0, 0, 0, 0), (.iload_n 2, 0, 0, 0, 0), (.invokevirtual 113, 155, 2, 12, 0), (.iastore, 0, 0, 0, 0), (.iinc 2 1, 0, 0, 0, 1), (.goto (-23), 43, 0, 0, 0)]
  | 69 => [(.aload_n 0, 0, 0, 0, 0), (.sipush 400, 0, 0, 0, 400), (.aload_n 0, 0, 0, 0, 0), (.getfield 20, 12, 3, 0, 0), (.sipush 161, 0, 0, 0, 161), (.iaload, 0, 0, 0, 0), (.imul, 0, 0, 0, 0), (.putfield 218, 12, 19, 0, 0), (.aload_n 0, 0, 0, 0, 0), (.aload_n 0, 0, 0, 0, 0), (.getfield 218, 12, 19, 0, 0), (.aload_n 0, 0, 0, 0, 0), (.getfield 20, 12, 3, 0, 0), (.sipush 162, 0, 0, 0, 162), (.aload_n 0, 0, 0, 0, 0), (.getfield 20, 12, 3, 0, 0), (.sipush 161, 0, 0, 0, 161), (.iaload, 0, 0, 0, 0), (.iadd, 0, 0, 0, 0), (.iaload, 0, 0, 0, 0), (.iadd, 0, 0, 0, 0), (.putfield 215, 12, 20, 0, 0)]
  | 111 => [(.aload_n 0, 0, 0, 0, 0), (.getfield 218, 12, 19, 0, 0), (.aload_n 0, 0, 0, 0, 0), (.getfield 215, 12, 20, 0, 0), (.if_icmp .ge 173, 292, 0, 0, 0), (.aload_n 0, 0, 0, 0, 0), (.aload_n 0, 0, 0, 0, 0), (.getfield 218, 12, 19, 0, 0), (.invokevirtual 221, 192, 1, 12, 0), (.iconst 2, 0, 0, 0, 2), (.if_icmp .ne 7, 138, 0, 0, 0), (.iconst 1, 0, 0, 0, 1), (.goto 4, 139, 0, 0, 0)]
  | 138 => [(.iconst 0, 0, 0, 0, 0)]
  | 139 => [(.istore_n 2, 0, 0, 0, 0), (.aload_n 0, 0, 0, 0, 0), (.iconst 0, 0, 0, 0, 0), (.putfield 228, 12, 21, 1, 0), (.aload_n 0, 0, 0, 0, 0), (.dup, 0, 0, 0, 0), (.getfield 218, 12, 19, 0, 0), (.iconst 1, 0, 0, 0, 1), (.iadd, 0, 0, 0, 0), (.putfield 218, 12, 19, 0, 0), (.iload_n 2, 0, 0, 0, 0), (.ifCond .eq 7, 163, 0, 0, 0), (.lconst 0, 0, 0, 0, 0), (.goto 8, 168, 0, 0, 0)]
  | 163 => [(.aload_n 0, 0, 0, 0, 0), (.iconst 1, 0, 0, 0, 1), (.invokevirtual 246, 195, 1, 12, 0)]
  | 168 => [(.lstore_n 3, 0, 0, 0, 0), (.aload_n 0, 0, 0, 0, 0), (.getfield 228, 12, 21, 0, 0), (.istore 5, 0, 0, 0, 0), (.aload_n 0, 0, 0, 0, 0), (.iconst 0, 0, 0, 0, 0), (.putfield 228, 12, 21, 1, 0), (.aload_n 0, 0, 0, 0, 0), (.iconst 3, 0, 0, 0, 3), (.invokevirtual 243, 193, 1, 12, 0), (.ifCond .eq 11, 196, 0, 0, 0), (.aload_n 0, 0, 0, 0, 0), (.iconst 1, 0, 0, 0, 1), (.invokevirtual 259, 198, 1, 12, 0), (.ifCond .eq 7, 200, 0, 0, 0)]
  | 196 => [(.iconst 1, 0, 0, 0, 1), (.goto 4, 201, 0, 0, 0)]
  | 200 => [(.iconst 0, 0, 0, 0, 0)]
  | 201 => [(.istore 6, 0, 0, 0, 0), (.iload 6, 0, 0, 0, 0), (.ifCond .eq 74, 279, 0, 0, 0), (.aload_n 0, 0, 0, 0, 0), (.getfield 228, 12, 21, 0, 0), (.ifCond .ne 67, 279, 0, 0, 0), (.iload 5, 0, 0, 0, 0), (.ifCond .ne 62, 279, 0, 0, 0), (.aload_n 0, 0, 0, 0, 0), (.getfield 58, 12, 24, 0, 0), (.iload_n 1, 0, 0, 0, 0), (.aload_n 0, 0, 0, 0, 0), (.getfield 58, 12, 24, 0, 0), (.iload_n 1, 0, 0, 0, 0), (.baload, 0, 0, 0, 0), (.ifCond .ne 7, 238, 0, 0, 0), (.iload_n 2, 0, 0, 0, 0), (.ifCond .eq 7, 242, 0, 0, 0)]
  | 238 => [(.iconst 1, 0, 0, 0, 1), (.goto 4, 243, 0, 0, 0)]
  | 242 => [(.iconst 0, 0, 0, 0, 0)]
  | 243 => [(.bastore, 0, 0, 0, 0), (.iload_n 2, 0, 0, 0, 0), (.ifCond .ne 34, 279, 0, 0, 0), (.aload_n 0, 0, 0, 0, 0), (.getfield 55, 12, 23, 0, 0), (.iload_n 1, 0, 0, 0, 0), (.lload_n 3, 0, 0, 0, 0), (.lconst 0, 0, 0, 0, 0), (.lcmp, 0, 0, 0, 0), (.ifCond .ge 7, 263, 0, 0, 0), (.iconst 0, 0, 0, 0, 0), (.goto 18, 278, 0, 0, 0)]
  | 263 => [(.lload_n 3, 0, 0, 0, 0), (.ldc2_w 262, 12, 0, 0, 0), (.lcmp, 0, 0, 0, 0), (.ifCond .le 8, 276, 0, 0, 0), (.bipush 12, 0, 0, 0, 12), (.goto 5, 278, 0, 0, 0)]
  | 276 => [(.lload_n 3, 0, 0, 0, 0), (.l2i, 0, 0, 0, 0)]
  | 278 => [(.iastore, 0, 0, 0, 0)]
  | 279 => [(.aload_n 0, 0, 0, 0, 0), (.dup, 0, 0, 0, 0), (.getfield 218, 12, 19, 0, 0), (.iconst 1, 0, 0, 0, 1), (.iadd, 0, 0, 0, 0), (.putfield 218, 12, 19, 0, 0), (.goto (-178), 111, 0, 0, 0)]
  | 292 => [(.return_, 0, 0, 0, 0)]
  | _ => []
theorem kX12_asksOf (pc : Nat) : chk 202 (bX12_asksOf pc) pc = true := by
  unfold bX12_asksOf; split
  · decide +kernel
  · decide +kernel
  · decide +kernel
  · decide +kernel
  · decide +kernel
  · decide +kernel
  · decide +kernel
  · decide +kernel
  · decide +kernel
  · decide +kernel
  · decide +kernel
  · decide +kernel
  · decide +kernel
  · decide +kernel
  · decide +kernel
  · decide +kernel
  · decide +kernel
  · decide +kernel
  · decide +kernel
  · decide +kernel
  · rfl
def bX12_touch : Nat → List Ins := fun pc => match pc with
  | 0 => [(.iconst 0, 0, 0, 0, 0), (.istore_n 3, 0, 0, 0, 0)]
  | 2 => [(.iload_n 3, 0, 0, 0, 0), (.aload_n 0, 0, 0, 0, 0), (.iload_n 1, 0, 0, 0, 0), (.iconst 2, 0, 0, 0, 2), (.invokevirtual 113, 155, 2, 12, 0), (.aload_n 0, 0, 0, 0, 0), (.iload_n 1, 0, 0, 0, 0), (.iconst 3, 0, 0, 0, 3), (.invokevirtual 113, 155, 2, 12, 0), (.imul, 0, 0, 0, 0), (.if_icmp .ge 101, 117, 0, 0, 0), (.aload_n 0, 0, 0, 0, 0), (.iload_n 1, 0, 0, 0, 0), (.iconst 0, 0, 0, 0, 0), (.invokevirtual 113, 155, 2, 12, 0), (.iload_n 3, 0, 0, 0, 0), (.aload_n 0, 0, 0, 0, 0), (.iload_n 1, 0, 0, 0, 0), (.iconst 2, 0, 0, 0, 2), (.invokevirtual 113, 155, 2, 12, 0), (.irem, 0, 0, 0, 0), (.iadd, 0, 0, 0, 0), (.istore 4, 0, 0, 0, 0), (.aload_n 0, 0, 0, 0, 0), (.iload_n 1, 0, 0, 0, 0), (.iconst 1, 0, 0, 0, 1), (.invokevirtual 113, 155, 2, 12, 0), (.iload_n 3, 0, 0, 0, 0), (.aload_n 0, 0, 0, 0, 0), (.iload_n 1, 0, 0, 0, 0), (.iconst 2, 0, 0, 0, 2), (.invokevirtual 113, 155, 2, 12, 0), (.idiv, 0, 0, 0, 0), (.iadd, 0, 0, 0, 0), (.istore 5, 0, 0, 0, 0), (.aload_n 0, 0, 0, 0, 0), (.iload_n 2, 0, 0, 0, 0), (.iload 4, 0, 0, 0, 0), (.iconst 1, 0, 0, 0, 1), (.iadd, 0, 0, 0, 0), (.iload 5, 0, 0, 0, 0), (.invokevirtual 120, 157, 3, 12, 0), (.ifCond .ne 45, 109, 0, 0, 0), (.aload_n 0, 0, 0, 0, 0), (.iload_n 2, 0, 0, 0, 0), (.iload 4, 0, 0, 0, 0), (.iconst 1, 0, 0, 0, 1), (.isub, 0, 0, 0, 0), (.iload 5, 0, 0, 0, 0), (.invokevirtual 120, 157, 3, 12, 0), (.ifCond .ne 31, 109, 0, 0, 0), (.aload_n 0, 0, 0, 0, 0), (.iload_n 2, 0, 0, 0, 0), (.iload 4, 0, 0, 0, 0), (.iload 5, 0, 0, 0, 0), (.iconst 1, 0, 0, 0, 1), (.iadd, 0, 0, 0, 0), (.invokevirtual 120, 157, 3, 12, 0), (.ifCond .ne 17, 109, 0, 0, 0), (.aload_n 0, 0, 0, 0, 0), (.iload_n 2, 0, 0, 0, 0), (.iload 4, 0, 0, 0, 0), (.iload 5, 0, 0, 0, 0), (.iconst 1, 0, 0, 0, 1), (.isub, 0, 0, 0, 0), (.invokevirtual 120, 157, 3, 12, 0), (.ifCond .eq 5, 111, 0, 0, 0)]
  | 109 => [(.iconst 1, 0, 0, 0, 1), (.ireturn, 1, 0, 0, 0)]
  | 111 => [(.iinc 3 1, 0, 0, 0, 1), (.goto (-112), 2, 0, 0, 0)]
  | 117 => [(.iconst 0, 0, 0, 0, 0), (.ireturn, 1, 0, 0, 0)]
  | _ => []
theorem kX12_touch (pc : Nat) : chk 203 (bX12_touch pc) pc = true := by
  unfold bX12_touch; split
  · decide +kernel
  · decide +kernel
  · decide +kernel
  · decide +kernel
  · decide +kernel
  · rfl
def bX12_looks : Nat → List Ins := fun pc => match pc with
  | 0 => [(.aload_n 0, 0, 0, 0, 0), (.getfield 67, 12, 27, 0, 0), (.aload_n 0, 0, 0, 0, 0), (.getfield 11, 12, 1, 0, 0), (.if_icmp .ne 4, 12, 0, 0, 0), (.return_, 0, 0, 0, 0)]
  | 12 => [(.aload_n 0, 0, 0, 0, 0), (.aload_n 0, 0, 0, 0, 0), (.getfield 11, 12, 1, 0, 0), (.putfield 67, 12, 27, 0, 0), (.iconst 0, 0, 0, 0, 0), (.istore_n 1, 0, 0, 0, 0)]
  | 22 => [(.iload_n 1, 0, 0, 0, 0), (.bipush 22, 0, 0, 0, 22), (.if_icmp .ge 164, 189, 0, 0, 0), (.aload_n 0, 0, 0, 0, 0), (.iload_n 1, 0, 0, 0, 0), (.invokevirtual 117, 156, 1, 12, 0), (.ifCond .ne 6, 39, 0, 0, 0), (.goto 147, 183, 0, 0, 0)]
  | 39 => [(.aload_n 0, 0, 0, 0, 0), (.iload_n 1, 0, 0, 0, 0), (.invokevirtual 264, 202, 1, 12, 0), (.aload_n 0, 0, 0, 0, 0), (.getfield 61, 12, 25, 0, 0), (.iload_n 1, 0, 0, 0, 0), (.iconst 0, 0, 0, 0, 0), (.iastore, 0, 0, 0, 0), (.iconst 0, 0, 0, 0, 0), (.istore_n 2, 0, 0, 0, 0)]
  | 53 => [(.iload_n 2, 0, 0, 0, 0), (.bipush 22, 0, 0, 0, 22), (.if_icmp .ge 47, 103, 0, 0, 0), (.aload_n 0, 0, 0, 0, 0), (.getfield 61, 12, 25, 0, 0), (.iload_n 1, 0, 0, 0, 0), (.dup2, 0, 0, 0, 0), (.iaload, 0, 0, 0, 0), (.iload_n 2, 0, 0, 0, 0), (.iload_n 1, 0, 0, 0, 0), (.if_icmp .eq 26, 94, 0, 0, 0), (.aload_n 0, 0, 0, 0, 0), (.iload_n 2, 0, 0, 0, 0), (.invokevirtual 117, 156, 1, 12, 0), (.ifCond .eq 18, 94, 0, 0, 0), (.aload_n 0, 0, 0, 0, 0), (.iload_n 1, 0, 0, 0, 0), (.iload_n 2, 0, 0, 0, 0), (.invokevirtual 267, 203, 2, 12, 0), (.ifCond .eq 9, 94, 0, 0, 0), (.iconst 1, 0, 0, 0, 1), (.iload_n 2, 0, 0, 0, 0), (.ishl, 0, 0, 0, 0), (.goto 4, 95, 0, 0, 0)]
  | 94 => [(.iconst 0, 0, 0, 0, 0)]
  | 95 => [(.ior, 0, 0, 0, 0), (.iastore, 0, 0, 0, 0), (.iinc 2 1, 0, 0, 0, 1), (.goto (-47), 53, 0, 0, 0)]
  | 103 => [(.aload_n 0, 0, 0, 0, 0), (.getfield 64, 12, 26, 0, 0), (.iload_n 1, 0, 0, 0, 0), (.aload_n 0, 0, 0, 0, 0), (.iload_n 1, 0, 0, 0, 0), (.iconst 1, 0, 0, 0, 1), (.invokevirtual 113, 155, 2, 12, 0), (.ifCond .ne 14, 128, 0, 0, 0), (.aload_n 0, 0, 0, 0, 0), (.getfield 20, 12, 3, 0, 0), (.sipush 155, 0, 0, 0, 155), (.iaload, 0, 0, 0, 0), (.goto 4, 129, 0, 0, 0)]
  | 128 => [(.iconst 0, 0, 0, 0, 0)]
  | 129 => [(.aload_n 0, 0, 0, 0, 0), (.iload_n 1, 0, 0, 0, 0), (.iconst 0, 0, 0, 0, 0), (.invokevirtual 113, 155, 2, 12, 0), (.ifCond .ne 14, 149, 0, 0, 0), (.aload_n 0, 0, 0, 0, 0), (.getfield 20, 12, 3, 0, 0), (.sipush 156, 0, 0, 0, 156), (.iaload, 0, 0, 0, 0), (.goto 4, 150, 0, 0, 0)]
  | 149 => [(.iconst 0, 0, 0, 0, 0)]
  | 150 => [(.iadd, 0, 0, 0, 0), (.aload_n 0, 0, 0, 0, 0), (.iload_n 1, 0, 0, 0, 0), (.iconst 0, 0, 0, 0, 0), (.invokevirtual 113, 155, 2, 12, 0), (.aload_n 0, 0, 0, 0, 0), (.iload_n 1, 0, 0, 0, 0), (.iconst 2, 0, 0, 0, 2), (.invokevirtual 113, 155, 2, 12, 0), (.iadd, 0, 0, 0, 0), (.bipush 12, 0, 0, 0, 12), (.if_icmp .ne 14, 180, 0, 0, 0), (.aload_n 0, 0, 0, 0, 0), (.getfield 20, 12, 3, 0, 0), (.sipush 156, 0, 0, 0, 156), (.iaload, 0, 0, 0, 0), (.goto 4, 181, 0, 0, 0)]
  | 180 => [(.iconst 0, 0, 0, 0, 0)]
  | 181 => [(.iadd, 0, 0, 0, 0), (.iastore, 0, 0, 0, 0)]
  | 183 => [(.iinc 1 1, 0, 0, 0, 1), (.goto (-164), 22, 0, 0, 0)]
  | 189 => [(.return_, 0, 0, 0, 0)]
  | _ => []
theorem kX12_looks (pc : Nat) : chk 204 (bX12_looks pc) pc = true := by
  unfold bX12_looks; split
  · decide +kernel
  · decide +kernel
  · decide +kernel
  · decide +kernel
  · decide +kernel
  · decide +kernel
  · decide +kernel
  · decide +kernel
  · decide +kernel
  · decide +kernel
  · decide +kernel
  · decide +kernel
  · decide +kernel
  · decide +kernel
  · decide +kernel
  · decide +kernel
  · rfl
def bX12_stands : Nat → List Ins := fun pc => match pc with
  | 0 => [(.aload_n 0, 0, 0, 0, 0), (.getfield 58, 12, 24, 0, 0), (.iload_n 1, 0, 0, 0, 0), (.baload, 0, 0, 0, 0), (.ifCond .ne 30, 36, 0, 0, 0), (.aload_n 0, 0, 0, 0, 0), (.getfield 61, 12, 25, 0, 0), (.iload_n 1, 0, 0, 0, 0), (.iaload, 0, 0, 0, 0), (.iload_n 2, 0, 0, 0, 0), (.iand, 0, 0, 0, 0), (.invokestatic 271, 148, 1, 0, 0), (.aload_n 0, 0, 0, 0, 0), (.getfield 64, 12, 26, 0, 0), (.iload_n 1, 0, 0, 0, 0), (.iaload, 0, 0, 0, 0), (.iadd, 0, 0, 0, 0), (.aload_n 0, 0, 0, 0, 0), (.getfield 55, 12, 23, 0, 0), (.iload_n 1, 0, 0, 0, 0), (.iaload, 0, 0, 0, 0), (.if_icmp .lt 7, 40, 0, 0, 0)]
  | 36 => [(.iconst 1, 0, 0, 0, 1), (.goto 4, 41, 0, 0, 0)]
  | 40 => [(.iconst 0, 0, 0, 0, 0)]
  | 41 => [(.ireturn, 1, 0, 0, 0)]
  | _ => []
theorem kX12_stands (pc : Nat) : chk 205 (bX12_stands pc) pc = true := by
  unfold bX12_stands; split
  · decide +kernel
  · decide +kernel
  · decide +kernel
  · decide +kernel
  · rfl
def bX12_loose : Nat → List Ins := fun pc => match pc with
  | 0 => [(.iconst 0, 0, 0, 0, 0), (.istore_n 2, 0, 0, 0, 0), (.iconst 0, 0, 0, 0, 0), (.istore_n 3, 0, 0, 0, 0)]
  | 4 => [(.iload_n 3, 0, 0, 0, 0), (.bipush 22, 0, 0, 0, 22), (.if_icmp .ge 32, 39, 0, 0, 0), (.iload_n 1, 0, 0, 0, 0), (.iload_n 3, 0, 0, 0, 0), (.invokestatic 274, 147, 2, 0, 0), (.ifCond .eq 18, 33, 0, 0, 0), (.aload_n 0, 0, 0, 0, 0), (.iload_n 3, 0, 0, 0, 0), (.iload_n 1, 0, 0, 0, 0), (.invokevirtual 277, 205, 2, 12, 0), (.ifCond .ne 9, 33, 0, 0, 0), (.iload_n 2, 0, 0, 0, 0), (.iconst 1, 0, 0, 0, 1), (.iload_n 3, 0, 0, 0, 0), (.ishl, 0, 0, 0, 0), (.ior, 0, 0, 0, 0), (.istore_n 2, 0, 0, 0, 0)]
  | 33 => [(.iinc 3 1, 0, 0, 0, 1), (.goto (-32), 4, 0, 0, 0)]
  | 39 => [(.iload_n 2, 0, 0, 0, 0), (.ireturn, 0, 0, 0, 0)]
  | _ => []
theorem kX12_loose (pc : Nat) : chk 206 (bX12_loose pc) pc = true := by
  unfold bX12_loose; split
  · decide +kernel
  · decide +kernel
  · decide +kernel
  · decide +kernel
  · rfl
def bX12_fall : Nat → List Ins := fun pc => match pc with
  | 0 => [(.iload_n 1, 0, 0, 0, 0), (.istore_n 2, 0, 0, 0, 0)]
  | 2 => [(.aload_n 0, 0, 0, 0, 0), (.iload_n 2, 0, 0, 0, 0), (.invokevirtual 280, 206, 1, 12, 0), (.ifCond .eq 16, 23, 0, 0, 0), (.iload_n 2, 0, 0, 0, 0), (.aload_n 0, 0, 0, 0, 0), (.iload_n 2, 0, 0, 0, 0), (.invokevirtual 280, 206, 1, 12, 0), (.iconst (-1), 0, 0, 0, (-1)), (.ixor, 0, 0, 0, 0), (.iand, 0, 0, 0, 0), (.istore_n 2, 0, 0, 0, 0), (.goto (-18), 2, 0, 0, 0)]
  | 23 => [(.iload_n 2, 0, 0, 0, 0), (.ireturn, 0, 0, 0, 0)]
  | _ => []
theorem kX12_fall (pc : Nat) : chk 207 (bX12_fall pc) pc = true := by
  unfold bX12_fall; split
  · decide +kernel
  · decide +kernel
  · decide +kernel
  · rfl
def bX12_at : Nat → List Ins := fun pc => match pc with
  | 0 => [(.iconst 0, 0, 0, 0, 0), (.istore_n 3, 0, 0, 0, 0)]
  | 2 => [(.iload_n 3, 0, 0, 0, 0), (.aload_n 0, 0, 0, 0, 0), (.invokevirtual 102, 152, 0, 12, 0), (.if_icmp .ge 36, 43, 0, 0, 0), (.aload_n 0, 0, 0, 0, 0), (.getfield 20, 12, 3, 0, 0), (.sipush 159, 0, 0, 0, 159), (.iaload, 0, 0, 0, 0), (.iload_n 3, 0, 0, 0, 0), (.invokestatic 274, 147, 2, 0, 0), (.ifCond .eq 15, 37, 0, 0, 0), (.aload_n 0, 0, 0, 0, 0), (.iload_n 3, 0, 0, 0, 0), (.iload_n 1, 0, 0, 0, 0), (.iload_n 2, 0, 0, 0, 0), (.invokevirtual 120, 157, 3, 12, 0), (.ifCond .eq 5, 37, 0, 0, 0), (.iload_n 3, 0, 0, 0, 0), (.ireturn, 0, 0, 0, 0)]
  | 37 => [(.iinc 3 1, 0, 0, 0, 1), (.goto (-38), 2, 0, 0, 0)]
  | 43 => [(.iconst (-1), 0, 0, 0, (-1)), (.ireturn, 0, 0, 0, 0)]
  | _ => []
theorem kX12_at (pc : Nat) : chk 208 (bX12_at pc) pc = true := by
  unfold bX12_at; split
  · decide +kernel
  · decide +kernel
  · decide +kernel
  · decide +kernel
  · rfl
def bX12_touches : Nat → List Ins := fun pc => match pc with
  | 0 => [(.aload_n 0, 0, 0, 0, 0), (.iload_n 1, 0, 0, 0, 0), (.invokevirtual 106, 154, 1, 12, 0), (.ifCond .eq 12, 17, 0, 0, 0), (.iload_n 2, 0, 0, 0, 0), (.iconst 0, 0, 0, 0, 0), (.iconst 3, 0, 0, 0, 3), (.invokestatic 91, 144, 3, 0, 0), (.ifCond .ne 5, 19, 0, 0, 0)]
  | 17 => [(.iconst (-1), 0, 0, 0, (-1)), (.ireturn, 0, 0, 0, 0)]
  | 19 => [(.aload_n 0, 0, 0, 0, 0), (.invokevirtual 283, 204, 0, 12, 0), (.aload_n 0, 0, 0, 0, 0), (.getfield 61, 12, 25, 0, 0), (.iload_n 1, 0, 0, 0, 0), (.iaload, 0, 0, 0, 0), (.aload_n 0, 0, 0, 0, 0), (.getfield 20, 12, 3, 0, 0), (.sipush 159, 0, 0, 0, 159), (.iaload, 0, 0, 0, 0), (.iand, 0, 0, 0, 0), (.istore_n 3, 0, 0, 0, 0), (.iload_n 2, 0, 0, 0, 0), (.ifCond .ne 10, 50, 0, 0, 0), (.aload_n 0, 0, 0, 0, 0), (.getfield 55, 12, 23, 0, 0), (.iload_n 1, 0, 0, 0, 0), (.iaload, 0, 0, 0, 0), (.ireturn, 0, 0, 0, 0)]
  | 50 => [(.iload_n 2, 0, 0, 0, 0), (.iconst 1, 0, 0, 0, 1), (.if_icmp .ne 34, 86, 0, 0, 0), (.aload_n 0, 0, 0, 0, 0), (.getfield 20, 12, 3, 0, 0), (.sipush 159, 0, 0, 0, 159), (.iaload, 0, 0, 0, 0), (.iload_n 1, 0, 0, 0, 0), (.invokestatic 274, 147, 2, 0, 0), (.ifCond .eq 17, 84, 0, 0, 0), (.iload_n 3, 0, 0, 0, 0), (.invokestatic 271, 148, 1, 0, 0), (.aload_n 0, 0, 0, 0, 0), (.getfield 64, 12, 26, 0, 0), (.iload_n 1, 0, 0, 0, 0), (.iaload, 0, 0, 0, 0), (.iadd, 0, 0, 0, 0), (.goto 4, 85, 0, 0, 0)]
  | 84 => [(.iconst (-1), 0, 0, 0, (-1))]
  | 85 => [(.ireturn, 0, 0, 0, 0)]
  | 86 => [(.iload_n 2, 0, 0, 0, 0), (.iconst 2, 0, 0, 0, 2), (.if_icmp .ne 20, 108, 0, 0, 0), (.aload_n 0, 0, 0, 0, 0), (.getfield 58, 12, 24, 0, 0), (.iload_n 1, 0, 0, 0, 0), (.baload, 0, 0, 0, 0), (.ifCond .eq 7, 104, 0, 0, 0), (.iconst 1, 0, 0, 0, 1), (.goto 8, 109, 0, 0, 0)]
  | 104 => [(.iconst 0, 0, 0, 0, 0), (.goto 4, 109, 0, 0, 0)]
  | 108 => [(.iload_n 3, 0, 0, 0, 0)]
  | 109 => [(.ireturn, 0, 0, 0, 0)]
  | _ => []
theorem kX12_touches (pc : Nat) : chk 209 (bX12_touches pc) pc = true := by
  unfold bX12_touches; split
  · decide +kernel
  · decide +kernel
  · decide +kernel
  · decide +kernel
  · decide +kernel
  · decide +kernel
  · decide +kernel
  · decide +kernel
  · decide +kernel
  · decide +kernel
  · rfl
def bX12_unlawful : Nat → List Ins := fun pc => match pc with
  | 0 => [(.aload_n 0, 0, 0, 0, 0), (.invokevirtual 283, 204, 0, 12, 0), (.aload_n 0, 0, 0, 0, 0), (.aload_n 0, 0, 0, 0, 0), (.getfield 20, 12, 3, 0, 0), (.sipush 159, 0, 0, 0, 159), (.iaload, 0, 0, 0, 0), (.invokevirtual 280, 206, 1, 12, 0), (.istore_n 1, 0, 0, 0, 0), (.iconst 0, 0, 0, 0, 0), (.istore_n 2, 0, 0, 0, 0)]
  | 19 => [(.iload_n 2, 0, 0, 0, 0), (.aload_n 0, 0, 0, 0, 0), (.invokevirtual 102, 152, 0, 12, 0), (.if_icmp .ge 19, 43, 0, 0, 0), (.iload_n 1, 0, 0, 0, 0), (.iload_n 2, 0, 0, 0, 0), (.invokestatic 274, 147, 2, 0, 0), (.ifCond .eq 5, 37, 0, 0, 0), (.iload_n 2, 0, 0, 0, 0), (.ireturn, 0, 0, 0, 0)]
  | 37 => [(.iinc 2 1, 0, 0, 0, 1), (.goto (-21), 19, 0, 0, 0)]
  | 43 => [(.iconst (-1), 0, 0, 0, (-1)), (.ireturn, 0, 0, 0, 0)]
  | _ => []
theorem kX12_unlawful (pc : Nat) : chk 210 (bX12_unlawful pc) pc = true := by
  unfold bX12_unlawful; split
  · decide +kernel
  · decide +kernel
  · decide +kernel
  · decide +kernel
  · rfl
def bX12_there : Nat → List Ins := fun pc => match pc with
  | 0 => [(.aload_n 0, 0, 0, 0, 0), (.getfield 20, 12, 3, 0, 0), (.sipush 159, 0, 0, 0, 159), (.iaload, 0, 0, 0, 0), (.ireturn, 0, 0, 0, 0)]
  | _ => []
theorem kX12_there (pc : Nat) : chk 211 (bX12_there pc) pc = true := by
  unfold bX12_there; split
  · decide +kernel
  · rfl
def bX12_stand : Nat → List Ins := fun pc => match pc with
  | 0 => [(.iload_n 1, 0, 0, 0, 0), (.iconst 0, 0, 0, 0, 0), (.iconst 1, 0, 0, 0, 1), (.aload_n 0, 0, 0, 0, 0), (.invokevirtual 102, 152, 0, 12, 0), (.ishl, 0, 0, 0, 0), (.iconst 1, 0, 0, 0, 1), (.isub, 0, 0, 0, 0), (.invokestatic 91, 144, 3, 0, 0), (.ifCond .ne 9, 22, 0, 0, 0), (.aload_n 0, 0, 0, 0, 0), (.iconst (-1), 0, 0, 0, (-1)), (.invokevirtual 95, 145, 1, 12, 0), (.ireturn, 0, 0, 0, 0)]
  | 22 => [(.aload_n 0, 0, 0, 0, 0), (.getfield 20, 12, 3, 0, 0), (.sipush 159, 0, 0, 0, 159), (.iaload, 0, 0, 0, 0), (.istore_n 2, 0, 0, 0, 0), (.aload_n 0, 0, 0, 0, 0), (.getfield 20, 12, 3, 0, 0), (.sipush 159, 0, 0, 0, 159), (.iload_n 1, 0, 0, 0, 0), (.iastore, 0, 0, 0, 0), (.aload_n 0, 0, 0, 0, 0), (.iload_n 2, 0, 0, 0, 0), (.invokevirtual 99, 146, 1, 12, 0), (.ireturn, 0, 0, 0, 0)]
  | _ => []
theorem kX12_stand (pc : Nat) : chk 212 (bX12_stand pc) pc = true := by
  unfold bX12_stand; split
  · decide +kernel
  · decide +kernel
  · rfl
def bX12_areThere : Nat → List Ins := fun pc => match pc with
  | 0 => [(.iload_n 1, 0, 0, 0, 0), (.iconst 0, 0, 0, 0, 0), (.sipush 16383, 0, 0, 0, 16383), (.invokestatic 91, 144, 3, 0, 0), (.ifCond .eq 22, 30, 0, 0, 0), (.iload_n 1, 0, 0, 0, 0), (.aload_n 0, 0, 0, 0, 0), (.getfield 20, 12, 3, 0, 0), (.sipush 159, 0, 0, 0, 159), (.iaload, 0, 0, 0, 0), (.iconst (-1), 0, 0, 0, (-1)), (.ixor, 0, 0, 0, 0), (.iand, 0, 0, 0, 0), (.ifCond .ne 7, 30, 0, 0, 0), (.iconst 1, 0, 0, 0, 1), (.goto 4, 31, 0, 0, 0)]
  | 30 => [(.iconst 0, 0, 0, 0, 0)]
  | 31 => [(.ireturn, 1, 0, 0, 0)]
  | _ => []
theorem kX12_areThere (pc : Nat) : chk 213 (bX12_areThere pc) pc = true := by
  unfold bX12_areThere; split
  · decide +kernel
  · decide +kernel
  · decide +kernel
  · rfl
def bX12_weightOf : Nat → List Ins := fun pc => match pc with
  | 0 => [(.iconst 0, 0, 0, 0, 0), (.istore_n 2, 0, 0, 0, 0), (.iconst 0, 0, 0, 0, 0), (.istore_n 3, 0, 0, 0, 0)]
  | 4 => [(.iload_n 3, 0, 0, 0, 0), (.aload_n 0, 0, 0, 0, 0), (.invokevirtual 102, 152, 0, 12, 0), (.if_icmp .ge 30, 39, 0, 0, 0), (.iload_n 2, 0, 0, 0, 0), (.iload_n 1, 0, 0, 0, 0), (.iload_n 3, 0, 0, 0, 0), (.invokestatic 274, 147, 2, 0, 0), (.ifCond .eq 12, 30, 0, 0, 0), (.aload_n 0, 0, 0, 0, 0), (.iload_n 3, 0, 0, 0, 0), (.iconst 4, 0, 0, 0, 4), (.invokevirtual 113, 155, 2, 12, 0), (.goto 4, 31, 0, 0, 0)]
  | 30 => [(.iconst 0, 0, 0, 0, 0)]
  | 31 => [(.iadd, 0, 0, 0, 0), (.istore_n 2, 0, 0, 0, 0), (.iinc 3 1, 0, 0, 0, 1), (.goto (-32), 4, 0, 0, 0)]
  | 39 => [(.iload_n 2, 0, 0, 0, 0), (.ireturn, 0, 0, 0, 0)]
  | _ => []
theorem kX12_weightOf (pc : Nat) : chk 214 (bX12_weightOf pc) pc = true := by
  unfold bX12_weightOf; split
  · decide +kernel
  · decide +kernel
  · decide +kernel
  · decide +kernel
  · decide +kernel
  · rfl
def bX12_falls : Nat → List Ins := fun pc => match pc with
  | 0 => [(.aload_n 0, 0, 0, 0, 0), (.iload_n 1, 0, 0, 0, 0), (.invokevirtual 286, 213, 1, 12, 0), (.ifCond .eq 12, 17, 0, 0, 0), (.iload_n 2, 0, 0, 0, 0), (.iconst 0, 0, 0, 0, 0), (.iconst 3, 0, 0, 0, 3), (.invokestatic 91, 144, 3, 0, 0), (.ifCond .ne 5, 19, 0, 0, 0)]
  | 17 => [(.iconst (-1), 0, 0, 0, (-1)), (.ireturn, 0, 0, 0, 0)]
  | 19 => [(.aload_n 0, 0, 0, 0, 0), (.invokevirtual 283, 204, 0, 12, 0), (.aload_n 0, 0, 0, 0, 0), (.getfield 20, 12, 3, 0, 0), (.sipush 159, 0, 0, 0, 159), (.iaload, 0, 0, 0, 0), (.iload_n 1, 0, 0, 0, 0), (.iconst (-1), 0, 0, 0, (-1)), (.ixor, 0, 0, 0, 0), (.iand, 0, 0, 0, 0), (.istore_n 3, 0, 0, 0, 0), (.iconst 0, 0, 0, 0, 0), (.istore 4, 0, 0, 0, 0)]
  | 39 => [(.aload_n 0, 0, 0, 0, 0), (.iload_n 3, 0, 0, 0, 0), (.invokevirtual 280, 206, 1, 12, 0), (.ifCond .eq 19, 63, 0, 0, 0), (.iload_n 3, 0, 0, 0, 0), (.aload_n 0, 0, 0, 0, 0), (.iload_n 3, 0, 0, 0, 0), (.invokevirtual 280, 206, 1, 12, 0), (.iconst (-1), 0, 0, 0, (-1)), (.ixor, 0, 0, 0, 0), (.iand, 0, 0, 0, 0), (.istore_n 3, 0, 0, 0, 0), (.iinc 4 1, 0, 0, 0, 1), (.goto (-21), 39, 0, 0, 0)]
  | 63 => [(.aload_n 0, 0, 0, 0, 0), (.getfield 20, 12, 3, 0, 0), (.sipush 159, 0, 0, 0, 159), (.iaload, 0, 0, 0, 0), (.iload_n 1, 0, 0, 0, 0), (.iconst (-1), 0, 0, 0, (-1)), (.ixor, 0, 0, 0, 0), (.iand, 0, 0, 0, 0), (.iload_n 3, 0, 0, 0, 0), (.iconst (-1), 0, 0, 0, (-1)), (.ixor, 0, 0, 0, 0), (.iand, 0, 0, 0, 0), (.istore 5, 0, 0, 0, 0), (.iload_n 2, 0, 0, 0, 0), (.ifCond .ne 11, 93, 0, 0, 0), (.iload 5, 0, 0, 0, 0), (.invokestatic 271, 148, 1, 0, 0), (.goto 28, 118, 0, 0, 0)]
  | 93 => [(.iload_n 2, 0, 0, 0, 0), (.iconst 1, 0, 0, 0, 1), (.if_icmp .ne 8, 103, 0, 0, 0), (.iload 4, 0, 0, 0, 0), (.goto 18, 118, 0, 0, 0)]
  | 103 => [(.iload_n 2, 0, 0, 0, 0), (.iconst 2, 0, 0, 0, 2), (.if_icmp .ne 7, 112, 0, 0, 0), (.iload_n 3, 0, 0, 0, 0), (.goto 9, 118, 0, 0, 0)]
  | 112 => [(.aload_n 0, 0, 0, 0, 0), (.iload 5, 0, 0, 0, 0), (.invokevirtual 289, 214, 1, 12, 0)]
  | 118 => [(.ireturn, 0, 0, 0, 0)]
  | _ => []
theorem kX12_falls (pc : Nat) : chk 215 (bX12_falls pc) pc = true := by
  unfold bX12_falls; split
  · decide +kernel
  · decide +kernel
  · decide +kernel
  · decide +kernel
  · decide +kernel
  · decide +kernel
  · decide +kernel
  · decide +kernel
  · decide +kernel
  · rfl
def bX12_round : Nat → List Ins := fun pc => match pc with
  | 0 => [(.aload_n 0, 0, 0, 0, 0), (.iload_n 1, 0, 0, 0, 0), (.invokevirtual 286, 213, 1, 12, 0), (.ifCond .eq 26, 31, 0, 0, 0), (.aload_n 0, 0, 0, 0, 0), (.iload_n 2, 0, 0, 0, 0), (.invokevirtual 106, 154, 1, 12, 0), (.ifCond .eq 18, 31, 0, 0, 0), (.aload_n 0, 0, 0, 0, 0), (.getfield 20, 12, 3, 0, 0), (.sipush 159, 0, 0, 0, 159), (.iaload, 0, 0, 0, 0), (.iload_n 2, 0, 0, 0, 0), (.invokestatic 274, 147, 2, 0, 0), (.ifCond .ne 5, 33, 0, 0, 0)]
  | 31 => [(.iconst (-1), 0, 0, 0, (-1)), (.ireturn, 0, 0, 0, 0)]
  | 33 => [(.iload_n 1, 0, 0, 0, 0), (.iload_n 2, 0, 0, 0, 0), (.invokestatic 274, 147, 2, 0, 0), (.ifCond .eq 5, 43, 0, 0, 0), (.iconst 0, 0, 0, 0, 0), (.ireturn, 0, 0, 0, 0)]
  | 43 => [(.aload_n 0, 0, 0, 0, 0), (.invokevirtual 283, 204, 0, 12, 0), (.aload_n 0, 0, 0, 0, 0), (.getfield 20, 12, 3, 0, 0), (.sipush 159, 0, 0, 0, 159), (.iaload, 0, 0, 0, 0), (.iload_n 1, 0, 0, 0, 0), (.iconst (-1), 0, 0, 0, (-1)), (.ixor, 0, 0, 0, 0), (.iand, 0, 0, 0, 0), (.istore_n 3, 0, 0, 0, 0), (.iconst 0, 0, 0, 0, 0), (.istore 4, 0, 0, 0, 0)]
  | 63 => [(.aload_n 0, 0, 0, 0, 0), (.iload_n 3, 0, 0, 0, 0), (.invokevirtual 280, 206, 1, 12, 0), (.ifCond .eq 27, 95, 0, 0, 0), (.iload_n 3, 0, 0, 0, 0), (.aload_n 0, 0, 0, 0, 0), (.iload_n 3, 0, 0, 0, 0), (.invokevirtual 280, 206, 1, 12, 0), (.iconst (-1), 0, 0, 0, (-1)), (.ixor, 0, 0, 0, 0), (.iand, 0, 0, 0, 0), (.istore_n 3, 0, 0, 0, 0), (.iinc 4 1, 0, 0, 0, 1), (.iload_n 3, 0, 0, 0, 0), (.iload_n 2, 0, 0, 0, 0), (.invokestatic 274, 147, 2, 0, 0), (.ifCond .ne (-26), 63, 0, 0, 0), (.iload 4, 0, 0, 0, 0), (.ireturn, 0, 0, 0, 0)]
  | 95 => [(.iconst (-1), 0, 0, 0, (-1)), (.ireturn, 0, 0, 0, 0)]
  | _ => []
theorem kX12_round (pc : Nat) : chk 216 (bX12_round pc) pc = true := by
  unfold bX12_round; split
  · decide +kernel
  · decide +kernel
  · decide +kernel
  · decide +kernel
  · decide +kernel
  · decide +kernel
  · rfl
def bX12_take : Nat → List Ins := fun pc => match pc with
  | 0 => [(.aload_n 0, 0, 0, 0, 0), (.iload_n 1, 0, 0, 0, 0), (.invokevirtual 286, 213, 1, 12, 0), (.ifCond .ne 9, 14, 0, 0, 0), (.aload_n 0, 0, 0, 0, 0), (.iconst (-1), 0, 0, 0, (-1)), (.invokevirtual 95, 145, 1, 12, 0), (.ireturn, 0, 0, 0, 0)]
  | 14 => [(.aload_n 0, 0, 0, 0, 0), (.invokevirtual 283, 204, 0, 12, 0), (.aload_n 0, 0, 0, 0, 0), (.getfield 20, 12, 3, 0, 0), (.sipush 159, 0, 0, 0, 159), (.iaload, 0, 0, 0, 0), (.istore_n 2, 0, 0, 0, 0), (.aload_n 0, 0, 0, 0, 0), (.getfield 20, 12, 3, 0, 0), (.sipush 159, 0, 0, 0, 159), (.aload_n 0, 0, 0, 0, 0), (.iload_n 2, 0, 0, 0, 0), (.iload_n 1, 0, 0, 0, 0), (.iconst (-1), 0, 0, 0, (-1)), (.ixor, 0, 0, 0, 0), (.iand, 0, 0, 0, 0), (.invokevirtual 292, 207, 1, 12, 0), (.iastore, 0, 0, 0, 0), (.aload_n 0, 0, 0, 0, 0), (.iload_n 2, 0, 0, 0, 0), (.invokestatic 271, 148, 1, 0, 0), (.aload_n 0, 0, 0, 0, 0), (.getfield 20, 12, 3, 0, 0), (.sipush 159, 0, 0, 0, 159), (.iaload, 0, 0, 0, 0), (.invokestatic 271, 148, 1, 0, 0), (.isub, 0, 0, 0, 0), (.invokevirtual 99, 146, 1, 12, 0), (.ireturn, 0, 0, 0, 0)]
  | _ => []
theorem kX12_take (pc : Nat) : chk 217 (bX12_take pc) pc = true := by
  unfold bX12_take; split
  · decide +kernel
  · decide +kernel
  · rfl
def bX12_farm : Nat → List Ins := fun pc => match pc with
  | 0 => [(.aload_n 0, 0, 0, 0, 0), (.iload_n 1, 0, 0, 0, 0), (.invokevirtual 286, 213, 1, 12, 0), (.ifCond .eq 12, 17, 0, 0, 0), (.iload_n 2, 0, 0, 0, 0), (.iconst 0, 0, 0, 0, 0), (.iconst 3, 0, 0, 0, 3), (.invokestatic 91, 144, 3, 0, 0), (.ifCond .ne 5, 19, 0, 0, 0)]
  | 17 => [(.iconst (-1), 0, 0, 0, (-1)), (.ireturn, 0, 0, 0, 0)]
  | 19 => [(.aload_n 0, 0, 0, 0, 0), (.invokevirtual 283, 204, 0, 12, 0), (.aload_n 0, 0, 0, 0, 0), (.getfield 20, 12, 3, 0, 0), (.sipush 159, 0, 0, 0, 159), (.iaload, 0, 0, 0, 0), (.aload_n 0, 0, 0, 0, 0), (.aload_n 0, 0, 0, 0, 0), (.getfield 20, 12, 3, 0, 0), (.sipush 159, 0, 0, 0, 159), (.iaload, 0, 0, 0, 0), (.iload_n 1, 0, 0, 0, 0), (.iconst (-1), 0, 0, 0, (-1)), (.ixor, 0, 0, 0, 0), (.iand, 0, 0, 0, 0), (.invokevirtual 292, 207, 1, 12, 0), (.iconst (-1), 0, 0, 0, (-1)), (.ixor, 0, 0, 0, 0), (.iand, 0, 0, 0, 0), (.istore_n 3, 0, 0, 0, 0), (.iconst 0, 0, 0, 0, 0), (.istore 4, 0, 0, 0, 0), (.iconst 0, 0, 0, 0, 0), (.istore 5, 0, 0, 0, 0)]
  | 57 => [(.iload 5, 0, 0, 0, 0), (.aload_n 0, 0, 0, 0, 0), (.invokevirtual 102, 152, 0, 12, 0), (.if_icmp .ge 39, 102, 0, 0, 0), (.iload 4, 0, 0, 0, 0), (.iload_n 3, 0, 0, 0, 0), (.iload 5, 0, 0, 0, 0), (.invokestatic 274, 147, 2, 0, 0), (.ifCond .eq 18, 92, 0, 0, 0), (.aload_n 0, 0, 0, 0, 0), (.iload 5, 0, 0, 0, 0), (.iconst 5, 0, 0, 0, 5), (.invokevirtual 113, 155, 2, 12, 0), (.iload_n 2, 0, 0, 0, 0), (.if_icmp .ne 7, 92, 0, 0, 0), (.iconst 1, 0, 0, 0, 1), (.goto 4, 93, 0, 0, 0)]
  | 92 => [(.iconst 0, 0, 0, 0, 0)]
  | 93 => [(.iadd, 0, 0, 0, 0), (.istore 4, 0, 0, 0, 0), (.iinc 5 1, 0, 0, 0, 1), (.goto (-42), 57, 0, 0, 0)]
  | 102 => [(.iload 4, 0, 0, 0, 0), (.ireturn, 0, 0, 0, 0)]
  | _ => []
theorem kX12_farm (pc : Nat) : chk 218 (bX12_farm pc) pc = true := by
  unfold bX12_farm; split
  · decide +kernel
  · decide +kernel
  · decide +kernel
  · decide +kernel
  · decide +kernel
  · decide +kernel
  · decide +kernel
  · rfl
def bX12_sets : Nat → List Ins := fun pc => match pc with
  | 0 => [(.aload_n 0, 0, 0, 0, 0), (.invokevirtual 283, 204, 0, 12, 0), (.aload_n 0, 0, 0, 0, 0), (.getfield 82, 12, 32, 0, 0), (.aload_n 0, 0, 0, 0, 0), (.getfield 11, 12, 1, 0, 0), (.if_icmp .ne 4, 16, 0, 0, 0), (.return_, 0, 0, 0, 0)]
  | 16 => [(.aload_n 0, 0, 0, 0, 0), (.aload_n 0, 0, 0, 0, 0), (.getfield 11, 12, 1, 0, 0), (.putfield 82, 12, 32, 0, 0), (.iconst 1, 0, 0, 0, 1), (.aload_n 0, 0, 0, 0, 0), (.invokevirtual 102, 152, 0, 12, 0), (.ishl, 0, 0, 0, 0), (.istore_n 1, 0, 0, 0, 0), (.iconst 0, 0, 0, 0, 0), (.istore_n 2, 0, 0, 0, 0)]
  | 33 => [(.iload_n 2, 0, 0, 0, 0), (.iload_n 1, 0, 0, 0, 0), (.if_icmp .ge 144, 179, 0, 0, 0), (.aload_n 0, 0, 0, 0, 0), (.iload_n 2, 0, 0, 0, 0), (.invokevirtual 280, 206, 1, 12, 0), (.istore_n 3, 0, 0, 0, 0), (.aload_n 0, 0, 0, 0, 0), (.getfield 70, 12, 28, 0, 0), (.iload_n 2, 0, 0, 0, 0), (.iload_n 2, 0, 0, 0, 0), (.ifCond .eq 11, 61, 0, 0, 0), (.iload_n 3, 0, 0, 0, 0), (.ifCond .ne 7, 61, 0, 0, 0), (.iconst 1, 0, 0, 0, 1), (.goto 4, 62, 0, 0, 0)]
  | 61 => [(.iconst 0, 0, 0, 0, 0)]
  | 62 => [(.bastore, 0, 0, 0, 0), (.aload_n 0, 0, 0, 0, 0), (.getfield 73, 12, 29, 0, 0), (.iload_n 2, 0, 0, 0, 0), (.iload_n 3, 0, 0, 0, 0), (.ifCond .ne 7, 76, 0, 0, 0), (.iload_n 2, 0, 0, 0, 0), (.goto 13, 86, 0, 0, 0)]
  | 76 => [(.aload_n 0, 0, 0, 0, 0), (.getfield 73, 12, 29, 0, 0), (.iload_n 2, 0, 0, 0, 0), (.iload_n 3, 0, 0, 0, 0), (.iconst (-1), 0, 0, 0, (-1)), (.ixor, 0, 0, 0, 0), (.iand, 0, 0, 0, 0), (.iaload, 0, 0, 0, 0)]
  | 86 => [(.iastore, 0, 0, 0, 0), (.aload_n 0, 0, 0, 0, 0), (.getfield 76, 12, 30, 0, 0), (.iload_n 2, 0, 0, 0, 0), (.iconst 0, 0, 0, 0, 0), (.bastore, 0, 0, 0, 0), (.iconst 0, 0, 0, 0, 0), (.istore 4, 0, 0, 0, 0)]
  | 97 => [(.iload 4, 0, 0, 0, 0), (.aload_n 0, 0, 0, 0, 0), (.invokevirtual 102, 152, 0, 12, 0), (.if_icmp .ge 70, 173, 0, 0, 0), (.aload_n 0, 0, 0, 0, 0), (.getfield 76, 12, 30, 0, 0), (.iload_n 2, 0, 0, 0, 0), (.aload_n 0, 0, 0, 0, 0), (.getfield 76, 12, 30, 0, 0), (.iload_n 2, 0, 0, 0, 0), (.baload, 0, 0, 0, 0), (.ifCond .ne 44, 161, 0, 0, 0), (.iload_n 2, 0, 0, 0, 0), (.iload 4, 0, 0, 0, 0), (.invokestatic 274, 147, 2, 0, 0), (.ifCond .eq 39, 165, 0, 0, 0), (.aload_n 0, 0, 0, 0, 0), (.getfield 70, 12, 28, 0, 0), (.iload_n 2, 0, 0, 0, 0), (.iconst 1, 0, 0, 0, 1), (.iload 4, 0, 0, 0, 0), (.ishl, 0, 0, 0, 0), (.iconst (-1), 0, 0, 0, (-1)), (.ixor, 0, 0, 0, 0), (.iand, 0, 0, 0, 0), (.baload, 0, 0, 0, 0), (.ifCond .eq 23, 165, 0, 0, 0), (.aload_n 0, 0, 0, 0, 0), (.getfield 76, 12, 30, 0, 0), (.iload_n 2, 0, 0, 0, 0), (.iconst 1, 0, 0, 0, 1), (.iload 4, 0, 0, 0, 0), (.ishl, 0, 0, 0, 0), (.iconst (-1), 0, 0, 0, (-1)), (.ixor, 0, 0, 0, 0), (.iand, 0, 0, 0, 0), (.baload, 0, 0, 0, 0), (.ifCond .ne 7, 165, 0, 0, 0)]
  | 161 => [(.iconst 1, 0, 0, 0, 1), (.goto 4, 166, 0, 0, 0)]
  | 165 => [(.iconst 0, 0, 0, 0, 0)]
  | 166 => [(.bastore, 0, 0, 0, 0), (.iinc 4 1, 0, 0, 0, 1), (.goto (-73), 97, 0, 0, 0)]
  | 173 => [(.iinc 2 1, 0, 0, 0, 1), (.goto (-143), 33, 0, 0, 0)]
  | 179 => [(.iload_n 1, 0, 0, 0, 0), (.iconst 1, 0, 0, 0, 1), (.isub, 0, 0, 0, 0), (.istore_n 2, 0, 0, 0, 0)]
  | 183 => [(.iload_n 2, 0, 0, 0, 0), (.ifCond .lt 122, 306, 0, 0, 0), (.aload_n 0, 0, 0, 0, 0), (.getfield 79, 12, 31, 0, 0), (.iload_n 2, 0, 0, 0, 0), (.iload_n 2, 0, 0, 0, 0), (.aload_n 0, 0, 0, 0, 0), (.getfield 20, 12, 3, 0, 0), (.sipush 159, 0, 0, 0, 159), (.iaload, 0, 0, 0, 0), (.if_icmp .ne 16, 217, 0, 0, 0), (.aload_n 0, 0, 0, 0, 0), (.getfield 70, 12, 28, 0, 0), (.iload_n 2, 0, 0, 0, 0), (.baload, 0, 0, 0, 0), (.ifCond .eq 7, 217, 0, 0, 0), (.iconst 1, 0, 0, 0, 1), (.goto 4, 218, 0, 0, 0)]
  | 217 => [(.iconst 0, 0, 0, 0, 0)]
  | 218 => [(.bastore, 0, 0, 0, 0), (.iconst 0, 0, 0, 0, 0), (.istore_n 3, 0, 0, 0, 0)]
  | 221 => [(.iload_n 3, 0, 0, 0, 0), (.aload_n 0, 0, 0, 0, 0), (.invokevirtual 102, 152, 0, 12, 0), (.if_icmp .ge 74, 300, 0, 0, 0), (.aload_n 0, 0, 0, 0, 0), (.getfield 79, 12, 31, 0, 0), (.iload_n 2, 0, 0, 0, 0), (.aload_n 0, 0, 0, 0, 0), (.getfield 79, 12, 31, 0, 0), (.iload_n 2, 0, 0, 0, 0), (.baload, 0, 0, 0, 0), (.ifCond .ne 48, 288, 0, 0, 0), (.aload_n 0, 0, 0, 0, 0), (.getfield 70, 12, 28, 0, 0), (.iload_n 2, 0, 0, 0, 0), (.baload, 0, 0, 0, 0), (.ifCond .eq 43, 292, 0, 0, 0), (.aload_n 0, 0, 0, 0, 0), (.getfield 20, 12, 3, 0, 0), (.sipush 159, 0, 0, 0, 159), (.iaload, 0, 0, 0, 0), (.iload_n 3, 0, 0, 0, 0), (.invokestatic 274, 147, 2, 0, 0), (.ifCond .eq 28, 292, 0, 0, 0), (.iload_n 2, 0, 0, 0, 0), (.iload_n 3, 0, 0, 0, 0), (.invokestatic 274, 147, 2, 0, 0), (.ifCond .ne 20, 292, 0, 0, 0), (.aload_n 0, 0, 0, 0, 0), (.getfield 79, 12, 31, 0, 0), (.iload_n 2, 0, 0, 0, 0), (.iconst 1, 0, 0, 0, 1), (.iload_n 3, 0, 0, 0, 0), (.ishl, 0, 0, 0, 0), (.ior, 0, 0, 0, 0), (.baload, 0, 0, 0, 0), (.ifCond .eq 7, 292, 0, 0, 0)]
  | 288 => [(.iconst 1, 0, 0, 0, 1), (.goto 4, 293, 0, 0, 0)]
  | 292 => [(.iconst 0, 0, 0, 0, 0)]
  | 293 => [(.bastore, 0, 0, 0, 0), (.iinc 3 1, 0, 0, 0, 1), (.goto (-76), 221, 0, 0, 0)]
  | 300 => [(.iinc 2 (-1), 0, 0, 0, (-1)), (.goto (-120), 183, 0, 0, 0)]
  | 306 => [(.return_, 0, 0, 0, 0)]
  | _ => []
theorem kX12_sets (pc : Nat) : chk 219 (bX12_sets pc) pc = true := by
  unfold bX12_sets; split
  · decide +kernel
  · decide +kernel
  · decide +kernel
  · decide +kernel
  · decide +kernel
  · decide +kernel
  · decide +kernel
  · decide +kernel
  · decide +kernel
  · decide +kernel
  · decide +kernel
  · decide +kernel
  · decide +kernel
  · decide +kernel
  · decide +kernel
  · decide +kernel
  · decide +kernel
  · decide +kernel
  · decide +kernel
  · decide +kernel
  · decide +kernel
  · decide +kernel
  · rfl
def bX12_isBetter : Nat → List Ins := fun pc => match pc with
  | 0 => [(.iload_n 1, 0, 0, 0, 0), (.invokestatic 271, 148, 1, 0, 0), (.iload_n 2, 0, 0, 0, 0), (.invokestatic 271, 148, 1, 0, 0), (.if_icmp .gt 27, 35, 0, 0, 0), (.iload_n 1, 0, 0, 0, 0), (.invokestatic 271, 148, 1, 0, 0), (.iload_n 2, 0, 0, 0, 0), (.invokestatic 271, 148, 1, 0, 0), (.if_icmp .ne 20, 39, 0, 0, 0), (.aload_n 0, 0, 0, 0, 0), (.iload_n 1, 0, 0, 0, 0), (.invokevirtual 289, 214, 1, 12, 0), (.aload_n 0, 0, 0, 0, 0), (.iload_n 2, 0, 0, 0, 0), (.invokevirtual 289, 214, 1, 12, 0), (.if_icmp .le 7, 39, 0, 0, 0)]
  | 35 => [(.iconst 1, 0, 0, 0, 1), (.goto 4, 40, 0, 0, 0)]
  | 39 => [(.iconst 0, 0, 0, 0, 0)]
  | 40 => [(.ireturn, 1, 0, 0, 0)]
  | _ => []
theorem kX12_isBetter (pc : Nat) : chk 220 (bX12_isBetter pc) pc = true := by
  unfold bX12_isBetter; split
  · decide +kernel
  · decide +kernel
  · decide +kernel
  · decide +kernel
  · rfl
def bX12_takesMost : Nat → List Ins := fun pc => match pc with
  | 0 => [(.aload_n 0, 0, 0, 0, 0), (.invokevirtual 295, 219, 0, 12, 0), (.aload_n 0, 0, 0, 0, 0), (.iconst (-1), 0, 0, 0, (-1)), (.putfield 298, 12, 33, 0, 0), (.aload_n 0, 0, 0, 0, 0), (.iconst 0, 0, 0, 0, 0), (.putfield 301, 12, 34, 0, 0), (.iconst 0, 0, 0, 0, 0), (.istore_n 2, 0, 0, 0, 0)]
  | 16 => [(.iload_n 2, 0, 0, 0, 0), (.iconst 1, 0, 0, 0, 1), (.aload_n 0, 0, 0, 0, 0), (.invokevirtual 102, 152, 0, 12, 0), (.ishl, 0, 0, 0, 0), (.if_icmp .ge 96, 119, 0, 0, 0), (.aload_n 0, 0, 0, 0, 0), (.iload_n 2, 0, 0, 0, 0), (.invokevirtual 286, 213, 1, 12, 0), (.ifCond .ne 6, 37, 0, 0, 0), (.goto 79, 113, 0, 0, 0)]
  | 37 => [(.aload_n 0, 0, 0, 0, 0), (.getfield 20, 12, 3, 0, 0), (.sipush 159, 0, 0, 0, 159), (.iaload, 0, 0, 0, 0), (.iload_n 2, 0, 0, 0, 0), (.iconst (-1), 0, 0, 0, (-1)), (.ixor, 0, 0, 0, 0), (.iand, 0, 0, 0, 0), (.istore_n 3, 0, 0, 0, 0), (.iload_n 1, 0, 0, 0, 0), (.ifCond .eq 15, 66, 0, 0, 0), (.aload_n 0, 0, 0, 0, 0), (.getfield 79, 12, 31, 0, 0), (.iload_n 3, 0, 0, 0, 0), (.baload, 0, 0, 0, 0), (.ifCond .ne 18, 78, 0, 0, 0), (.goto 50, 113, 0, 0, 0)]
  | 66 => [(.aload_n 0, 0, 0, 0, 0), (.getfield 70, 12, 28, 0, 0), (.iload_n 3, 0, 0, 0, 0), (.baload, 0, 0, 0, 0), (.ifCond .ne 6, 78, 0, 0, 0), (.goto 38, 113, 0, 0, 0)]
  | 78 => [(.aload_n 0, 0, 0, 0, 0), (.dup, 0, 0, 0, 0), (.getfield 301, 12, 34, 0, 0), (.iconst 1, 0, 0, 0, 1), (.iadd, 0, 0, 0, 0), (.putfield 301, 12, 34, 0, 0), (.aload_n 0, 0, 0, 0, 0), (.getfield 298, 12, 33, 0, 0), (.iconst (-1), 0, 0, 0, (-1)), (.if_icmp .eq 15, 108, 0, 0, 0), (.aload_n 0, 0, 0, 0, 0), (.iload_n 2, 0, 0, 0, 0), (.aload_n 0, 0, 0, 0, 0), (.getfield 298, 12, 33, 0, 0), (.invokevirtual 304, 220, 2, 12, 0), (.ifCond .eq 8, 113, 0, 0, 0)]
  | 108 => [(.aload_n 0, 0, 0, 0, 0), (.iload_n 2, 0, 0, 0, 0), (.putfield 298, 12, 33, 0, 0)]
  | 113 => [(.iinc 2 1, 0, 0, 0, 1), (.goto (-100), 16, 0, 0, 0)]
  | 119 => [(.return_, 0, 0, 0, 0)]
  | _ => []
theorem kX12_takesMost (pc : Nat) : chk 221 (bX12_takesMost pc) pc = true := by
  unfold bX12_takesMost; split
  · decide +kernel
  · decide +kernel
  · decide +kernel
  · decide +kernel
  · decide +kernel
  · decide +kernel
  · decide +kernel
  · decide +kernel
  · rfl
def bX12_told : Nat → List Ins := fun pc => match pc with
  | 0 => [(.iload_n 1, 0, 0, 0, 0), (.iconst 3, 0, 0, 0, 3), (.if_icmp .ne 10, 12, 0, 0, 0), (.aload_n 0, 0, 0, 0, 0), (.getfield 301, 12, 34, 0, 0), (.goto 45, 54, 0, 0, 0)]
  | 12 => [(.aload_n 0, 0, 0, 0, 0), (.getfield 298, 12, 33, 0, 0), (.iconst (-1), 0, 0, 0, (-1)), (.if_icmp .eq 8, 25, 0, 0, 0), (.iload_n 1, 0, 0, 0, 0), (.iconst 2, 0, 0, 0, 2), (.if_icmp .ne 10, 32, 0, 0, 0)]
  | 25 => [(.aload_n 0, 0, 0, 0, 0), (.getfield 298, 12, 33, 0, 0), (.goto 25, 54, 0, 0, 0)]
  | 32 => [(.iload_n 1, 0, 0, 0, 0), (.ifCond .ne 13, 46, 0, 0, 0), (.aload_n 0, 0, 0, 0, 0), (.getfield 298, 12, 33, 0, 0), (.invokestatic 271, 148, 1, 0, 0), (.goto 11, 54, 0, 0, 0)]
  | 46 => [(.aload_n 0, 0, 0, 0, 0), (.aload_n 0, 0, 0, 0, 0), (.getfield 298, 12, 33, 0, 0), (.invokevirtual 289, 214, 1, 12, 0)]
  | 54 => [(.ireturn, 0, 0, 0, 0)]
  | _ => []
theorem kX12_told (pc : Nat) : chk 222 (bX12_told pc) pc = true := by
  unfold bX12_told; split
  · decide +kernel
  · decide +kernel
  · decide +kernel
  · decide +kernel
  · decide +kernel
  · decide +kernel
  · rfl
def bX12_once : Nat → List Ins := fun pc => match pc with
  | 0 => [(.iload_n 1, 0, 0, 0, 0), (.iconst 0, 0, 0, 0, 0), (.iconst 3, 0, 0, 0, 3), (.invokestatic 91, 144, 3, 0, 0), (.ifCond .ne 5, 11, 0, 0, 0), (.iconst (-1), 0, 0, 0, (-1)), (.ireturn, 0, 0, 0, 0)]
  | 11 => [(.aload_n 0, 0, 0, 0, 0), (.iconst 0, 0, 0, 0, 0), (.invokevirtual 307, 221, 1, 12, 0), (.aload_n 0, 0, 0, 0, 0), (.iload_n 1, 0, 0, 0, 0), (.invokevirtual 311, 222, 1, 12, 0), (.ireturn, 0, 0, 0, 0)]
  | _ => []
theorem kX12_once (pc : Nat) : chk 223 (bX12_once pc) pc = true := by
  unfold bX12_once; split
  · decide +kernel
  · decide +kernel
  · rfl
def bX12_oneByOne : Nat → List Ins := fun pc => match pc with
  | 0 => [(.iload_n 1, 0, 0, 0, 0), (.iconst 0, 0, 0, 0, 0), (.iconst 3, 0, 0, 0, 3), (.invokestatic 91, 144, 3, 0, 0), (.ifCond .ne 5, 11, 0, 0, 0), (.iconst (-1), 0, 0, 0, (-1)), (.ireturn, 0, 0, 0, 0)]
  | 11 => [(.aload_n 0, 0, 0, 0, 0), (.iconst 1, 0, 0, 0, 1), (.invokevirtual 307, 221, 1, 12, 0), (.aload_n 0, 0, 0, 0, 0), (.iload_n 1, 0, 0, 0, 0), (.invokevirtual 311, 222, 1, 12, 0), (.ireturn, 0, 0, 0, 0)]
  | _ => []
theorem kX12_oneByOne (pc : Nat) : chk 224 (bX12_oneByOne pc) pc = true := by
  unfold bX12_oneByOne; split
  · decide +kernel
  · decide +kernel
  · rfl
def bX12_order : Nat → List Ins := fun pc => match pc with
  | 0 => [(.aload_n 0, 0, 0, 0, 0), (.iconst 1, 0, 0, 0, 1), (.invokevirtual 307, 221, 1, 12, 0), (.aload_n 0, 0, 0, 0, 0), (.getfield 298, 12, 33, 0, 0), (.iconst (-1), 0, 0, 0, (-1)), (.if_icmp .eq 20, 30, 0, 0, 0), (.iload_n 1, 0, 0, 0, 0), (.iconst 0, 0, 0, 0, 0), (.aload_n 0, 0, 0, 0, 0), (.getfield 298, 12, 33, 0, 0), (.invokestatic 271, 148, 1, 0, 0), (.iconst 1, 0, 0, 0, 1), (.isub, 0, 0, 0, 0), (.invokestatic 91, 144, 3, 0, 0), (.ifCond .ne 5, 32, 0, 0, 0)]
  | 30 => [(.iconst (-1), 0, 0, 0, (-1)), (.ireturn, 0, 0, 0, 0)]
  | 32 => [(.aload_n 0, 0, 0, 0, 0), (.getfield 20, 12, 3, 0, 0), (.sipush 159, 0, 0, 0, 159), (.iaload, 0, 0, 0, 0), (.aload_n 0, 0, 0, 0, 0), (.getfield 298, 12, 33, 0, 0), (.iconst (-1), 0, 0, 0, (-1)), (.ixor, 0, 0, 0, 0), (.iand, 0, 0, 0, 0), (.istore_n 2, 0, 0, 0, 0), (.iconst 0, 0, 0, 0, 0), (.istore_n 3, 0, 0, 0, 0)]
  | 50 => [(.iload_n 3, 0, 0, 0, 0), (.iconst 1, 0, 0, 0, 1), (.aload_n 0, 0, 0, 0, 0), (.invokevirtual 102, 152, 0, 12, 0), (.ishl, 0, 0, 0, 0), (.if_icmp .ge 106, 163, 0, 0, 0), (.aload_n 0, 0, 0, 0, 0), (.getfield 85, 12, 35, 0, 0), (.iload_n 3, 0, 0, 0, 0), (.iload_n 3, 0, 0, 0, 0), (.iload_n 2, 0, 0, 0, 0), (.if_icmp .ne 7, 74, 0, 0, 0), (.iconst 1, 0, 0, 0, 1), (.goto 4, 75, 0, 0, 0)]
  | 74 => [(.iconst 0, 0, 0, 0, 0)]
  | 75 => [(.bastore, 0, 0, 0, 0), (.iconst 0, 0, 0, 0, 0), (.istore 4, 0, 0, 0, 0)]
  | 79 => [(.iload 4, 0, 0, 0, 0), (.aload_n 0, 0, 0, 0, 0), (.invokevirtual 102, 152, 0, 12, 0), (.if_icmp .ge 72, 157, 0, 0, 0), (.aload_n 0, 0, 0, 0, 0), (.getfield 85, 12, 35, 0, 0), (.iload_n 3, 0, 0, 0, 0), (.aload_n 0, 0, 0, 0, 0), (.getfield 85, 12, 35, 0, 0), (.iload_n 3, 0, 0, 0, 0), (.baload, 0, 0, 0, 0), (.ifCond .ne 46, 145, 0, 0, 0), (.aload_n 0, 0, 0, 0, 0), (.getfield 70, 12, 28, 0, 0), (.iload_n 3, 0, 0, 0, 0), (.baload, 0, 0, 0, 0), (.ifCond .eq 41, 149, 0, 0, 0), (.iload_n 3, 0, 0, 0, 0), (.iload 4, 0, 0, 0, 0), (.invokestatic 274, 147, 2, 0, 0), (.ifCond .eq 32, 149, 0, 0, 0), (.iload_n 2, 0, 0, 0, 0), (.iload 4, 0, 0, 0, 0), (.invokestatic 274, 147, 2, 0, 0), (.ifCond .ne 23, 149, 0, 0, 0), (.aload_n 0, 0, 0, 0, 0), (.getfield 85, 12, 35, 0, 0), (.iload_n 3, 0, 0, 0, 0), (.iconst 1, 0, 0, 0, 1), (.iload 4, 0, 0, 0, 0), (.ishl, 0, 0, 0, 0), (.iconst (-1), 0, 0, 0, (-1)), (.ixor, 0, 0, 0, 0), (.iand, 0, 0, 0, 0), (.baload, 0, 0, 0, 0), (.ifCond .eq 7, 149, 0, 0, 0)]
  | 145 => [(.iconst 1, 0, 0, 0, 1), (.goto 4, 150, 0, 0, 0)]
  | 149 => [(.iconst 0, 0, 0, 0, 0)]
  | 150 => [(.bastore, 0, 0, 0, 0), (.iinc 4 1, 0, 0, 0, 1), (.goto (-75), 79, 0, 0, 0)]
  | 157 => [(.iinc 3 1, 0, 0, 0, 1), (.goto (-110), 50, 0, 0, 0)]
  | 163 => [(.aload_n 0, 0, 0, 0, 0), (.getfield 20, 12, 3, 0, 0), (.sipush 159, 0, 0, 0, 159), (.iaload, 0, 0, 0, 0), (.istore_n 3, 0, 0, 0, 0), (.iconst (-1), 0, 0, 0, (-1)), (.istore 4, 0, 0, 0, 0), (.iconst 0, 0, 0, 0, 0), (.istore 5, 0, 0, 0, 0)]
  | 178 => [(.iload 5, 0, 0, 0, 0), (.iload_n 1, 0, 0, 0, 0), (.if_icmp .gt 61, 242, 0, 0, 0), (.iconst 0, 0, 0, 0, 0), (.istore 4, 0, 0, 0, 0)]
  | 187 => [(.iload_n 3, 0, 0, 0, 0), (.iload 4, 0, 0, 0, 0), (.invokestatic 274, 147, 2, 0, 0), (.ifCond .eq 28, 221, 0, 0, 0), (.iload_n 2, 0, 0, 0, 0), (.iload 4, 0, 0, 0, 0), (.invokestatic 274, 147, 2, 0, 0), (.ifCond .ne 19, 221, 0, 0, 0), (.aload_n 0, 0, 0, 0, 0), (.getfield 85, 12, 35, 0, 0), (.iload_n 3, 0, 0, 0, 0), (.iconst 1, 0, 0, 0, 1), (.iload 4, 0, 0, 0, 0), (.ishl, 0, 0, 0, 0), (.iconst (-1), 0, 0, 0, (-1)), (.ixor, 0, 0, 0, 0), (.iand, 0, 0, 0, 0), (.baload, 0, 0, 0, 0), (.ifCond .ne 9, 227, 0, 0, 0)]
  | 221 => [(.iinc 4 1, 0, 0, 0, 1), (.goto (-37), 187, 0, 0, 0)]
  | 227 => [(.iload_n 3, 0, 0, 0, 0), (.iconst 1, 0, 0, 0, 1), (.iload 4, 0, 0, 0, 0), (.ishl, 0, 0, 0, 0), (.iconst (-1), 0, 0, 0, (-1)), (.ixor, 0, 0, 0, 0), (.iand, 0, 0, 0, 0), (.istore_n 3, 0, 0, 0, 0), (.iinc 5 1, 0, 0, 0, 1), (.goto (-61), 178, 0, 0, 0)]
  | 242 => [(.iload 4, 0, 0, 0, 0), (.ireturn, 0, 0, 0, 0)]
  | _ => []
theorem kX12_order (pc : Nat) : chk 225 (bX12_order pc) pc = true := by
  unfold bX12_order; split
  · decide +kernel
  · decide +kernel
  · decide +kernel
  · decide +kernel
  · decide +kernel
  · decide +kernel
  · decide +kernel
  · decide +kernel
  · decide +kernel
  · decide +kernel
  · decide +kernel
  · decide +kernel
  · decide +kernel
  · decide +kernel
  · decide +kernel
  · decide +kernel
  · decide +kernel
  · rfl
def bX12_fell : Nat → List Ins := fun pc => match pc with
  | 0 => [(.iload_n 1, 0, 0, 0, 0), (.iconst 0, 0, 0, 0, 0), (.iconst 2, 0, 0, 0, 2), (.invokestatic 91, 144, 3, 0, 0), (.ifCond .ne 5, 11, 0, 0, 0), (.iconst (-1), 0, 0, 0, (-1)), (.ireturn, 0, 0, 0, 0)]
  | 11 => [(.aload_n 0, 0, 0, 0, 0), (.invokevirtual 295, 219, 0, 12, 0), (.iconst (-1), 0, 0, 0, (-1)), (.istore_n 2, 0, 0, 0, 0), (.iconst 0, 0, 0, 0, 0), (.istore_n 3, 0, 0, 0, 0), (.iconst 0, 0, 0, 0, 0), (.istore 4, 0, 0, 0, 0)]
  | 22 => [(.iload 4, 0, 0, 0, 0), (.iconst 1, 0, 0, 0, 1), (.aload_n 0, 0, 0, 0, 0), (.invokevirtual 102, 152, 0, 12, 0), (.ishl, 0, 0, 0, 0), (.if_icmp .ge 84, 114, 0, 0, 0), (.aload_n 0, 0, 0, 0, 0), (.iload 4, 0, 0, 0, 0), (.invokevirtual 286, 213, 1, 12, 0), (.ifCond .eq 69, 108, 0, 0, 0), (.aload_n 0, 0, 0, 0, 0), (.getfield 73, 12, 29, 0, 0), (.aload_n 0, 0, 0, 0, 0), (.getfield 20, 12, 3, 0, 0), (.sipush 159, 0, 0, 0, 159), (.iaload, 0, 0, 0, 0), (.iload 4, 0, 0, 0, 0), (.iconst (-1), 0, 0, 0, (-1)), (.ixor, 0, 0, 0, 0), (.iand, 0, 0, 0, 0), (.iaload, 0, 0, 0, 0), (.ifCond .ne 48, 108, 0, 0, 0), (.iload_n 2, 0, 0, 0, 0), (.iconst (-1), 0, 0, 0, (-1)), (.if_icmp .eq 18, 83, 0, 0, 0), (.iload 4, 0, 0, 0, 0), (.invokestatic 271, 148, 1, 0, 0), (.iload_n 2, 0, 0, 0, 0), (.invokestatic 271, 148, 1, 0, 0), (.if_icmp .le 6, 83, 0, 0, 0), (.goto 28, 108, 0, 0, 0)]
  | 83 => [(.iload_n 2, 0, 0, 0, 0), (.iconst (-1), 0, 0, 0, (-1)), (.if_icmp .eq 15, 100, 0, 0, 0), (.iload 4, 0, 0, 0, 0), (.invokestatic 271, 148, 1, 0, 0), (.iload_n 2, 0, 0, 0, 0), (.invokestatic 271, 148, 1, 0, 0), (.if_icmp .ge 8, 105, 0, 0, 0)]
  | 100 => [(.iload 4, 0, 0, 0, 0), (.istore_n 2, 0, 0, 0, 0), (.iconst 0, 0, 0, 0, 0), (.istore_n 3, 0, 0, 0, 0)]
  | 105 => [(.iinc 3 1, 0, 0, 0, 1)]
  | 108 => [(.iinc 4 1, 0, 0, 0, 1), (.goto (-89), 22, 0, 0, 0)]
  | 114 => [(.iload_n 1, 0, 0, 0, 0), (.ifCond .ne 10, 125, 0, 0, 0), (.iload_n 2, 0, 0, 0, 0), (.invokestatic 271, 148, 1, 0, 0), (.goto 13, 135, 0, 0, 0)]
  | 125 => [(.iload_n 1, 0, 0, 0, 0), (.iconst 1, 0, 0, 0, 1), (.if_icmp .ne 7, 134, 0, 0, 0), (.iload_n 2, 0, 0, 0, 0), (.goto 4, 135, 0, 0, 0)]
  | 134 => [(.iload_n 3, 0, 0, 0, 0)]
  | 135 => [(.ireturn, 0, 0, 0, 0)]
  | _ => []
theorem kX12_fell (pc : Nat) : chk 226 (bX12_fell pc) pc = true := by
  unfold bX12_fell; split
  · decide +kernel
  · decide +kernel
  · decide +kernel
  · decide +kernel
  · decide +kernel
  · decide +kernel
  · decide +kernel
  · decide +kernel
  · decide +kernel
  · decide +kernel
  · decide +kernel
  · rfl
def bX12_gate : Nat → List Ins := fun pc => match pc with
  | 0 => [(.iload_n 1, 0, 0, 0, 0), (.iconst 0, 0, 0, 0, 0), (.bipush 11, 0, 0, 0, 11), (.invokestatic 91, 144, 3, 0, 0), (.ifCond .eq 44, 51, 0, 0, 0), (.iload_n 3, 0, 0, 0, 0), (.iload_n 1, 0, 0, 0, 0), (.bipush 11, 0, 0, 0, 11), (.invokestatic 91, 144, 3, 0, 0), (.ifCond .eq 34, 51, 0, 0, 0), (.iload_n 2, 0, 0, 0, 0), (.iconst 0, 0, 0, 0, 0), (.bipush 7, 0, 0, 0, 7), (.invokestatic 91, 144, 3, 0, 0), (.ifCond .eq 24, 51, 0, 0, 0), (.iload 4, 0, 0, 0, 0), (.iload_n 2, 0, 0, 0, 0), (.bipush 7, 0, 0, 0, 7), (.invokestatic 91, 144, 3, 0, 0), (.ifCond .eq 13, 51, 0, 0, 0), (.iload 5, 0, 0, 0, 0), (.iconst 0, 0, 0, 0, 0), (.iconst 2, 0, 0, 0, 2), (.invokestatic 91, 144, 3, 0, 0), (.ifCond .ne 5, 53, 0, 0, 0)]
  | 51 => [(.iconst (-1), 0, 0, 0, (-1)), (.ireturn, 0, 0, 0, 0)]
  | 53 => [(.aload_n 0, 0, 0, 0, 0), (.invokevirtual 283, 204, 0, 12, 0), (.iconst 0, 0, 0, 0, 0), (.istore 6, 0, 0, 0, 0), (.iconst 0, 0, 0, 0, 0), (.istore 7, 0, 0, 0, 0)]
  | 63 => [(.iload 7, 0, 0, 0, 0), (.aload_n 0, 0, 0, 0, 0), (.invokevirtual 102, 152, 0, 12, 0), (.if_icmp .ge 111, 180, 0, 0, 0), (.aload_n 0, 0, 0, 0, 0), (.iload 7, 0, 0, 0, 0), (.iconst 0, 0, 0, 0, 0), (.invokevirtual 113, 155, 2, 12, 0), (.iload_n 3, 0, 0, 0, 0), (.if_icmp .gt 57, 137, 0, 0, 0), (.aload_n 0, 0, 0, 0, 0), (.iload 7, 0, 0, 0, 0), (.iconst 0, 0, 0, 0, 0), (.invokevirtual 113, 155, 2, 12, 0), (.aload_n 0, 0, 0, 0, 0), (.iload 7, 0, 0, 0, 0), (.iconst 2, 0, 0, 0, 2), (.invokevirtual 113, 155, 2, 12, 0), (.iadd, 0, 0, 0, 0), (.iload_n 1, 0, 0, 0, 0), (.if_icmp .le 38, 137, 0, 0, 0), (.aload_n 0, 0, 0, 0, 0), (.iload 7, 0, 0, 0, 0), (.iconst 1, 0, 0, 0, 1), (.invokevirtual 113, 155, 2, 12, 0), (.iload 4, 0, 0, 0, 0), (.if_icmp .gt 26, 137, 0, 0, 0), (.aload_n 0, 0, 0, 0, 0), (.iload 7, 0, 0, 0, 0), (.iconst 1, 0, 0, 0, 1), (.invokevirtual 113, 155, 2, 12, 0), (.aload_n 0, 0, 0, 0, 0), (.iload 7, 0, 0, 0, 0), (.iconst 3, 0, 0, 0, 3), (.invokevirtual 113, 155, 2, 12, 0), (.iadd, 0, 0, 0, 0), (.iload_n 2, 0, 0, 0, 0), (.if_icmp .le 7, 137, 0, 0, 0), (.iconst 1, 0, 0, 0, 1), (.goto 4, 138, 0, 0, 0)]
  | 137 => [(.iconst 0, 0, 0, 0, 0)]
  | 138 => [(.istore 8, 0, 0, 0, 0), (.iload 6, 0, 0, 0, 0), (.iload 8, 0, 0, 0, 0), (.ifCond .eq 26, 170, 0, 0, 0), (.aload_n 0, 0, 0, 0, 0), (.getfield 20, 12, 3, 0, 0), (.sipush 159, 0, 0, 0, 159), (.iaload, 0, 0, 0, 0), (.iload 7, 0, 0, 0, 0), (.invokestatic 274, 147, 2, 0, 0), (.ifCond .eq 10, 170, 0, 0, 0), (.iconst 1, 0, 0, 0, 1), (.iload 7, 0, 0, 0, 0), (.ishl, 0, 0, 0, 0), (.goto 4, 171, 0, 0, 0)]
  | 170 => [(.iconst 0, 0, 0, 0, 0)]
  | 171 => [(.ior, 0, 0, 0, 0), (.istore 6, 0, 0, 0, 0), (.iinc 7 1, 0, 0, 0, 1), (.goto (-114), 63, 0, 0, 0)]
  | 180 => [(.aload_n 0, 0, 0, 0, 0), (.aload_n 0, 0, 0, 0, 0), (.getfield 20, 12, 3, 0, 0), (.sipush 159, 0, 0, 0, 159), (.iaload, 0, 0, 0, 0), (.iload 6, 0, 0, 0, 0), (.iconst (-1), 0, 0, 0, (-1)), (.ixor, 0, 0, 0, 0), (.iand, 0, 0, 0, 0), (.invokevirtual 292, 207, 1, 12, 0), (.istore 7, 0, 0, 0, 0), (.iload 5, 0, 0, 0, 0), (.ifCond .ne 23, 224, 0, 0, 0), (.aload_n 0, 0, 0, 0, 0), (.getfield 20, 12, 3, 0, 0), (.sipush 159, 0, 0, 0, 159), (.iaload, 0, 0, 0, 0), (.invokestatic 271, 148, 1, 0, 0), (.iload 7, 0, 0, 0, 0), (.invokestatic 271, 148, 1, 0, 0), (.isub, 0, 0, 0, 0), (.goto 19, 240, 0, 0, 0)]
  | 224 => [(.iload 5, 0, 0, 0, 0), (.iconst 1, 0, 0, 0, 1), (.if_icmp .ne 11, 238, 0, 0, 0), (.iload 6, 0, 0, 0, 0), (.invokestatic 271, 148, 1, 0, 0), (.goto 5, 240, 0, 0, 0)]
  | 238 => [(.iload 7, 0, 0, 0, 0)]
  | 240 => [(.ireturn, 0, 0, 0, 0)]
  | _ => []
theorem kX12_gate (pc : Nat) : chk 227 (bX12_gate pc) pc = true := by
  unfold bX12_gate; split
  · decide +kernel
  · decide +kernel
  · decide +kernel
  · decide +kernel
  · decide +kernel
  · decide +kernel
  · decide +kernel
  · decide +kernel
  · decide +kernel
  · decide +kernel
  · decide +kernel
  · decide +kernel
  · rfl
def bX12_mend : Nat → List Ins := fun pc => match pc with
  | 0 => [(.iload_n 1, 0, 0, 0, 0), (.iconst 0, 0, 0, 0, 0), (.iconst 2, 0, 0, 0, 2), (.invokestatic 91, 144, 3, 0, 0), (.ifCond .ne 5, 11, 0, 0, 0), (.iconst (-1), 0, 0, 0, (-1)), (.ireturn, 0, 0, 0, 0)]
  | 11 => [(.aload_n 0, 0, 0, 0, 0), (.invokevirtual 283, 204, 0, 12, 0), (.iconst (-1), 0, 0, 0, (-1)), (.istore_n 2, 0, 0, 0, 0), (.iconst 0, 0, 0, 0, 0), (.istore_n 3, 0, 0, 0, 0), (.iconst 0, 0, 0, 0, 0), (.istore 4, 0, 0, 0, 0)]
  | 22 => [(.iload 4, 0, 0, 0, 0), (.iconst 1, 0, 0, 0, 1), (.aload_n 0, 0, 0, 0, 0), (.invokevirtual 110, 153, 0, 12, 0), (.ishl, 0, 0, 0, 0), (.if_icmp .ge 84, 114, 0, 0, 0), (.aload_n 0, 0, 0, 0, 0), (.getfield 20, 12, 3, 0, 0), (.sipush 159, 0, 0, 0, 159), (.iaload, 0, 0, 0, 0), (.iload 4, 0, 0, 0, 0), (.bipush 14, 0, 0, 0, 14), (.ishl, 0, 0, 0, 0), (.ior, 0, 0, 0, 0), (.istore 5, 0, 0, 0, 0), (.iload 5, 0, 0, 0, 0), (.ifCond .eq 57, 108, 0, 0, 0), (.aload_n 0, 0, 0, 0, 0), (.iload 5, 0, 0, 0, 0), (.invokevirtual 280, 206, 1, 12, 0), (.ifCond .ne 48, 108, 0, 0, 0), (.iload_n 2, 0, 0, 0, 0), (.iconst (-1), 0, 0, 0, (-1)), (.if_icmp .eq 18, 83, 0, 0, 0), (.iload 4, 0, 0, 0, 0), (.invokestatic 271, 148, 1, 0, 0), (.iload_n 2, 0, 0, 0, 0), (.invokestatic 271, 148, 1, 0, 0), (.if_icmp .le 6, 83, 0, 0, 0), (.goto 28, 108, 0, 0, 0)]
  | 83 => [(.iload_n 2, 0, 0, 0, 0), (.iconst (-1), 0, 0, 0, (-1)), (.if_icmp .eq 15, 100, 0, 0, 0), (.iload 4, 0, 0, 0, 0), (.invokestatic 271, 148, 1, 0, 0), (.iload_n 2, 0, 0, 0, 0), (.invokestatic 271, 148, 1, 0, 0), (.if_icmp .ge 8, 105, 0, 0, 0)]
  | 100 => [(.iload 4, 0, 0, 0, 0), (.istore_n 2, 0, 0, 0, 0), (.iconst 0, 0, 0, 0, 0), (.istore_n 3, 0, 0, 0, 0)]
  | 105 => [(.iinc 3 1, 0, 0, 0, 1)]
  | 108 => [(.iinc 4 1, 0, 0, 0, 1), (.goto (-89), 22, 0, 0, 0)]
  | 114 => [(.iload_n 1, 0, 0, 0, 0), (.iconst 2, 0, 0, 0, 2), (.if_icmp .ne 7, 123, 0, 0, 0), (.iload_n 3, 0, 0, 0, 0), (.goto 21, 141, 0, 0, 0)]
  | 123 => [(.iload_n 2, 0, 0, 0, 0), (.iconst (-1), 0, 0, 0, (-1)), (.if_icmp .eq 8, 133, 0, 0, 0), (.iload_n 1, 0, 0, 0, 0), (.iconst 1, 0, 0, 0, 1), (.if_icmp .ne 7, 137, 0, 0, 0)]
  | 133 => [(.iload_n 2, 0, 0, 0, 0), (.goto 7, 141, 0, 0, 0)]
  | 137 => [(.iload_n 2, 0, 0, 0, 0), (.invokestatic 271, 148, 1, 0, 0)]
  | 141 => [(.ireturn, 0, 0, 0, 0)]
  | _ => []
theorem kX12_mend (pc : Nat) : chk 228 (bX12_mend pc) pc = true := by
  unfold bX12_mend; split
  · decide +kernel
  · decide +kernel
  · decide +kernel
  · decide +kernel
  · decide +kernel
  · decide +kernel
  · decide +kernel
  · decide +kernel
  · decide +kernel
  · decide +kernel
  · decide +kernel
  · decide +kernel
  · rfl
def bX12_game : Nat → List Ins := fun pc => match pc with
  | 0 => [(.iload_n 1, 0, 0, 0, 0), (.iconst 0, 0, 0, 0, 0), (.iconst 2, 0, 0, 0, 2), (.invokestatic 91, 144, 3, 0, 0), (.ifCond .ne 5, 11, 0, 0, 0), (.iconst (-1), 0, 0, 0, (-1)), (.ireturn, 0, 0, 0, 0)]
  | 11 => [(.aload_n 0, 0, 0, 0, 0), (.invokevirtual 295, 219, 0, 12, 0), (.aload_n 0, 0, 0, 0, 0), (.getfield 20, 12, 3, 0, 0), (.sipush 159, 0, 0, 0, 159), (.iaload, 0, 0, 0, 0), (.istore_n 2, 0, 0, 0, 0), (.iconst 0, 0, 0, 0, 0), (.istore_n 3, 0, 0, 0, 0), (.iconst (-1), 0, 0, 0, (-1)), (.istore 4, 0, 0, 0, 0), (.aload_n 0, 0, 0, 0, 0), (.invokevirtual 102, 152, 0, 12, 0), (.iconst 1, 0, 0, 0, 1), (.isub, 0, 0, 0, 0), (.istore 5, 0, 0, 0, 0)]
  | 37 => [(.iload 5, 0, 0, 0, 0), (.ifCond .lt 65, 104, 0, 0, 0), (.iload_n 2, 0, 0, 0, 0), (.iload 5, 0, 0, 0, 0), (.invokestatic 274, 147, 2, 0, 0), (.ifCond .eq 50, 98, 0, 0, 0), (.aload_n 0, 0, 0, 0, 0), (.getfield 70, 12, 28, 0, 0), (.iload_n 2, 0, 0, 0, 0), (.iconst 1, 0, 0, 0, 1), (.iload 5, 0, 0, 0, 0), (.ishl, 0, 0, 0, 0), (.iconst (-1), 0, 0, 0, (-1)), (.ixor, 0, 0, 0, 0), (.iand, 0, 0, 0, 0), (.baload, 0, 0, 0, 0), (.ifCond .ne 6, 70, 0, 0, 0), (.goto 31, 98, 0, 0, 0)]
  | 70 => [(.iinc 3 1, 0, 0, 0, 1), (.aload_n 0, 0, 0, 0, 0), (.getfield 76, 12, 30, 0, 0), (.iload_n 2, 0, 0, 0, 0), (.iconst 1, 0, 0, 0, 1), (.iload 5, 0, 0, 0, 0), (.ishl, 0, 0, 0, 0), (.iconst (-1), 0, 0, 0, (-1)), (.ixor, 0, 0, 0, 0), (.iand, 0, 0, 0, 0), (.baload, 0, 0, 0, 0), (.ifCond .eq 8, 94, 0, 0, 0), (.iload 4, 0, 0, 0, 0), (.goto 5, 96, 0, 0, 0)]
  | 94 => [(.iload 5, 0, 0, 0, 0)]
  | 96 => [(.istore 4, 0, 0, 0, 0)]
  | 98 => [(.iinc 5 (-1), 0, 0, 0, (-1)), (.goto (-64), 37, 0, 0, 0)]
  | 104 => [(.iload_n 1, 0, 0, 0, 0), (.ifCond .ne 20, 125, 0, 0, 0), (.aload_n 0, 0, 0, 0, 0), (.getfield 76, 12, 30, 0, 0), (.iload_n 2, 0, 0, 0, 0), (.baload, 0, 0, 0, 0), (.ifCond .eq 7, 121, 0, 0, 0), (.iconst 1, 0, 0, 0, 1), (.goto 18, 136, 0, 0, 0)]
  | 121 => [(.iconst 0, 0, 0, 0, 0), (.goto 14, 136, 0, 0, 0)]
  | 125 => [(.iload_n 1, 0, 0, 0, 0), (.iconst 1, 0, 0, 0, 1), (.if_icmp .ne 8, 135, 0, 0, 0), (.iload 4, 0, 0, 0, 0), (.goto 4, 136, 0, 0, 0)]
  | 135 => [(.iload_n 3, 0, 0, 0, 0)]
  | 136 => [(.ireturn, 0, 0, 0, 0)]
  | _ => []
theorem kX12_game (pc : Nat) : chk 229 (bX12_game pc) pc = true := by
  unfold bX12_game; split
  · decide +kernel
  · decide +kernel
  · decide +kernel
  · decide +kernel
  · decide +kernel
  · decide +kernel
  · decide +kernel
  · decide +kernel
  · decide +kernel
  · decide +kernel
  · decide +kernel
  · decide +kernel
  · rfl
def bX12_night : Nat → List Ins := fun pc => match pc with
  | 0 => [(.aload_n 0, 0, 0, 0, 0), (.iload_n 1, 0, 0, 0, 0), (.invokevirtual 286, 213, 1, 12, 0), (.ifCond .eq 12, 17, 0, 0, 0), (.iload_n 2, 0, 0, 0, 0), (.iconst 0, 0, 0, 0, 0), (.iconst 3, 0, 0, 0, 3), (.invokestatic 91, 144, 3, 0, 0), (.ifCond .ne 5, 19, 0, 0, 0)]
  | 17 => [(.iconst (-1), 0, 0, 0, (-1)), (.ireturn, 0, 0, 0, 0)]
  | 19 => [(.aload_n 0, 0, 0, 0, 0), (.invokevirtual 295, 219, 0, 12, 0), (.aload_n 0, 0, 0, 0, 0), (.getfield 20, 12, 3, 0, 0), (.sipush 159, 0, 0, 0, 159), (.iaload, 0, 0, 0, 0), (.istore_n 3, 0, 0, 0, 0), (.iconst 0, 0, 0, 0, 0), (.istore 4, 0, 0, 0, 0), (.iconst (-1), 0, 0, 0, (-1)), (.istore 5, 0, 0, 0, 0), (.iconst 0, 0, 0, 0, 0), (.istore 6, 0, 0, 0, 0), (.iconst (-1), 0, 0, 0, (-1)), (.istore 7, 0, 0, 0, 0), (.iconst 0, 0, 0, 0, 0), (.istore 8, 0, 0, 0, 0)]
  | 47 => [(.iload 8, 0, 0, 0, 0), (.aload_n 0, 0, 0, 0, 0), (.invokevirtual 102, 152, 0, 12, 0), (.if_icmp .ge 133, 186, 0, 0, 0), (.iload_n 3, 0, 0, 0, 0), (.iload 8, 0, 0, 0, 0), (.invokestatic 274, 147, 2, 0, 0), (.ifCond .ne 6, 68, 0, 0, 0), (.goto 115, 180, 0, 0, 0)]
  | 68 => [(.aload_n 0, 0, 0, 0, 0), (.getfield 73, 12, 29, 0, 0), (.iload_n 3, 0, 0, 0, 0), (.iconst 1, 0, 0, 0, 1), (.iload 8, 0, 0, 0, 0), (.ishl, 0, 0, 0, 0), (.iconst (-1), 0, 0, 0, (-1)), (.ixor, 0, 0, 0, 0), (.iand, 0, 0, 0, 0), (.iaload, 0, 0, 0, 0), (.iload_n 1, 0, 0, 0, 0), (.if_icmp .ne 21, 103, 0, 0, 0), (.iinc 4 1, 0, 0, 0, 1), (.iload 5, 0, 0, 0, 0), (.iconst (-1), 0, 0, 0, (-1)), (.if_icmp .ne 8, 99, 0, 0, 0), (.iload 8, 0, 0, 0, 0), (.goto 5, 101, 0, 0, 0)]
  | 99 => [(.iload 5, 0, 0, 0, 0)]
  | 101 => [(.istore 5, 0, 0, 0, 0)]
  | 103 => [(.iload 8, 0, 0, 0, 0), (.iconst 1, 0, 0, 0, 1), (.iadd, 0, 0, 0, 0), (.istore 9, 0, 0, 0, 0)]
  | 109 => [(.iload 9, 0, 0, 0, 0), (.aload_n 0, 0, 0, 0, 0), (.invokevirtual 102, 152, 0, 12, 0), (.if_icmp .ge 65, 180, 0, 0, 0), (.iconst 1, 0, 0, 0, 1), (.iload 8, 0, 0, 0, 0), (.ishl, 0, 0, 0, 0), (.iconst 1, 0, 0, 0, 1), (.iload 9, 0, 0, 0, 0), (.ishl, 0, 0, 0, 0), (.ior, 0, 0, 0, 0), (.istore 10, 0, 0, 0, 0), (.iload_n 3, 0, 0, 0, 0), (.iload 9, 0, 0, 0, 0), (.invokestatic 274, 147, 2, 0, 0), (.ifCond .eq 39, 174, 0, 0, 0), (.aload_n 0, 0, 0, 0, 0), (.getfield 73, 12, 29, 0, 0), (.iload_n 3, 0, 0, 0, 0), (.iload 10, 0, 0, 0, 0), (.iconst (-1), 0, 0, 0, (-1)), (.ixor, 0, 0, 0, 0), (.iand, 0, 0, 0, 0), (.iaload, 0, 0, 0, 0), (.iload_n 1, 0, 0, 0, 0), (.if_icmp .eq 6, 156, 0, 0, 0), (.goto 21, 174, 0, 0, 0)]
  | 156 => [(.iinc 6 1, 0, 0, 0, 1), (.iload 7, 0, 0, 0, 0), (.iconst (-1), 0, 0, 0, (-1)), (.if_icmp .ne 8, 170, 0, 0, 0), (.iload 10, 0, 0, 0, 0), (.goto 5, 172, 0, 0, 0)]
  | 170 => [(.iload 7, 0, 0, 0, 0)]
  | 172 => [(.istore 7, 0, 0, 0, 0)]
  | 174 => [(.iinc 9 1, 0, 0, 0, 1), (.goto (-68), 109, 0, 0, 0)]
  | 180 => [(.iinc 8 1, 0, 0, 0, 1), (.goto (-136), 47, 0, 0, 0)]
  | 186 => [(.iload_n 2, 0, 0, 0, 0), (.ifCond .ne 8, 195, 0, 0, 0), (.iload 4, 0, 0, 0, 0), (.goto 25, 217, 0, 0, 0)]
  | 195 => [(.iload_n 2, 0, 0, 0, 0), (.iconst 1, 0, 0, 0, 1), (.if_icmp .ne 8, 205, 0, 0, 0), (.iload 5, 0, 0, 0, 0), (.goto 15, 217, 0, 0, 0)]
  | 205 => [(.iload_n 2, 0, 0, 0, 0), (.iconst 2, 0, 0, 0, 2), (.if_icmp .ne 8, 215, 0, 0, 0), (.iload 6, 0, 0, 0, 0), (.goto 5, 217, 0, 0, 0)]
  | 215 => [(.iload 7, 0, 0, 0, 0)]
  | 217 => [(.ireturn, 0, 0, 0, 0)]
  | _ => []
theorem kX12_night (pc : Nat) : chk 230 (bX12_night pc) pc = true := by
  unfold bX12_night; split
  · decide +kernel
  · decide +kernel
  · decide +kernel
  · decide +kernel
  · decide +kernel
  · decide +kernel
  · decide +kernel
  · decide +kernel
  · decide +kernel
  · decide +kernel
  · decide +kernel
  · decide +kernel
  · decide +kernel
  · decide +kernel
  · decide +kernel
  · decide +kernel
  · decide +kernel
  · decide +kernel
  · decide +kernel
  · rfl
def bX12_draws : Nat → List Ins := fun pc => match pc with
  | 0 => [(.aload_n 0, 0, 0, 0, 0), (.ldc2_w 314, 1103, 0, 0, 0), (.aload_n 0, 0, 0, 0, 0), (.getfield 316, 12, 38, 0, 0), (.i2l, 0, 0, 0, 0), (.lmul, 0, 0, 0, 0), (.ldc2_w 319, 12345, 0, 0, 0), (.ladd, 0, 0, 0, 0), (.ldc2_w 321, 1000003, 0, 0, 0), (.lrem, 0, 0, 0, 0), (.l2i, 0, 0, 0, 0), (.putfield 316, 12, 38, 0, 0), (.aload_n 0, 0, 0, 0, 0), (.getfield 316, 12, 38, 0, 0), (.iload_n 1, 0, 0, 0, 0), (.irem, 0, 0, 0, 0), (.ireturn, 0, 0, 0, 0)]
  | _ => []
theorem kX12_draws (pc : Nat) : chk 231 (bX12_draws pc) pc = true := by
  unfold bX12_draws; split
  · decide +kernel
  · rfl
def bX12_winters : Nat → List Ins := fun pc => match pc with
  | 0 => [(.iload_n 1, 0, 0, 0, 0), (.iconst 0, 0, 0, 0, 0), (.ldc 157, 0, 0, 0, 1000000), (.invokestatic 91, 144, 3, 0, 0), (.ifCond .eq 13, 20, 0, 0, 0), (.iload_n 2, 0, 0, 0, 0), (.iconst 1, 0, 0, 0, 1), (.bipush 40, 0, 0, 0, 40), (.invokestatic 91, 144, 3, 0, 0), (.ifCond .ne 9, 26, 0, 0, 0)]
  | 20 => [(.aload_n 0, 0, 0, 0, 0), (.iconst (-1), 0, 0, 0, (-1)), (.invokevirtual 95, 145, 1, 12, 0), (.ireturn, 0, 0, 0, 0)]
  | 26 => [(.aload_n 0, 0, 0, 0, 0), (.invokevirtual 283, 204, 0, 12, 0), (.aload_n 0, 0, 0, 0, 0), (.iload_n 1, 0, 0, 0, 0), (.putfield 316, 12, 38, 0, 0), (.aload_n 0, 0, 0, 0, 0), (.iload_n 2, 0, 0, 0, 0), (.putfield 323, 12, 37, 0, 0), (.aload_n 0, 0, 0, 0, 0), (.getfield 20, 12, 3, 0, 0), (.sipush 159, 0, 0, 0, 159), (.iaload, 0, 0, 0, 0), (.istore_n 3, 0, 0, 0, 0), (.iconst 0, 0, 0, 0, 0), (.istore 4, 0, 0, 0, 0)]
  | 52 => [(.iload 4, 0, 0, 0, 0), (.iload_n 2, 0, 0, 0, 0), (.if_icmp .ge 170, 225, 0, 0, 0), (.iconst 0, 0, 0, 0, 0), (.istore 5, 0, 0, 0, 0), (.iconst 0, 0, 0, 0, 0), (.istore 6, 0, 0, 0, 0)]
  | 64 => [(.iload 6, 0, 0, 0, 0), (.aload_n 0, 0, 0, 0, 0), (.invokevirtual 102, 152, 0, 12, 0), (.if_icmp .ge 44, 114, 0, 0, 0), (.iload_n 3, 0, 0, 0, 0), (.iload 6, 0, 0, 0, 0), (.invokestatic 274, 147, 2, 0, 0), (.ifCond .eq 29, 108, 0, 0, 0), (.aload_n 0, 0, 0, 0, 0), (.bipush 100, 0, 0, 0, 100), (.invokevirtual 326, 231, 1, 12, 0), (.aload_n 0, 0, 0, 0, 0), (.iload 6, 0, 0, 0, 0), (.bipush 6, 0, 0, 0, 6), (.invokevirtual 113, 155, 2, 12, 0), (.if_icmp .ge 12, 108, 0, 0, 0), (.iload 5, 0, 0, 0, 0), (.iconst 1, 0, 0, 0, 1), (.iload 6, 0, 0, 0, 0), (.ishl, 0, 0, 0, 0), (.ior, 0, 0, 0, 0), (.istore 5, 0, 0, 0, 0)]
  | 108 => [(.iinc 6 1, 0, 0, 0, 1), (.goto (-47), 64, 0, 0, 0)]
  | 114 => [(.aload_n 0, 0, 0, 0, 0), (.iload_n 3, 0, 0, 0, 0), (.iload 5, 0, 0, 0, 0), (.iconst (-1), 0, 0, 0, (-1)), (.ixor, 0, 0, 0, 0), (.iand, 0, 0, 0, 0), (.invokevirtual 292, 207, 1, 12, 0), (.istore_n 3, 0, 0, 0, 0), (.iconst (-1), 0, 0, 0, (-1)), (.istore 6, 0, 0, 0, 0), (.iconst 0, 0, 0, 0, 0), (.istore 7, 0, 0, 0, 0)]
  | 131 => [(.iload 7, 0, 0, 0, 0), (.aload_n 0, 0, 0, 0, 0), (.invokevirtual 102, 152, 0, 12, 0), (.if_icmp .ge 57, 194, 0, 0, 0), (.iload_n 3, 0, 0, 0, 0), (.iload 7, 0, 0, 0, 0), (.invokestatic 274, 147, 2, 0, 0), (.ifCond .ne 42, 188, 0, 0, 0), (.iload 6, 0, 0, 0, 0), (.iconst (-1), 0, 0, 0, (-1)), (.if_icmp .eq 32, 184, 0, 0, 0), (.aload_n 0, 0, 0, 0, 0), (.iload_n 3, 0, 0, 0, 0), (.iconst 1, 0, 0, 0, 1), (.iload 7, 0, 0, 0, 0), (.ishl, 0, 0, 0, 0), (.ior, 0, 0, 0, 0), (.invokevirtual 280, 206, 1, 12, 0), (.invokestatic 271, 148, 1, 0, 0), (.aload_n 0, 0, 0, 0, 0), (.iload_n 3, 0, 0, 0, 0), (.iconst 1, 0, 0, 0, 1), (.iload 6, 0, 0, 0, 0), (.ishl, 0, 0, 0, 0), (.ior, 0, 0, 0, 0), (.invokevirtual 280, 206, 1, 12, 0), (.invokestatic 271, 148, 1, 0, 0), (.if_icmp .ge 7, 188, 0, 0, 0)]
  | 184 => [(.iload 7, 0, 0, 0, 0), (.istore 6, 0, 0, 0, 0)]
  | 188 => [(.iinc 7 1, 0, 0, 0, 1), (.goto (-60), 131, 0, 0, 0)]
  | 194 => [(.iload_n 3, 0, 0, 0, 0), (.iload 6, 0, 0, 0, 0), (.iconst (-1), 0, 0, 0, (-1)), (.if_icmp .ne 7, 205, 0, 0, 0), (.iconst 0, 0, 0, 0, 0), (.goto 7, 209, 0, 0, 0)]
  | 205 => [(.iconst 1, 0, 0, 0, 1), (.iload 6, 0, 0, 0, 0), (.ishl, 0, 0, 0, 0)]
  | 209 => [(.ior, 0, 0, 0, 0), (.istore_n 3, 0, 0, 0, 0), (.aload_n 0, 0, 0, 0, 0), (.getfield 88, 12, 36, 0, 0), (.iload 4, 0, 0, 0, 0), (.iload_n 3, 0, 0, 0, 0), (.iastore, 0, 0, 0, 0), (.iinc 4 1, 0, 0, 0, 1), (.goto (-170), 52, 0, 0, 0)]
  | 225 => [(.aload_n 0, 0, 0, 0, 0), (.iload_n 3, 0, 0, 0, 0), (.invokestatic 271, 148, 1, 0, 0), (.invokevirtual 99, 146, 1, 12, 0), (.ireturn, 0, 0, 0, 0)]
  | _ => []
theorem kX12_winters (pc : Nat) : chk 232 (bX12_winters pc) pc = true := by
  unfold bX12_winters; split
  · decide +kernel
  · decide +kernel
  · decide +kernel
  · decide +kernel
  · decide +kernel
  · decide +kernel
  · decide +kernel
  · decide +kernel
  · decide +kernel
  · decide +kernel
  · decide +kernel
  · decide +kernel
  · decide +kernel
  · decide +kernel
  · rfl
def bX12_winter : Nat → List Ins := fun pc => match pc with
  | 0 => [(.iload_n 1, 0, 0, 0, 0), (.iconst 0, 0, 0, 0, 0), (.aload_n 0, 0, 0, 0, 0), (.getfield 323, 12, 37, 0, 0), (.iconst 1, 0, 0, 0, 1), (.isub, 0, 0, 0, 0), (.invokestatic 91, 144, 3, 0, 0), (.ifCond .eq 12, 23, 0, 0, 0), (.aload_n 0, 0, 0, 0, 0), (.getfield 88, 12, 36, 0, 0), (.iload_n 1, 0, 0, 0, 0), (.iaload, 0, 0, 0, 0), (.goto 4, 24, 0, 0, 0)]
  | 23 => [(.iconst (-1), 0, 0, 0, (-1))]
  | 24 => [(.ireturn, 0, 0, 0, 0)]
  | _ => []
theorem kX12_winter (pc : Nat) : chk 233 (bX12_winter pc) pc = true := by
  unfold bX12_winter; split
  · decide +kernel
  · decide +kernel
  · decide +kernel
  · rfl
def bX12_count : Nat → List Ins := fun pc => match pc with
  | 0 => [(.iload_n 1, 0, 0, 0, 0), (.tableswitch 154 0 13 #[71, 76, 88, 93, 102, 107, 107, 107, 116, 123, 131, 140, 140, 140], 155, 0, 0, 0)]
  | 72 => [(.aload_n 0, 0, 0, 0, 0), (.invokevirtual 102, 152, 0, 12, 0), (.ireturn, 0, 0, 0, 0)]
  | 77 => [(.aload_n 0, 0, 0, 0, 0), (.getfield 20, 12, 3, 0, 0), (.sipush 159, 0, 0, 0, 159), (.iaload, 0, 0, 0, 0), (.invokestatic 271, 148, 1, 0, 0), (.ireturn, 0, 0, 0, 0)]
  | 89 => [(.aload_n 0, 0, 0, 0, 0), (.invokevirtual 110, 153, 0, 12, 0), (.ireturn, 0, 0, 0, 0)]
  | 94 => [(.aload_n 0, 0, 0, 0, 0), (.getfield 20, 12, 3, 0, 0), (.sipush 160, 0, 0, 0, 160), (.iaload, 0, 0, 0, 0), (.ireturn, 0, 0, 0, 0)]
  | 103 => [(.aload_n 0, 0, 0, 0, 0), (.getfield 139, 12, 10, 0, 0), (.ireturn, 0, 0, 0, 0)]
  | 108 => [(.aload_n 0, 0, 0, 0, 0), (.getfield 7, 12, 2, 0, 0), (.iload_n 1, 0, 0, 0, 0), (.iconst 4, 0, 0, 0, 4), (.isub, 0, 0, 0, 0), (.iaload, 0, 0, 0, 0), (.ireturn, 0, 0, 0, 0)]
  | 117 => [(.aload_n 0, 0, 0, 0, 0), (.getfield 7, 12, 2, 0, 0), (.iconst 5, 0, 0, 0, 5), (.iaload, 0, 0, 0, 0), (.ireturn, 0, 0, 0, 0)]
  | 124 => [(.aload_n 0, 0, 0, 0, 0), (.getfield 7, 12, 2, 0, 0), (.bipush 6, 0, 0, 0, 6), (.iaload, 0, 0, 0, 0), (.ireturn, 0, 0, 0, 0)]
  | 132 => [(.aload_n 0, 0, 0, 0, 0), (.getfield 20, 12, 3, 0, 0), (.sipush 161, 0, 0, 0, 161), (.iaload, 0, 0, 0, 0), (.ireturn, 0, 0, 0, 0)]
  | 141 => [(.aload_n 0, 0, 0, 0, 0), (.getfield 20, 12, 3, 0, 0), (.sipush 154, 0, 0, 0, 154), (.iload_n 1, 0, 0, 0, 0), (.iadd, 0, 0, 0, 0), (.bipush 11, 0, 0, 0, 11), (.isub, 0, 0, 0, 0), (.iaload, 0, 0, 0, 0), (.ireturn, 0, 0, 0, 0)]
  | 155 => [(.iconst (-1), 0, 0, 0, (-1)), (.ireturn, 0, 0, 0, 0)]
  | _ => []
theorem kX12_count (pc : Nat) : chk 234 (bX12_count pc) pc = true := by
  unfold bX12_count; split
  · decide +kernel
  · decide +kernel
  · decide +kernel
  · decide +kernel
  · decide +kernel
  · decide +kernel
  · decide +kernel
  · decide +kernel
  · decide +kernel
  · decide +kernel
  · decide +kernel
  · decide +kernel
  · rfl
def bX12_status : Nat → List Ins := fun pc => match pc with
  | 0 => [(.aload_n 0, 0, 0, 0, 0), (.getfield 3, 12, 0, 0, 0), (.ireturn, 0, 0, 0, 0)]
  | _ => []
theorem kX12_status (pc : Nat) : chk 235 (bX12_status pc) pc = true := by
  unfold bX12_status; split
  · decide +kernel
  · rfl
end
section
/-! the code of the methods, as lists (wip/gen/code.py) -/
def bL_law : Nat → List Ins := fun pc => match pc with
  | 0 => []
  | 18 => [(.iload_n 3, 0, 0, 0, 0), (.aload_n 0, 0, 0, 0, 0), (.arraylength, 2, 0, 0, 0), (.bipush 6, 0, 0, 0, 6), (.isub, 0, 0, 0, 0), (.if_icmp .gt 1175, 1199, 0, 0, 0), (.aload_n 0, 0, 0, 0, 0), (.iload_n 3, 0, 0, 0, 0), (.iaload, 2, 0, 0, 0), (.bipush 63, 0, 0, 0, 63), (.iand, 0, 0, 0, 0), (.tableswitch 1160 0 34 #[155, 218, 281, 324, 357, 390, 453, 476, 489, 502, 515, 528, 551, 584, 617, 630, 643, 666, 699, 732, 755, 788, 811, 834, 857, 880, 943, 966, 989, 1022, 1055, 1078, 1101, 1124, 1147], 1193, 0, 0, 0)]
  | 188 => [(.aload_n 1, 0, 0, 0, 0), (.aload_n 0, 0, 0, 0, 0), (.iload_n 3, 0, 0, 0, 0), (.iconst 1, 0, 0, 0, 1), (.iadd, 0, 0, 0, 0), (.iaload, 2, 0, 0, 0), (.aload_n 0, 0, 0, 0, 0), (.iload_n 3, 0, 0, 0, 0), (.iconst 2, 0, 0, 0, 2), (.iadd, 0, 0, 0, 0), (.iaload, 2, 0, 0, 0), (.aload_n 0, 0, 0, 0, 0), (.iload_n 3, 0, 0, 0, 0), (.iconst 3, 0, 0, 0, 3), (.iadd, 0, 0, 0, 0), (.iaload, 2, 0, 0, 0), (.aload_n 0, 0, 0, 0, 0), (.iload_n 3, 0, 0, 0, 0), (.iconst 4, 0, 0, 0, 4), (.iadd, 0, 0, 0, 0), (.iaload, 2, 0, 0, 0), (.aload_n 0, 0, 0, 0, 0), (.iload_n 3, 0, 0, 0, 0), (.iconst 5, 0, 0, 0, 5), (.iadd, 0, 0, 0, 0), (.iaload, 2, 0, 0, 0), (.invokevirtual 13, 102, 5, 11, 0), (.aload_n 2, 0, 0, 0, 0), (.aload_n 0, 0, 0, 0, 0), (.iload_n 3, 0, 0, 0, 0), (.iconst 1, 0, 0, 0, 1), (.iadd, 0, 0, 0, 0), (.iaload, 2, 0, 0, 0), (.aload_n 0, 0, 0, 0, 0), (.iload_n 3, 0, 0, 0, 0), (.iconst 2, 0, 0, 0, 2), (.iadd, 0, 0, 0, 0), (.iaload, 2, 0, 0, 0), (.aload_n 0, 0, 0, 0, 0), (.iload_n 3, 0, 0, 0, 0), (.iconst 3, 0, 0, 0, 3), (.iadd, 0, 0, 0, 0), (.iaload, 2, 0, 0, 0), (.aload_n 0, 0, 0, 0, 0), (.iload_n 3, 0, 0, 0, 0), (.iconst 4, 0, 0, 0, 4), (.iadd, 0, 0, 0, 0), (.iaload, 2, 0, 0, 0), (.aload_n 0, 0, 0, 0, 0), (.iload_n 3, 0, 0, 0, 0), (.iconst 5, 0, 0, 0, 5), (.iadd, 0, 0, 0, 0), (.iaload, 2, 0, 0, 0), (.invokevirtual 17, 162, 5, 12, 0), (.if_icmp .eq 947, 1193, 0, 0, 0), (.iconst 0, 0, 0, 0, 0), (.ireturn, 1, 0, 0, 0)]
  | 251 => [(.aload_n 1, 0, 0, 0, 0), (.aload_n 0, 0, 0, 0, 0), (.iload_n 3, 0, 0, 0, 0), (.iconst 1, 0, 0, 0, 1), (.iadd, 0, 0, 0, 0), (.iaload, 2, 0, 0, 0), (.aload_n 0, 0, 0, 0, 0), (.iload_n 3, 0, 0, 0, 0), (.iconst 2, 0, 0, 0, 2), (.iadd, 0, 0, 0, 0), (.iaload, 2, 0, 0, 0), (.aload_n 0, 0, 0, 0, 0), (.iload_n 3, 0, 0, 0, 0), (.iconst 3, 0, 0, 0, 3), (.iadd, 0, 0, 0, 0), (.iaload, 2, 0, 0, 0), (.aload_n 0, 0, 0, 0, 0), (.iload_n 3, 0, 0, 0, 0), (.iconst 4, 0, 0, 0, 4), (.iadd, 0, 0, 0, 0), (.iaload, 2, 0, 0, 0), (.aload_n 0, 0, 0, 0, 0), (.iload_n 3, 0, 0, 0, 0), (.iconst 5, 0, 0, 0, 5), (.iadd, 0, 0, 0, 0), (.iaload, 2, 0, 0, 0), (.invokevirtual 18, 103, 5, 11, 0), (.aload_n 2, 0, 0, 0, 0), (.aload_n 0, 0, 0, 0, 0), (.iload_n 3, 0, 0, 0, 0), (.iconst 1, 0, 0, 0, 1), (.iadd, 0, 0, 0, 0), (.iaload, 2, 0, 0, 0), (.aload_n 0, 0, 0, 0, 0), (.iload_n 3, 0, 0, 0, 0), (.iconst 2, 0, 0, 0, 2), (.iadd, 0, 0, 0, 0), (.iaload, 2, 0, 0, 0), (.aload_n 0, 0, 0, 0, 0), (.iload_n 3, 0, 0, 0, 0), (.iconst 3, 0, 0, 0, 3), (.iadd, 0, 0, 0, 0), (.iaload, 2, 0, 0, 0), (.aload_n 0, 0, 0, 0, 0), (.iload_n 3, 0, 0, 0, 0), (.iconst 4, 0, 0, 0, 4), (.iadd, 0, 0, 0, 0), (.iaload, 2, 0, 0, 0), (.aload_n 0, 0, 0, 0, 0), (.iload_n 3, 0, 0, 0, 0), (.iconst 5, 0, 0, 0, 5), (.iadd, 0, 0, 0, 0), (.iaload, 2, 0, 0, 0), (.invokevirtual 21, 163, 5, 12, 0), (.if_icmp .eq 884, 1193, 0, 0, 0), (.iconst 0, 0, 0, 0, 0), (.ireturn, 1, 0, 0, 0)]
  | 314 => [(.aload_n 1, 0, 0, 0, 0), (.aload_n 0, 0, 0, 0, 0), (.iload_n 3, 0, 0, 0, 0), (.iconst 1, 0, 0, 0, 1), (.iadd, 0, 0, 0, 0), (.iaload, 2, 0, 0, 0), (.aload_n 0, 0, 0, 0, 0), (.iload_n 3, 0, 0, 0, 0), (.iconst 2, 0, 0, 0, 2), (.iadd, 0, 0, 0, 0), (.iaload, 2, 0, 0, 0), (.aload_n 0, 0, 0, 0, 0), (.iload_n 3, 0, 0, 0, 0), (.iconst 3, 0, 0, 0, 3), (.iadd, 0, 0, 0, 0), (.iaload, 2, 0, 0, 0), (.invokevirtual 22, 104, 3, 11, 0), (.aload_n 2, 0, 0, 0, 0), (.aload_n 0, 0, 0, 0, 0), (.iload_n 3, 0, 0, 0, 0), (.iconst 1, 0, 0, 0, 1), (.iadd, 0, 0, 0, 0), (.iaload, 2, 0, 0, 0), (.aload_n 0, 0, 0, 0, 0), (.iload_n 3, 0, 0, 0, 0), (.iconst 2, 0, 0, 0, 2), (.iadd, 0, 0, 0, 0), (.iaload, 2, 0, 0, 0), (.aload_n 0, 0, 0, 0, 0), (.iload_n 3, 0, 0, 0, 0), (.iconst 3, 0, 0, 0, 3), (.iadd, 0, 0, 0, 0), (.iaload, 2, 0, 0, 0), (.invokevirtual 26, 164, 3, 12, 0), (.if_icmp .eq 841, 1193, 0, 0, 0), (.iconst 0, 0, 0, 0, 0), (.ireturn, 1, 0, 0, 0)]
  | 357 => [(.aload_n 1, 0, 0, 0, 0), (.aload_n 0, 0, 0, 0, 0), (.iload_n 3, 0, 0, 0, 0), (.iconst 1, 0, 0, 0, 1), (.iadd, 0, 0, 0, 0), (.iaload, 2, 0, 0, 0), (.aload_n 0, 0, 0, 0, 0), (.iload_n 3, 0, 0, 0, 0), (.iconst 2, 0, 0, 0, 2), (.iadd, 0, 0, 0, 0), (.iaload, 2, 0, 0, 0), (.invokevirtual 27, 105, 2, 11, 0), (.aload_n 2, 0, 0, 0, 0), (.aload_n 0, 0, 0, 0, 0), (.iload_n 3, 0, 0, 0, 0), (.iconst 1, 0, 0, 0, 1), (.iadd, 0, 0, 0, 0), (.iaload, 2, 0, 0, 0), (.aload_n 0, 0, 0, 0, 0), (.iload_n 3, 0, 0, 0, 0), (.iconst 2, 0, 0, 0, 2), (.iadd, 0, 0, 0, 0), (.iaload, 2, 0, 0, 0), (.invokevirtual 31, 165, 2, 12, 0), (.if_icmp .eq 808, 1193, 0, 0, 0), (.iconst 0, 0, 0, 0, 0), (.ireturn, 1, 0, 0, 0)]
  | 390 => [(.aload_n 1, 0, 0, 0, 0), (.aload_n 0, 0, 0, 0, 0), (.iload_n 3, 0, 0, 0, 0), (.iconst 1, 0, 0, 0, 1), (.iadd, 0, 0, 0, 0), (.iaload, 2, 0, 0, 0), (.aload_n 0, 0, 0, 0, 0), (.iload_n 3, 0, 0, 0, 0), (.iconst 2, 0, 0, 0, 2), (.iadd, 0, 0, 0, 0), (.iaload, 2, 0, 0, 0), (.invokevirtual 32, 106, 2, 11, 0), (.aload_n 2, 0, 0, 0, 0), (.aload_n 0, 0, 0, 0, 0), (.iload_n 3, 0, 0, 0, 0), (.iconst 1, 0, 0, 0, 1), (.iadd, 0, 0, 0, 0), (.iaload, 2, 0, 0, 0), (.aload_n 0, 0, 0, 0, 0), (.iload_n 3, 0, 0, 0, 0), (.iconst 2, 0, 0, 0, 2), (.iadd, 0, 0, 0, 0), (.iaload, 2, 0, 0, 0), (.invokevirtual 35, 166, 2, 12, 0), (.if_icmp .eq 775, 1193, 0, 0, 0), (.iconst 0, 0, 0, 0, 0), (.ireturn, 1, 0, 0, 0)]
  | 423 => [(.aload_n 1, 0, 0, 0, 0), (.aload_n 0, 0, 0, 0, 0), (.iload_n 3, 0, 0, 0, 0), (.iconst 1, 0, 0, 0, 1), (.iadd, 0, 0, 0, 0), (.iaload, 2, 0, 0, 0), (.aload_n 0, 0, 0, 0, 0), (.iload_n 3, 0, 0, 0, 0), (.iconst 2, 0, 0, 0, 2), (.iadd, 0, 0, 0, 0), (.iaload, 2, 0, 0, 0), (.aload_n 0, 0, 0, 0, 0), (.iload_n 3, 0, 0, 0, 0), (.iconst 3, 0, 0, 0, 3), (.iadd, 0, 0, 0, 0), (.iaload, 2, 0, 0, 0), (.aload_n 0, 0, 0, 0, 0), (.iload_n 3, 0, 0, 0, 0), (.iconst 4, 0, 0, 0, 4), (.iadd, 0, 0, 0, 0), (.iaload, 2, 0, 0, 0), (.aload_n 0, 0, 0, 0, 0), (.iload_n 3, 0, 0, 0, 0), (.iconst 5, 0, 0, 0, 5), (.iadd, 0, 0, 0, 0), (.iaload, 2, 0, 0, 0), (.invokevirtual 36, 107, 5, 11, 0), (.aload_n 2, 0, 0, 0, 0), (.aload_n 0, 0, 0, 0, 0), (.iload_n 3, 0, 0, 0, 0), (.iconst 1, 0, 0, 0, 1), (.iadd, 0, 0, 0, 0), (.iaload, 2, 0, 0, 0), (.aload_n 0, 0, 0, 0, 0), (.iload_n 3, 0, 0, 0, 0), (.iconst 2, 0, 0, 0, 2), (.iadd, 0, 0, 0, 0), (.iaload, 2, 0, 0, 0), (.aload_n 0, 0, 0, 0, 0), (.iload_n 3, 0, 0, 0, 0), (.iconst 3, 0, 0, 0, 3), (.iadd, 0, 0, 0, 0), (.iaload, 2, 0, 0, 0), (.aload_n 0, 0, 0, 0, 0), (.iload_n 3, 0, 0, 0, 0), (.iconst 4, 0, 0, 0, 4), (.iadd, 0, 0, 0, 0), (.iaload, 2, 0, 0, 0), (.aload_n 0, 0, 0, 0, 0), (.iload_n 3, 0, 0, 0, 0), (.iconst 5, 0, 0, 0, 5), (.iadd, 0, 0, 0, 0), (.iaload, 2, 0, 0, 0), (.invokevirtual 39, 169, 5, 12, 0), (.if_icmp .eq 712, 1193, 0, 0, 0), (.iconst 0, 0, 0, 0, 0), (.ireturn, 1, 0, 0, 0)]
  | 486 => [(.aload_n 1, 0, 0, 0, 0), (.aload_n 0, 0, 0, 0, 0), (.iload_n 3, 0, 0, 0, 0), (.iconst 1, 0, 0, 0, 1), (.iadd, 0, 0, 0, 0), (.iaload, 2, 0, 0, 0), (.invokevirtual 40, 108, 1, 11, 0), (.aload_n 2, 0, 0, 0, 0), (.aload_n 0, 0, 0, 0, 0), (.iload_n 3, 0, 0, 0, 0), (.iconst 1, 0, 0, 0, 1), (.iadd, 0, 0, 0, 0), (.iaload, 2, 0, 0, 0), (.invokevirtual 44, 170, 1, 12, 0), (.if_icmp .eq 689, 1193, 0, 0, 0), (.iconst 0, 0, 0, 0, 0), (.ireturn, 1, 0, 0, 0)]
  | 509 => [(.aload_n 1, 0, 0, 0, 0), (.invokevirtual 45, 109, 0, 11, 0), (.aload_n 2, 0, 0, 0, 0), (.invokevirtual 49, 167, 0, 12, 0), (.if_icmp .eq 676, 1193, 0, 0, 0), (.iconst 0, 0, 0, 0, 0), (.ireturn, 1, 0, 0, 0)]
  | 522 => [(.aload_n 1, 0, 0, 0, 0), (.invokevirtual 50, 110, 0, 11, 0), (.aload_n 2, 0, 0, 0, 0), (.invokevirtual 53, 168, 0, 12, 0), (.if_icmp .eq 663, 1193, 0, 0, 0), (.iconst 0, 0, 0, 0, 0), (.ireturn, 1, 0, 0, 0)]
  | 535 => [(.aload_n 1, 0, 0, 0, 0), (.invokevirtual 54, 111, 0, 11, 0), (.aload_n 2, 0, 0, 0, 0), (.invokevirtual 57, 189, 0, 12, 0), (.if_icmp .eq 650, 1193, 0, 0, 0), (.iconst 0, 0, 0, 0, 0), (.ireturn, 1, 0, 0, 0)]
  | 548 => [(.aload_n 1, 0, 0, 0, 0), (.invokevirtual 58, 112, 0, 11, 0), (.aload_n 2, 0, 0, 0, 0), (.invokevirtual 61, 190, 0, 12, 0), (.if_icmp .eq 637, 1193, 0, 0, 0), (.iconst 0, 0, 0, 0, 0), (.ireturn, 1, 0, 0, 0)]
  | 561 => [(.aload_n 1, 0, 0, 0, 0), (.aload_n 0, 0, 0, 0, 0), (.iload_n 3, 0, 0, 0, 0), (.iconst 1, 0, 0, 0, 1), (.iadd, 0, 0, 0, 0), (.iaload, 2, 0, 0, 0), (.invokevirtual 62, 113, 1, 11, 0), (.aload_n 2, 0, 0, 0, 0), (.aload_n 0, 0, 0, 0, 0), (.iload_n 3, 0, 0, 0, 0), (.iconst 1, 0, 0, 0, 1), (.iadd, 0, 0, 0, 0), (.iaload, 2, 0, 0, 0), (.invokevirtual 65, 191, 1, 12, 0), (.if_icmp .eq 614, 1193, 0, 0, 0), (.iconst 0, 0, 0, 0, 0), (.ireturn, 1, 0, 0, 0)]
  | 584 => [(.aload_n 1, 0, 0, 0, 0), (.aload_n 0, 0, 0, 0, 0), (.iload_n 3, 0, 0, 0, 0), (.iconst 1, 0, 0, 0, 1), (.iadd, 0, 0, 0, 0), (.iaload, 2, 0, 0, 0), (.aload_n 0, 0, 0, 0, 0), (.iload_n 3, 0, 0, 0, 0), (.iconst 2, 0, 0, 0, 2), (.iadd, 0, 0, 0, 0), (.iaload, 2, 0, 0, 0), (.invokevirtual 66, 114, 2, 11, 0), (.aload_n 2, 0, 0, 0, 0), (.aload_n 0, 0, 0, 0, 0), (.iload_n 3, 0, 0, 0, 0), (.iconst 1, 0, 0, 0, 1), (.iadd, 0, 0, 0, 0), (.iaload, 2, 0, 0, 0), (.aload_n 0, 0, 0, 0, 0), (.iload_n 3, 0, 0, 0, 0), (.iconst 2, 0, 0, 0, 2), (.iadd, 0, 0, 0, 0), (.iaload, 2, 0, 0, 0), (.invokevirtual 69, 208, 2, 12, 0), (.if_icmp .eq 581, 1193, 0, 0, 0), (.iconst 0, 0, 0, 0, 0), (.ireturn, 1, 0, 0, 0)]
  | 617 => [(.aload_n 1, 0, 0, 0, 0), (.aload_n 0, 0, 0, 0, 0), (.iload_n 3, 0, 0, 0, 0), (.iconst 1, 0, 0, 0, 1), (.iadd, 0, 0, 0, 0), (.iaload, 2, 0, 0, 0), (.aload_n 0, 0, 0, 0, 0), (.iload_n 3, 0, 0, 0, 0), (.iconst 2, 0, 0, 0, 2), (.iadd, 0, 0, 0, 0), (.iaload, 2, 0, 0, 0), (.invokevirtual 70, 115, 2, 11, 0), (.aload_n 2, 0, 0, 0, 0), (.aload_n 0, 0, 0, 0, 0), (.iload_n 3, 0, 0, 0, 0), (.iconst 1, 0, 0, 0, 1), (.iadd, 0, 0, 0, 0), (.iaload, 2, 0, 0, 0), (.aload_n 0, 0, 0, 0, 0), (.iload_n 3, 0, 0, 0, 0), (.iconst 2, 0, 0, 0, 2), (.iadd, 0, 0, 0, 0), (.iaload, 2, 0, 0, 0), (.invokevirtual 73, 209, 2, 12, 0), (.if_icmp .eq 548, 1193, 0, 0, 0), (.iconst 0, 0, 0, 0, 0), (.ireturn, 1, 0, 0, 0)]
  | 650 => [(.aload_n 1, 0, 0, 0, 0), (.invokevirtual 74, 116, 0, 11, 0), (.aload_n 2, 0, 0, 0, 0), (.invokevirtual 77, 210, 0, 12, 0), (.if_icmp .eq 535, 1193, 0, 0, 0), (.iconst 0, 0, 0, 0, 0), (.ireturn, 1, 0, 0, 0)]
  | 663 => [(.aload_n 1, 0, 0, 0, 0), (.invokevirtual 78, 117, 0, 11, 0), (.aload_n 2, 0, 0, 0, 0), (.invokevirtual 81, 211, 0, 12, 0), (.if_icmp .eq 522, 1193, 0, 0, 0), (.iconst 0, 0, 0, 0, 0), (.ireturn, 1, 0, 0, 0)]
  | 676 => [(.aload_n 1, 0, 0, 0, 0), (.aload_n 0, 0, 0, 0, 0), (.iload_n 3, 0, 0, 0, 0), (.iconst 1, 0, 0, 0, 1), (.iadd, 0, 0, 0, 0), (.iaload, 2, 0, 0, 0), (.invokevirtual 82, 118, 1, 11, 0), (.aload_n 2, 0, 0, 0, 0), (.aload_n 0, 0, 0, 0, 0), (.iload_n 3, 0, 0, 0, 0), (.iconst 1, 0, 0, 0, 1), (.iadd, 0, 0, 0, 0), (.iaload, 2, 0, 0, 0), (.invokevirtual 85, 212, 1, 12, 0), (.if_icmp .eq 499, 1193, 0, 0, 0), (.iconst 0, 0, 0, 0, 0), (.ireturn, 1, 0, 0, 0)]
  | 699 => [(.aload_n 1, 0, 0, 0, 0), (.aload_n 0, 0, 0, 0, 0), (.iload_n 3, 0, 0, 0, 0), (.iconst 1, 0, 0, 0, 1), (.iadd, 0, 0, 0, 0), (.iaload, 2, 0, 0, 0), (.aload_n 0, 0, 0, 0, 0), (.iload_n 3, 0, 0, 0, 0), (.iconst 2, 0, 0, 0, 2), (.iadd, 0, 0, 0, 0), (.iaload, 2, 0, 0, 0), (.invokevirtual 86, 119, 2, 11, 0), (.aload_n 2, 0, 0, 0, 0), (.aload_n 0, 0, 0, 0, 0), (.iload_n 3, 0, 0, 0, 0), (.iconst 1, 0, 0, 0, 1), (.iadd, 0, 0, 0, 0), (.iaload, 2, 0, 0, 0), (.aload_n 0, 0, 0, 0, 0), (.iload_n 3, 0, 0, 0, 0), (.iconst 2, 0, 0, 0, 2), (.iadd, 0, 0, 0, 0), (.iaload, 2, 0, 0, 0), (.invokevirtual 89, 215, 2, 12, 0), (.if_icmp .eq 466, 1193, 0, 0, 0), (.iconst 0, 0, 0, 0, 0), (.ireturn, 1, 0, 0, 0)]
  | 732 => [(.aload_n 1, 0, 0, 0, 0), (.aload_n 0, 0, 0, 0, 0), (.iload_n 3, 0, 0, 0, 0), (.iconst 1, 0, 0, 0, 1), (.iadd, 0, 0, 0, 0), (.iaload, 2, 0, 0, 0), (.aload_n 0, 0, 0, 0, 0), (.iload_n 3, 0, 0, 0, 0), (.iconst 2, 0, 0, 0, 2), (.iadd, 0, 0, 0, 0), (.iaload, 2, 0, 0, 0), (.invokevirtual 90, 120, 2, 11, 0), (.aload_n 2, 0, 0, 0, 0), (.aload_n 0, 0, 0, 0, 0), (.iload_n 3, 0, 0, 0, 0), (.iconst 1, 0, 0, 0, 1), (.iadd, 0, 0, 0, 0), (.iaload, 2, 0, 0, 0), (.aload_n 0, 0, 0, 0, 0), (.iload_n 3, 0, 0, 0, 0), (.iconst 2, 0, 0, 0, 2), (.iadd, 0, 0, 0, 0), (.iaload, 2, 0, 0, 0), (.invokevirtual 93, 216, 2, 12, 0), (.if_icmp .eq 433, 1193, 0, 0, 0), (.iconst 0, 0, 0, 0, 0), (.ireturn, 1, 0, 0, 0)]
  | 765 => [(.aload_n 1, 0, 0, 0, 0), (.aload_n 0, 0, 0, 0, 0), (.iload_n 3, 0, 0, 0, 0), (.iconst 1, 0, 0, 0, 1), (.iadd, 0, 0, 0, 0), (.iaload, 2, 0, 0, 0), (.invokevirtual 94, 121, 1, 11, 0), (.aload_n 2, 0, 0, 0, 0), (.aload_n 0, 0, 0, 0, 0), (.iload_n 3, 0, 0, 0, 0), (.iconst 1, 0, 0, 0, 1), (.iadd, 0, 0, 0, 0), (.iaload, 2, 0, 0, 0), (.invokevirtual 97, 217, 1, 12, 0), (.if_icmp .eq 410, 1193, 0, 0, 0), (.iconst 0, 0, 0, 0, 0), (.ireturn, 1, 0, 0, 0)]
  | 788 => [(.aload_n 1, 0, 0, 0, 0), (.aload_n 0, 0, 0, 0, 0), (.iload_n 3, 0, 0, 0, 0), (.iconst 1, 0, 0, 0, 1), (.iadd, 0, 0, 0, 0), (.iaload, 2, 0, 0, 0), (.aload_n 0, 0, 0, 0, 0), (.iload_n 3, 0, 0, 0, 0), (.iconst 2, 0, 0, 0, 2), (.iadd, 0, 0, 0, 0), (.iaload, 2, 0, 0, 0), (.invokevirtual 98, 122, 2, 11, 0), (.aload_n 2, 0, 0, 0, 0), (.aload_n 0, 0, 0, 0, 0), (.iload_n 3, 0, 0, 0, 0), (.iconst 1, 0, 0, 0, 1), (.iadd, 0, 0, 0, 0), (.iaload, 2, 0, 0, 0), (.aload_n 0, 0, 0, 0, 0), (.iload_n 3, 0, 0, 0, 0), (.iconst 2, 0, 0, 0, 2), (.iadd, 0, 0, 0, 0), (.iaload, 2, 0, 0, 0), (.invokevirtual 101, 218, 2, 12, 0), (.if_icmp .eq 377, 1193, 0, 0, 0), (.iconst 0, 0, 0, 0, 0), (.ireturn, 1, 0, 0, 0)]
  | 821 => [(.aload_n 1, 0, 0, 0, 0), (.aload_n 0, 0, 0, 0, 0), (.iload_n 3, 0, 0, 0, 0), (.iconst 1, 0, 0, 0, 1), (.iadd, 0, 0, 0, 0), (.iaload, 2, 0, 0, 0), (.invokevirtual 102, 123, 1, 11, 0), (.aload_n 2, 0, 0, 0, 0), (.aload_n 0, 0, 0, 0, 0), (.iload_n 3, 0, 0, 0, 0), (.iconst 1, 0, 0, 0, 1), (.iadd, 0, 0, 0, 0), (.iaload, 2, 0, 0, 0), (.invokevirtual 105, 223, 1, 12, 0), (.if_icmp .eq 354, 1193, 0, 0, 0), (.iconst 0, 0, 0, 0, 0), (.ireturn, 1, 0, 0, 0)]
  | 844 => [(.aload_n 1, 0, 0, 0, 0), (.aload_n 0, 0, 0, 0, 0), (.iload_n 3, 0, 0, 0, 0), (.iconst 1, 0, 0, 0, 1), (.iadd, 0, 0, 0, 0), (.iaload, 2, 0, 0, 0), (.invokevirtual 106, 124, 1, 11, 0), (.aload_n 2, 0, 0, 0, 0), (.aload_n 0, 0, 0, 0, 0), (.iload_n 3, 0, 0, 0, 0), (.iconst 1, 0, 0, 0, 1), (.iadd, 0, 0, 0, 0), (.iaload, 2, 0, 0, 0), (.invokevirtual 109, 224, 1, 12, 0), (.if_icmp .eq 331, 1193, 0, 0, 0), (.iconst 0, 0, 0, 0, 0), (.ireturn, 1, 0, 0, 0)]
  | 867 => [(.aload_n 1, 0, 0, 0, 0), (.aload_n 0, 0, 0, 0, 0), (.iload_n 3, 0, 0, 0, 0), (.iconst 1, 0, 0, 0, 1), (.iadd, 0, 0, 0, 0), (.iaload, 2, 0, 0, 0), (.invokevirtual 110, 125, 1, 11, 0), (.aload_n 2, 0, 0, 0, 0), (.aload_n 0, 0, 0, 0, 0), (.iload_n 3, 0, 0, 0, 0), (.iconst 1, 0, 0, 0, 1), (.iadd, 0, 0, 0, 0), (.iaload, 2, 0, 0, 0), (.invokevirtual 113, 225, 1, 12, 0), (.if_icmp .eq 308, 1193, 0, 0, 0), (.iconst 0, 0, 0, 0, 0), (.ireturn, 1, 0, 0, 0)]
  | 890 => [(.aload_n 1, 0, 0, 0, 0), (.aload_n 0, 0, 0, 0, 0), (.iload_n 3, 0, 0, 0, 0), (.iconst 1, 0, 0, 0, 1), (.iadd, 0, 0, 0, 0), (.iaload, 2, 0, 0, 0), (.invokevirtual 114, 126, 1, 11, 0), (.aload_n 2, 0, 0, 0, 0), (.aload_n 0, 0, 0, 0, 0), (.iload_n 3, 0, 0, 0, 0), (.iconst 1, 0, 0, 0, 1), (.iadd, 0, 0, 0, 0), (.iaload, 2, 0, 0, 0), (.invokevirtual 117, 226, 1, 12, 0), (.if_icmp .eq 285, 1193, 0, 0, 0), (.iconst 0, 0, 0, 0, 0), (.ireturn, 1, 0, 0, 0)]
  | 913 => [(.aload_n 1, 0, 0, 0, 0), (.aload_n 0, 0, 0, 0, 0), (.iload_n 3, 0, 0, 0, 0), (.iconst 1, 0, 0, 0, 1), (.iadd, 0, 0, 0, 0), (.iaload, 2, 0, 0, 0), (.aload_n 0, 0, 0, 0, 0), (.iload_n 3, 0, 0, 0, 0), (.iconst 2, 0, 0, 0, 2), (.iadd, 0, 0, 0, 0), (.iaload, 2, 0, 0, 0), (.aload_n 0, 0, 0, 0, 0), (.iload_n 3, 0, 0, 0, 0), (.iconst 3, 0, 0, 0, 3), (.iadd, 0, 0, 0, 0), (.iaload, 2, 0, 0, 0), (.aload_n 0, 0, 0, 0, 0), (.iload_n 3, 0, 0, 0, 0), (.iconst 4, 0, 0, 0, 4), (.iadd, 0, 0, 0, 0), (.iaload, 2, 0, 0, 0), (.aload_n 0, 0, 0, 0, 0), (.iload_n 3, 0, 0, 0, 0), (.iconst 5, 0, 0, 0, 5), (.iadd, 0, 0, 0, 0), (.iaload, 2, 0, 0, 0), (.invokevirtual 118, 127, 5, 11, 0), (.aload_n 2, 0, 0, 0, 0), (.aload_n 0, 0, 0, 0, 0), (.iload_n 3, 0, 0, 0, 0), (.iconst 1, 0, 0, 0, 1), (.iadd, 0, 0, 0, 0), (.iaload, 2, 0, 0, 0), (.aload_n 0, 0, 0, 0, 0), (.iload_n 3, 0, 0, 0, 0), (.iconst 2, 0, 0, 0, 2), (.iadd, 0, 0, 0, 0), (.iaload, 2, 0, 0, 0), (.aload_n 0, 0, 0, 0, 0), (.iload_n 3, 0, 0, 0, 0), (.iconst 3, 0, 0, 0, 3), (.iadd, 0, 0, 0, 0), (.iaload, 2, 0, 0, 0), (.aload_n 0, 0, 0, 0, 0), (.iload_n 3, 0, 0, 0, 0), (.iconst 4, 0, 0, 0, 4), (.iadd, 0, 0, 0, 0), (.iaload, 2, 0, 0, 0), (.aload_n 0, 0, 0, 0, 0), (.iload_n 3, 0, 0, 0, 0), (.iconst 5, 0, 0, 0, 5), (.iadd, 0, 0, 0, 0), (.iaload, 2, 0, 0, 0), (.invokevirtual 121, 227, 5, 12, 0), (.if_icmp .eq 222, 1193, 0, 0, 0), (.iconst 0, 0, 0, 0, 0), (.ireturn, 1, 0, 0, 0)]
  | 976 => [(.aload_n 1, 0, 0, 0, 0), (.aload_n 0, 0, 0, 0, 0), (.iload_n 3, 0, 0, 0, 0), (.iconst 1, 0, 0, 0, 1), (.iadd, 0, 0, 0, 0), (.iaload, 2, 0, 0, 0), (.invokevirtual 122, 128, 1, 11, 0), (.aload_n 2, 0, 0, 0, 0), (.aload_n 0, 0, 0, 0, 0), (.iload_n 3, 0, 0, 0, 0), (.iconst 1, 0, 0, 0, 1), (.iadd, 0, 0, 0, 0), (.iaload, 2, 0, 0, 0), (.invokevirtual 125, 228, 1, 12, 0), (.if_icmp .eq 199, 1193, 0, 0, 0), (.iconst 0, 0, 0, 0, 0), (.ireturn, 1, 0, 0, 0)]
  | 999 => [(.aload_n 1, 0, 0, 0, 0), (.aload_n 0, 0, 0, 0, 0), (.iload_n 3, 0, 0, 0, 0), (.iconst 1, 0, 0, 0, 1), (.iadd, 0, 0, 0, 0), (.iaload, 2, 0, 0, 0), (.invokevirtual 126, 129, 1, 11, 0), (.aload_n 2, 0, 0, 0, 0), (.aload_n 0, 0, 0, 0, 0), (.iload_n 3, 0, 0, 0, 0), (.iconst 1, 0, 0, 0, 1), (.iadd, 0, 0, 0, 0), (.iaload, 2, 0, 0, 0), (.invokevirtual 129, 229, 1, 12, 0), (.if_icmp .eq 176, 1193, 0, 0, 0), (.iconst 0, 0, 0, 0, 0), (.ireturn, 1, 0, 0, 0)]
  | 1022 => [(.aload_n 1, 0, 0, 0, 0), (.aload_n 0, 0, 0, 0, 0), (.iload_n 3, 0, 0, 0, 0), (.iconst 1, 0, 0, 0, 1), (.iadd, 0, 0, 0, 0), (.iaload, 2, 0, 0, 0), (.aload_n 0, 0, 0, 0, 0), (.iload_n 3, 0, 0, 0, 0), (.iconst 2, 0, 0, 0, 2), (.iadd, 0, 0, 0, 0), (.iaload, 2, 0, 0, 0), (.invokevirtual 130, 130, 2, 11, 0), (.aload_n 2, 0, 0, 0, 0), (.aload_n 0, 0, 0, 0, 0), (.iload_n 3, 0, 0, 0, 0), (.iconst 1, 0, 0, 0, 1), (.iadd, 0, 0, 0, 0), (.iaload, 2, 0, 0, 0), (.aload_n 0, 0, 0, 0, 0), (.iload_n 3, 0, 0, 0, 0), (.iconst 2, 0, 0, 0, 2), (.iadd, 0, 0, 0, 0), (.iaload, 2, 0, 0, 0), (.invokevirtual 133, 230, 2, 12, 0), (.if_icmp .eq 143, 1193, 0, 0, 0), (.iconst 0, 0, 0, 0, 0), (.ireturn, 1, 0, 0, 0)]
  | 1055 => [(.aload_n 1, 0, 0, 0, 0), (.aload_n 0, 0, 0, 0, 0), (.iload_n 3, 0, 0, 0, 0), (.iconst 1, 0, 0, 0, 1), (.iadd, 0, 0, 0, 0), (.iaload, 2, 0, 0, 0), (.aload_n 0, 0, 0, 0, 0), (.iload_n 3, 0, 0, 0, 0), (.iconst 2, 0, 0, 0, 2), (.iadd, 0, 0, 0, 0), (.iaload, 2, 0, 0, 0), (.invokevirtual 134, 131, 2, 11, 0), (.aload_n 2, 0, 0, 0, 0), (.aload_n 0, 0, 0, 0, 0), (.iload_n 3, 0, 0, 0, 0), (.iconst 1, 0, 0, 0, 1), (.iadd, 0, 0, 0, 0), (.iaload, 2, 0, 0, 0), (.aload_n 0, 0, 0, 0, 0), (.iload_n 3, 0, 0, 0, 0), (.iconst 2, 0, 0, 0, 2), (.iadd, 0, 0, 0, 0), (.iaload, 2, 0, 0, 0), (.invokevirtual 137, 232, 2, 12, 0), (.if_icmp .eq 110, 1193, 0, 0, 0), (.iconst 0, 0, 0, 0, 0), (.ireturn, 1, 0, 0, 0)]
  | 1088 => [(.aload_n 1, 0, 0, 0, 0), (.aload_n 0, 0, 0, 0, 0), (.iload_n 3, 0, 0, 0, 0), (.iconst 1, 0, 0, 0, 1), (.iadd, 0, 0, 0, 0), (.iaload, 2, 0, 0, 0), (.invokevirtual 138, 132, 1, 11, 0), (.aload_n 2, 0, 0, 0, 0), (.aload_n 0, 0, 0, 0, 0), (.iload_n 3, 0, 0, 0, 0), (.iconst 1, 0, 0, 0, 1), (.iadd, 0, 0, 0, 0), (.iaload, 2, 0, 0, 0), (.invokevirtual 141, 233, 1, 12, 0), (.if_icmp .eq 87, 1193, 0, 0, 0), (.iconst 0, 0, 0, 0, 0), (.ireturn, 1, 0, 0, 0)]
  | 1111 => [(.aload_n 1, 0, 0, 0, 0), (.aload_n 0, 0, 0, 0, 0), (.iload_n 3, 0, 0, 0, 0), (.iconst 1, 0, 0, 0, 1), (.iadd, 0, 0, 0, 0), (.iaload, 2, 0, 0, 0), (.invokevirtual 142, 133, 1, 11, 0), (.aload_n 2, 0, 0, 0, 0), (.aload_n 0, 0, 0, 0, 0), (.iload_n 3, 0, 0, 0, 0), (.iconst 1, 0, 0, 0, 1), (.iadd, 0, 0, 0, 0), (.iaload, 2, 0, 0, 0), (.invokevirtual 145, 150, 1, 12, 0), (.if_icmp .eq 64, 1193, 0, 0, 0), (.iconst 0, 0, 0, 0, 0), (.ireturn, 1, 0, 0, 0)]
  | 1134 => [(.aload_n 1, 0, 0, 0, 0), (.aload_n 0, 0, 0, 0, 0), (.iload_n 3, 0, 0, 0, 0), (.iconst 1, 0, 0, 0, 1), (.iadd, 0, 0, 0, 0), (.iaload, 2, 0, 0, 0), (.invokevirtual 146, 134, 1, 11, 0), (.aload_n 2, 0, 0, 0, 0), (.aload_n 0, 0, 0, 0, 0), (.iload_n 3, 0, 0, 0, 0), (.iconst 1, 0, 0, 0, 1), (.iadd, 0, 0, 0, 0), (.iaload, 2, 0, 0, 0), (.invokevirtual 149, 151, 1, 12, 0), (.if_icmp .eq 41, 1193, 0, 0, 0), (.iconst 0, 0, 0, 0, 0), (.ireturn, 1, 0, 0, 0)]
  | 1157 => [(.aload_n 1, 0, 0, 0, 0), (.aload_n 0, 0, 0, 0, 0), (.iload_n 3, 0, 0, 0, 0), (.iconst 1, 0, 0, 0, 1), (.iadd, 0, 0, 0, 0), (.iaload, 2, 0, 0, 0), (.invokevirtual 150, 135, 1, 11, 0), (.aload_n 2, 0, 0, 0, 0), (.aload_n 0, 0, 0, 0, 0), (.iload_n 3, 0, 0, 0, 0), (.iconst 1, 0, 0, 0, 1), (.iadd, 0, 0, 0, 0), (.iaload, 2, 0, 0, 0), (.invokevirtual 153, 234, 1, 12, 0), (.if_icmp .eq 18, 1193, 0, 0, 0), (.iconst 0, 0, 0, 0, 0), (.ireturn, 1, 0, 0, 0)]
  | 1180 => [(.aload_n 1, 0, 0, 0, 0), (.invokevirtual 154, 136, 0, 11, 0), (.aload_n 2, 0, 0, 0, 0), (.invokevirtual 157, 235, 0, 12, 0), (.if_icmp .eq 5, 1193, 0, 0, 0), (.iconst 0, 0, 0, 0, 0), (.ireturn, 1, 0, 0, 0)]
  | 1193 => [(.iinc 3 6, 0, 0, 0, 6), (.goto (-1178), 18, 0, 0, 0)]
  | 1199 => [(.iconst 1, 0, 0, 0, 1), (.ireturn, 1, 0, 0, 0)]
  | _ => []
theorem kL_law (pc : Nat) : chk 252 (bL_law pc) pc = true := by
  unfold bL_law; split
  · decide +kernel
  · decide +kernel
  · decide +kernel
  · decide +kernel
  · decide +kernel
  · decide +kernel
  · decide +kernel
  · decide +kernel
  · decide +kernel
  · decide +kernel
  · decide +kernel
  · decide +kernel
  · decide +kernel
  · decide +kernel
  · decide +kernel
  · decide +kernel
  · decide +kernel
  · decide +kernel
  · decide +kernel
  · decide +kernel
  · decide +kernel
  · decide +kernel
  · decide +kernel
  · decide +kernel
  · decide +kernel
  · decide +kernel
  · decide +kernel
  · decide +kernel
  · decide +kernel
  · decide +kernel
  · decide +kernel
  · decide +kernel
  · decide +kernel
  · decide +kernel
  · decide +kernel
  · decide +kernel
  · decide +kernel
  · decide +kernel
  · decide +kernel
  · rfl
end
section
/-! how a method begins: its contract out of its first stretch; s.. from the start, e.. at a place -/
def tb_mx : List Nat := [1, 9, 5, 5, 11, 8, 3, 1, 1, 1, 3, 2, 1, 4, 9, 3, 2, 2, 2, 3, 3, 4, 5, 6, 6, 7, 8, 6, 2, 2, 2, 1, 1, 5, 2, 2, 5, 2, 5, 5, 4, 4, 5, 5, 4, 5, 1, 3, 2, 1, 3, 3, 2, 1, 1, 7, 2, 5, 2, 8, 1, 2, 2, 2, 5, 5, 1, 3, 2, 3, 1, 3, 1, 4, 4, 1, 5, 8, 5, 2, 4, 3, 5, 4, 1, 3, 7, 7, 7, 5, 3, 2, 4, 3, 1, 2, 2, 1, 6, 6, 4, 1, 7, 7, 5, 3, 3, 6, 2, 3, 1, 3, 1, 3, 4, 3, 3, 1, 3, 5, 3, 3, 6, 2, 2, 2, 2, 8, 2, 2, 3, 3, 2, 2, 2, 2, 1, 3, 2, 8, 7, 1, 3, 2, 3, 2, 2, 2, 3, 1, 3, 3, 1, 1, 2, 3, 2, 4, 5, 7, 8, 7, 6, 7, 5, 3, 4, 5, 1, 7, 2, 1, 1, 8, 6, 1, 1, 3, 2, 1, 1, 1, 2, 2, 4, 2, 2, 3, 2, 3, 1, 3, 2, 3, 4, 7, 7, 4, 4, 4, 3, 7, 7, 6, 3, 3, 4, 3, 4, 4, 3, 1, 3, 2, 4, 6, 5, 3, 6, 5, 3, 4, 2, 2, 2, 6, 5, 9, 6, 6, 11, 2, 8, 2, 2, 1, 1, 2, 4, 2, 4, 1, 2, 1, 1, 2, 2, 2, 1, 2, 2, 3, 4]
def mx_f (j : Nat) : Bool := mmax j == tb_mx.getD j 0
theorem mx_ok_0 : ((rg 0).all mx_f) = true := by decide +kernel
theorem mx_ok_1 : ((rg 1).all mx_f) = true := by decide +kernel
theorem mx_ok_2 : ((rg 2).all mx_f) = true := by decide +kernel
theorem mx_ok_3 : ((rg 3).all mx_f) = true := by decide +kernel
theorem mx_ok_4 : ((rg 4).all mx_f) = true := by decide +kernel
theorem mx_ok_5 : ((rg 5).all mx_f) = true := by decide +kernel
theorem mx_ok_6 : ((rg 6).all mx_f) = true := by decide +kernel
theorem mx_ok_7 : ((rg 7).all mx_f) = true := by decide +kernel
theorem mx_ok_8 : ((rg 8).all mx_f) = true := by decide +kernel
theorem mx_ok {k : Nat} (hk : k < 252) : mmax k = tb_mx.getD k 0 := by
  have key : ∀ i, ((rg i).all mx_f) = true → k / 28 = i → mx_f k = true := fun i hi e => List.all_eq_true.mp hi k (rg_mem e)
  have q : mx_f k = true := by
    by_cases c0 : k / 28 = 0
    · exact key _ mx_ok_0 c0
    by_cases c1 : k / 28 = 1
    · exact key _ mx_ok_1 c1
    by_cases c2 : k / 28 = 2
    · exact key _ mx_ok_2 c2
    by_cases c3 : k / 28 = 3
    · exact key _ mx_ok_3 c3
    by_cases c4 : k / 28 = 4
    · exact key _ mx_ok_4 c4
    by_cases c5 : k / 28 = 5
    · exact key _ mx_ok_5 c5
    by_cases c6 : k / 28 = 6
    · exact key _ mx_ok_6 c6
    by_cases c7 : k / 28 = 7
    · exact key _ mx_ok_7 c7
    by_cases c8 : k / 28 = 8
    · exact key _ mx_ok_8 c8
    omega
  simpa [mx_f] using q
def padN : Nat → Lc → Lc
  | 0, l => l
  | n + 1, [] => none :: padN n []
  | n + 1, x :: t => x :: padN n t
theorem lnth_pad : ∀ (n : Nat) (l : Lc) (i : Nat) (v : Value), lnth (padN n l) i = some v → lnth l i = some v
  | 0, l, i, v, h => h
  | n + 1, [], 0, v, h => by simp [padN, lnth] at h
  | n + 1, [], i + 1, v, h => by
    have := lnth_pad n [] i v (by simpa [padN, lnth] using h)
    simp [lnth] at this
  | n + 1, x :: t, 0, v, h => by simpa [padN, lnth] using h
  | n + 1, x :: t, i + 1, v, h => by
    have := lnth_pad n t i v (by simpa [padN, lnth] using h)
    simpa [lnth] using this
theorem e_pad {cx : Cx} {j d a pc : Nat} {loc : Lc} {st : List Value} {h : Hp} {Q : Option Value → Hp → Prop} (n : Nat) (k : E cx j d a pc (padN n loc) st h Q) : E cx j d a pc loc st h Q := by
  intro p l e s m args below meth c h0 ad0 ad ls H locs nc ns mc ms hc h1 h2
  exact k p l e s m args below meth c h0 ad0 ad ls H locs nc ns mc ms ⟨hc.1, hc.2.1, hc.2.2.1, hc.2.2.2.1, hc.2.2.2.2.1, fun i v hv => hc.2.2.2.2.2 i v (lnth_pad n _ _ _ hv)⟩ h1 h2
theorem m_go {cx : Cx} {j d a : Nat} {h : Hp} {Q : Option Value → Hp → Prop} {vs : List Value} (hj : j < 252) (hc : mcn j < 13) (hn : Nat.ble (lent vs).length (tb_mx.getD j 0) = true) (k : E cx j d a 0 (lent vs) [] h Q) : M cx j d a vs h Q :=
  m_of (use_mk hj hc) (by rw [mx_ok hj]; exact Nat.le_of_ble_eq_true hn) k
section ST
variable {cx : Cx} {d a pc : Nat} {loc : Lc} {st : List Value} {h : Hp} {Q : Option Value → Hp → Prop} {vs : List Value}
abbrev jX0_need : Nat := 1
theorem eX0_need (k : wp cx 1 d Q (bX0_need pc) pc a loc st h) : E cx 1 d a pc loc st h Q := wp_ok _ _ _ _ _ _ (kX0_need pc) k
theorem sX0_need (hn : Nat.ble (lent vs).length 9 = true) (k : wp cx 1 d Q (bX0_need 0) 0 a (padN 9 (lent vs)) [] h) : M cx 1 d a vs h Q := m_go (by decide) (by decide) hn (e_pad 9 (eX0_need k))
abbrev jX0_isBound : Nat := 2
theorem eX0_isBound (k : wp cx 2 d Q (bX0_isBound pc) pc a loc st h) : E cx 2 d a pc loc st h Q := wp_ok _ _ _ _ _ _ (kX0_isBound pc) k
theorem sX0_isBound (hn : Nat.ble (lent vs).length 5 = true) (k : wp cx 2 d Q (bX0_isBound 0) 0 a (padN 5 (lent vs)) [] h) : M cx 2 d a vs h Q := m_go (by decide) (by decide) hn (e_pad 5 (eX0_isBound k))
abbrev jX0_isSo : Nat := 3
theorem eX0_isSo (k : wp cx 3 d Q (bX0_isSo pc) pc a loc st h) : E cx 3 d a pc loc st h Q := wp_ok _ _ _ _ _ _ (kX0_isSo pc) k
theorem sX0_isSo (hn : Nat.ble (lent vs).length 5 = true) (k : wp cx 3 d Q (bX0_isSo 0) 0 a (padN 5 (lent vs)) [] h) : M cx 3 d a vs h Q := m_go (by decide) (by decide) hn (e_pad 5 (eX0_isSo k))
abbrev jX0_value : Nat := 4
theorem eX0_value (k : wp cx 4 d Q (bX0_value pc) pc a loc st h) : E cx 4 d a pc loc st h Q := wp_ok _ _ _ _ _ _ (kX0_value pc) k
theorem sX0_value (hn : Nat.ble (lent vs).length 11 = true) (k : wp cx 4 d Q (bX0_value 0) 0 a (padN 11 (lent vs)) [] h) : M cx 4 d a vs h Q := m_go (by decide) (by decide) hn (e_pad 11 (eX0_value k))
abbrev jX0_joined : Nat := 5
theorem eX0_joined (k : wp cx 5 d Q (bX0_joined pc) pc a loc st h) : E cx 5 d a pc loc st h Q := wp_ok _ _ _ _ _ _ (kX0_joined pc) k
theorem sX0_joined (hn : Nat.ble (lent vs).length 8 = true) (k : wp cx 5 d Q (bX0_joined 0) 0 a (padN 8 (lent vs)) [] h) : M cx 5 d a vs h Q := m_go (by decide) (by decide) hn (e_pad 8 (eX0_joined k))
abbrev jX0_push : Nat := 6
theorem eX0_push (k : wp cx 6 d Q (bX0_push pc) pc a loc st h) : E cx 6 d a pc loc st h Q := wp_ok _ _ _ _ _ _ (kX0_push pc) k
theorem sX0_push (hn : Nat.ble (lent vs).length 3 = true) (k : wp cx 6 d Q (bX0_push 0) 0 a (padN 3 (lent vs)) [] h) : M cx 6 d a vs h Q := m_go (by decide) (by decide) hn (e_pad 3 (eX0_push k))
abbrev jX0_pop : Nat := 7
theorem eX0_pop (k : wp cx 7 d Q (bX0_pop pc) pc a loc st h) : E cx 7 d a pc loc st h Q := wp_ok _ _ _ _ _ _ (kX0_pop pc) k
theorem sX0_pop (hn : Nat.ble (lent vs).length 1 = true) (k : wp cx 7 d Q (bX0_pop 0) 0 a (padN 1 (lent vs)) [] h) : M cx 7 d a vs h Q := m_go (by decide) (by decide) hn (e_pad 1 (eX0_pop k))
abbrev jX1_clear : Nat := 9
theorem eX1_clear (k : wp cx 9 d Q (bX1_clear pc) pc a loc st h) : E cx 9 d a pc loc st h Q := wp_ok _ _ _ _ _ _ (kX1_clear pc) k
theorem sX1_clear (hn : Nat.ble (lent vs).length 1 = true) (k : wp cx 9 d Q (bX1_clear 0) 0 a (padN 1 (lent vs)) [] h) : M cx 9 d a vs h Q := m_go (by decide) (by decide) hn (e_pad 1 (eX1_clear k))
abbrev jX1_offer : Nat := 10
theorem eX1_offer (k : wp cx 10 d Q (bX1_offer pc) pc a loc st h) : E cx 10 d a pc loc st h Q := wp_ok _ _ _ _ _ _ (kX1_offer pc) k
theorem sX1_offer (hn : Nat.ble (lent vs).length 3 = true) (k : wp cx 10 d Q (bX1_offer 0) 0 a (padN 3 (lent vs)) [] h) : M cx 10 d a vs h Q := m_go (by decide) (by decide) hn (e_pad 3 (eX1_offer k))
abbrev jX1_told : Nat := 11
theorem eX1_told (k : wp cx 11 d Q (bX1_told pc) pc a loc st h) : E cx 11 d a pc loc st h Q := wp_ok _ _ _ _ _ _ (kX1_told pc) k
theorem sX1_told (hn : Nat.ble (lent vs).length 2 = true) (k : wp cx 11 d Q (bX1_told 0) 0 a (padN 2 (lent vs)) [] h) : M cx 11 d a vs h Q := m_go (by decide) (by decide) hn (e_pad 2 (eX1_told k))
abbrev jX2_renew : Nat := 13
theorem eX2_renew (k : wp cx 13 d Q (bX2_renew pc) pc a loc st h) : E cx 13 d a pc loc st h Q := wp_ok _ _ _ _ _ _ (kX2_renew pc) k
theorem sX2_renew (hn : Nat.ble (lent vs).length 4 = true) (k : wp cx 13 d Q (bX2_renew 0) 0 a (padN 4 (lent vs)) [] h) : M cx 13 d a vs h Q := m_go (by decide) (by decide) hn (e_pad 4 (eX2_renew k))
abbrev jX2_neighbours : Nat := 14
theorem eX2_neighbours (k : wp cx 14 d Q (bX2_neighbours pc) pc a loc st h) : E cx 14 d a pc loc st h Q := wp_ok _ _ _ _ _ _ (kX2_neighbours pc) k
theorem sX2_neighbours (hn : Nat.ble (lent vs).length 9 = true) (k : wp cx 14 d Q (bX2_neighbours 0) 0 a (padN 9 (lent vs)) [] h) : M cx 14 d a vs h Q := m_go (by decide) (by decide) hn (e_pad 9 (eX2_neighbours k))
abbrev jX2_heldOf : Nat := 15
theorem eX2_heldOf (k : wp cx 15 d Q (bX2_heldOf pc) pc a loc st h) : E cx 15 d a pc loc st h Q := wp_ok _ _ _ _ _ _ (kX2_heldOf pc) k
theorem sX2_heldOf (hn : Nat.ble (lent vs).length 3 = true) (k : wp cx 15 d Q (bX2_heldOf 0) 0 a (padN 3 (lent vs)) [] h) : M cx 15 d a vs h Q := m_go (by decide) (by decide) hn (e_pad 3 (eX2_heldOf k))
abbrev jX2_needOf : Nat := 16
theorem eX2_needOf (k : wp cx 16 d Q (bX2_needOf pc) pc a loc st h) : E cx 16 d a pc loc st h Q := wp_ok _ _ _ _ _ _ (kX2_needOf pc) k
theorem sX2_needOf (hn : Nat.ble (lent vs).length 2 = true) (k : wp cx 16 d Q (bX2_needOf 0) 0 a (padN 2 (lent vs)) [] h) : M cx 16 d a vs h Q := m_go (by decide) (by decide) hn (e_pad 2 (eX2_needOf k))
abbrev jX2_besideOf : Nat := 17
theorem eX2_besideOf (k : wp cx 17 d Q (bX2_besideOf pc) pc a loc st h) : E cx 17 d a pc loc st h Q := wp_ok _ _ _ _ _ _ (kX2_besideOf pc) k
theorem sX2_besideOf (hn : Nat.ble (lent vs).length 2 = true) (k : wp cx 17 d Q (bX2_besideOf 0) 0 a (padN 2 (lent vs)) [] h) : M cx 17 d a vs h Q := m_go (by decide) (by decide) hn (e_pad 2 (eX2_besideOf k))
abbrev jX2_isBound : Nat := 18
theorem eX2_isBound (k : wp cx 18 d Q (bX2_isBound pc) pc a loc st h) : E cx 18 d a pc loc st h Q := wp_ok _ _ _ _ _ _ (kX2_isBound pc) k
theorem sX2_isBound (hn : Nat.ble (lent vs).length 2 = true) (k : wp cx 18 d Q (bX2_isBound 0) 0 a (padN 2 (lent vs)) [] h) : M cx 18 d a vs h Q := m_go (by decide) (by decide) hn (e_pad 2 (eX2_isBound k))
abbrev jX2_touchesOf : Nat := 19
theorem eX2_touchesOf (k : wp cx 19 d Q (bX2_touchesOf pc) pc a loc st h) : E cx 19 d a pc loc st h Q := wp_ok _ _ _ _ _ _ (kX2_touchesOf pc) k
theorem sX2_touchesOf (hn : Nat.ble (lent vs).length 3 = true) (k : wp cx 19 d Q (bX2_touchesOf 0) 0 a (padN 3 (lent vs)) [] h) : M cx 19 d a vs h Q := m_go (by decide) (by decide) hn (e_pad 3 (eX2_touchesOf k))
abbrev jX2_isLawful : Nat := 20
theorem eX2_isLawful (k : wp cx 20 d Q (bX2_isLawful pc) pc a loc st h) : E cx 20 d a pc loc st h Q := wp_ok _ _ _ _ _ _ (kX2_isLawful pc) k
theorem sX2_isLawful (hn : Nat.ble (lent vs).length 3 = true) (k : wp cx 20 d Q (bX2_isLawful 0) 0 a (padN 3 (lent vs)) [] h) : M cx 20 d a vs h Q := m_go (by decide) (by decide) hn (e_pad 3 (eX2_isLawful k))
abbrev jX2_unsteady : Nat := 21
theorem eX2_unsteady (k : wp cx 21 d Q (bX2_unsteady pc) pc a loc st h) : E cx 21 d a pc loc st h Q := wp_ok _ _ _ _ _ _ (kX2_unsteady pc) k
theorem sX2_unsteady (hn : Nat.ble (lent vs).length 4 = true) (k : wp cx 21 d Q (bX2_unsteady 0) 0 a (padN 4 (lent vs)) [] h) : M cx 21 d a vs h Q := m_go (by decide) (by decide) hn (e_pad 4 (eX2_unsteady k))
abbrev jX2_settled : Nat := 22
theorem eX2_settled (k : wp cx 22 d Q (bX2_settled pc) pc a loc st h) : E cx 22 d a pc loc st h Q := wp_ok _ _ _ _ _ _ (kX2_settled pc) k
theorem sX2_settled (hn : Nat.ble (lent vs).length 5 = true) (k : wp cx 22 d Q (bX2_settled 0) 0 a (padN 5 (lent vs)) [] h) : M cx 22 d a vs h Q := m_go (by decide) (by decide) hn (e_pad 5 (eX2_settled k))
abbrev jX2_rounds : Nat := 23
theorem eX2_rounds (k : wp cx 23 d Q (bX2_rounds pc) pc a loc st h) : E cx 23 d a pc loc st h Q := wp_ok _ _ _ _ _ _ (kX2_rounds pc) k
theorem sX2_rounds (hn : Nat.ble (lent vs).length 6 = true) (k : wp cx 23 d Q (bX2_rounds 0) 0 a (padN 6 (lent vs)) [] h) : M cx 23 d a vs h Q := m_go (by decide) (by decide) hn (e_pad 6 (eX2_rounds k))
abbrev jX2_roundOf : Nat := 24
theorem eX2_roundOf (k : wp cx 24 d Q (bX2_roundOf pc) pc a loc st h) : E cx 24 d a pc loc st h Q := wp_ok _ _ _ _ _ _ (kX2_roundOf pc) k
theorem sX2_roundOf (hn : Nat.ble (lent vs).length 6 = true) (k : wp cx 24 d Q (bX2_roundOf 0) 0 a (padN 6 (lent vs)) [] h) : M cx 24 d a vs h Q := m_go (by decide) (by decide) hn (e_pad 6 (eX2_roundOf k))
abbrev jX2_singles : Nat := 25
theorem eX2_singles (k : wp cx 25 d Q (bX2_singles pc) pc a loc st h) : E cx 25 d a pc loc st h Q := wp_ok _ _ _ _ _ _ (kX2_singles pc) k
theorem sX2_singles (hn : Nat.ble (lent vs).length 7 = true) (k : wp cx 25 d Q (bX2_singles 0) 0 a (padN 7 (lent vs)) [] h) : M cx 25 d a vs h Q := m_go (by decide) (by decide) hn (e_pad 7 (eX2_singles k))
abbrev jX2_pairs : Nat := 26
theorem eX2_pairs (k : wp cx 26 d Q (bX2_pairs pc) pc a loc st h) : E cx 26 d a pc loc st h Q := wp_ok _ _ _ _ _ _ (kX2_pairs pc) k
theorem sX2_pairs (hn : Nat.ble (lent vs).length 8 = true) (k : wp cx 26 d Q (bX2_pairs 0) 0 a (padN 8 (lent vs)) [] h) : M cx 26 d a vs h Q := m_go (by decide) (by decide) hn (e_pad 8 (eX2_pairs k))
abbrev jX3_stepAt : Nat := 28
theorem eX3_stepAt (k : wp cx 28 d Q (bX3_stepAt pc) pc a loc st h) : E cx 28 d a pc loc st h Q := wp_ok _ _ _ _ _ _ (kX3_stepAt pc) k
theorem sX3_stepAt (hn : Nat.ble (lent vs).length 2 = true) (k : wp cx 28 d Q (bX3_stepAt 0) 0 a (padN 2 (lent vs)) [] h) : M cx 28 d a vs h Q := m_go (by decide) (by decide) hn (e_pad 2 (eX3_stepAt k))
abbrev jX3_startOf : Nat := 29
theorem eX3_startOf (k : wp cx 29 d Q (bX3_startOf pc) pc a loc st h) : E cx 29 d a pc loc st h Q := wp_ok _ _ _ _ _ _ (kX3_startOf pc) k
theorem sX3_startOf (hn : Nat.ble (lent vs).length 2 = true) (k : wp cx 29 d Q (bX3_startOf 0) 0 a (padN 2 (lent vs)) [] h) : M cx 29 d a vs h Q := m_go (by decide) (by decide) hn (e_pad 2 (eX3_startOf k))
abbrev jX3_isEmptyPart : Nat := 30
theorem eX3_isEmptyPart (k : wp cx 30 d Q (bX3_isEmptyPart pc) pc a loc st h) : E cx 30 d a pc loc st h Q := wp_ok _ _ _ _ _ _ (kX3_isEmptyPart pc) k
theorem sX3_isEmptyPart (hn : Nat.ble (lent vs).length 2 = true) (k : wp cx 30 d Q (bX3_isEmptyPart 0) 0 a (padN 2 (lent vs)) [] h) : M cx 30 d a vs h Q := m_go (by decide) (by decide) hn (e_pad 2 (eX3_isEmptyPart k))
abbrev jX4_clear : Nat := 32
theorem eX4_clear (k : wp cx 32 d Q (bX4_clear pc) pc a loc st h) : E cx 32 d a pc loc st h Q := wp_ok _ _ _ _ _ _ (kX4_clear pc) k
theorem sX4_clear (hn : Nat.ble (lent vs).length 1 = true) (k : wp cx 32 d Q (bX4_clear 0) 0 a (padN 1 (lent vs)) [] h) : M cx 32 d a vs h Q := m_go (by decide) (by decide) hn (e_pad 1 (eX4_clear k))
abbrev jX4_offer : Nat := 33
theorem eX4_offer (k : wp cx 33 d Q (bX4_offer pc) pc a loc st h) : E cx 33 d a pc loc st h Q := wp_ok _ _ _ _ _ _ (kX4_offer pc) k
theorem sX4_offer (hn : Nat.ble (lent vs).length 5 = true) (k : wp cx 33 d Q (bX4_offer 0) 0 a (padN 5 (lent vs)) [] h) : M cx 33 d a vs h Q := m_go (by decide) (by decide) hn (e_pad 5 (eX4_offer k))
abbrev jX4_told : Nat := 34
theorem eX4_told (k : wp cx 34 d Q (bX4_told pc) pc a loc st h) : E cx 34 d a pc loc st h Q := wp_ok _ _ _ _ _ _ (kX4_told pc) k
theorem sX4_told (hn : Nat.ble (lent vs).length 2 = true) (k : wp cx 34 d Q (bX4_told 0) 0 a (padN 2 (lent vs)) [] h) : M cx 34 d a vs h Q := m_go (by decide) (by decide) hn (e_pad 2 (eX4_told k))
abbrev jX5_read : Nat := 36
theorem eX5_read (k : wp cx 36 d Q (bX5_read pc) pc a loc st h) : E cx 36 d a pc loc st h Q := wp_ok _ _ _ _ _ _ (kX5_read pc) k
theorem sX5_read (hn : Nat.ble (lent vs).length 5 = true) (k : wp cx 36 d Q (bX5_read 0) 0 a (padN 5 (lent vs)) [] h) : M cx 36 d a vs h Q := m_go (by decide) (by decide) hn (e_pad 5 (eX5_read k))
abbrev jX5_readClause : Nat := 37
theorem eX5_readClause (k : wp cx 37 d Q (bX5_readClause pc) pc a loc st h) : E cx 37 d a pc loc st h Q := wp_ok _ _ _ _ _ _ (kX5_readClause pc) k
theorem sX5_readClause (hn : Nat.ble (lent vs).length 2 = true) (k : wp cx 37 d Q (bX5_readClause 0) 0 a (padN 2 (lent vs)) [] h) : M cx 37 d a vs h Q := m_go (by decide) (by decide) hn (e_pad 2 (eX5_readClause k))
abbrev jX5_readTest : Nat := 38
theorem eX5_readTest (k : wp cx 38 d Q (bX5_readTest pc) pc a loc st h) : E cx 38 d a pc loc st h Q := wp_ok _ _ _ _ _ _ (kX5_readTest pc) k
theorem sX5_readTest (hn : Nat.ble (lent vs).length 5 = true) (k : wp cx 38 d Q (bX5_readTest 0) 0 a (padN 5 (lent vs)) [] h) : M cx 38 d a vs h Q := m_go (by decide) (by decide) hn (e_pad 5 (eX5_readTest k))
abbrev jX5_readBoth : Nat := 39
theorem eX5_readBoth (k : wp cx 39 d Q (bX5_readBoth pc) pc a loc st h) : E cx 39 d a pc loc st h Q := wp_ok _ _ _ _ _ _ (kX5_readBoth pc) k
theorem sX5_readBoth (hn : Nat.ble (lent vs).length 5 = true) (k : wp cx 39 d Q (bX5_readBoth 0) 0 a (padN 5 (lent vs)) [] h) : M cx 39 d a vs h Q := m_go (by decide) (by decide) hn (e_pad 5 (eX5_readBoth k))
abbrev jX5_readPlain : Nat := 40
theorem eX5_readPlain (k : wp cx 40 d Q (bX5_readPlain pc) pc a loc st h) : E cx 40 d a pc loc st h Q := wp_ok _ _ _ _ _ _ (kX5_readPlain pc) k
theorem sX5_readPlain (hn : Nat.ble (lent vs).length 4 = true) (k : wp cx 40 d Q (bX5_readPlain 0) 0 a (padN 4 (lent vs)) [] h) : M cx 40 d a vs h Q := m_go (by decide) (by decide) hn (e_pad 4 (eX5_readPlain k))
abbrev jX5_readCompared : Nat := 41
theorem eX5_readCompared (k : wp cx 41 d Q (bX5_readCompared pc) pc a loc st h) : E cx 41 d a pc loc st h Q := wp_ok _ _ _ _ _ _ (kX5_readCompared pc) k
theorem sX5_readCompared (hn : Nat.ble (lent vs).length 4 = true) (k : wp cx 41 d Q (bX5_readCompared 0) 0 a (padN 4 (lent vs)) [] h) : M cx 41 d a vs h Q := m_go (by decide) (by decide) hn (e_pad 4 (eX5_readCompared k))
abbrev jX5_readSum : Nat := 42
theorem eX5_readSum (k : wp cx 42 d Q (bX5_readSum pc) pc a loc st h) : E cx 42 d a pc loc st h Q := wp_ok _ _ _ _ _ _ (kX5_readSum pc) k
theorem sX5_readSum (hn : Nat.ble (lent vs).length 5 = true) (k : wp cx 42 d Q (bX5_readSum 0) 0 a (padN 5 (lent vs)) [] h) : M cx 42 d a vs h Q := m_go (by decide) (by decide) hn (e_pad 5 (eX5_readSum k))
abbrev jX5_readTerm : Nat := 43
theorem eX5_readTerm (k : wp cx 43 d Q (bX5_readTerm pc) pc a loc st h) : E cx 43 d a pc loc st h Q := wp_ok _ _ _ _ _ _ (kX5_readTerm pc) k
theorem sX5_readTerm (hn : Nat.ble (lent vs).length 5 = true) (k : wp cx 43 d Q (bX5_readTerm 0) 0 a (padN 5 (lent vs)) [] h) : M cx 43 d a vs h Q := m_go (by decide) (by decide) hn (e_pad 5 (eX5_readTerm k))
abbrev jX5_readPart : Nat := 44
theorem eX5_readPart (k : wp cx 44 d Q (bX5_readPart pc) pc a loc st h) : E cx 44 d a pc loc st h Q := wp_ok _ _ _ _ _ _ (kX5_readPart pc) k
theorem sX5_readPart (hn : Nat.ble (lent vs).length 4 = true) (k : wp cx 44 d Q (bX5_readPart 0) 0 a (padN 4 (lent vs)) [] h) : M cx 44 d a vs h Q := m_go (by decide) (by decide) hn (e_pad 4 (eX5_readPart k))
abbrev jX5_readBracketed : Nat := 45
theorem eX5_readBracketed (k : wp cx 45 d Q (bX5_readBracketed pc) pc a loc st h) : E cx 45 d a pc loc st h Q := wp_ok _ _ _ _ _ _ (kX5_readBracketed pc) k
theorem sX5_readBracketed (hn : Nat.ble (lent vs).length 5 = true) (k : wp cx 45 d Q (bX5_readBracketed 0) 0 a (padN 5 (lent vs)) [] h) : M cx 45 d a vs h Q := m_go (by decide) (by decide) hn (e_pad 5 (eX5_readBracketed k))
abbrev jX5_namedFact : Nat := 46
theorem eX5_namedFact (k : wp cx 46 d Q (bX5_namedFact pc) pc a loc st h) : E cx 46 d a pc loc st h Q := wp_ok _ _ _ _ _ _ (kX5_namedFact pc) k
theorem sX5_namedFact (hn : Nat.ble (lent vs).length 1 = true) (k : wp cx 46 d Q (bX5_namedFact 0) 0 a (padN 1 (lent vs)) [] h) : M cx 46 d a vs h Q := m_go (by decide) (by decide) hn (e_pad 1 (eX5_namedFact k))
abbrev jX5_numberTold : Nat := 47
theorem eX5_numberTold (k : wp cx 47 d Q (bX5_numberTold pc) pc a loc st h) : E cx 47 d a pc loc st h Q := wp_ok _ _ _ _ _ _ (kX5_numberTold pc) k
theorem sX5_numberTold (hn : Nat.ble (lent vs).length 3 = true) (k : wp cx 47 d Q (bX5_numberTold 0) 0 a (padN 3 (lent vs)) [] h) : M cx 47 d a vs h Q := m_go (by decide) (by decide) hn (e_pad 3 (eX5_numberTold k))
abbrev jX5_advance : Nat := 48
theorem eX5_advance (k : wp cx 48 d Q (bX5_advance pc) pc a loc st h) : E cx 48 d a pc loc st h Q := wp_ok _ _ _ _ _ _ (kX5_advance pc) k
theorem sX5_advance (hn : Nat.ble (lent vs).length 2 = true) (k : wp cx 48 d Q (bX5_advance 0) 0 a (padN 2 (lent vs)) [] h) : M cx 48 d a vs h Q := m_go (by decide) (by decide) hn (e_pad 2 (eX5_advance k))
abbrev jX5_sortOf : Nat := 49
theorem eX5_sortOf (k : wp cx 49 d Q (bX5_sortOf pc) pc a loc st h) : E cx 49 d a pc loc st h Q := wp_ok _ _ _ _ _ _ (kX5_sortOf pc) k
theorem sX5_sortOf (hn : Nat.ble (lent vs).length 1 = true) (k : wp cx 49 d Q (bX5_sortOf 0) 0 a (padN 1 (lent vs)) [] h) : M cx 49 d a vs h Q := m_go (by decide) (by decide) hn (e_pad 1 (eX5_sortOf k))
abbrev jX5_is : Nat := 50
theorem eX5_is (k : wp cx 50 d Q (bX5_is pc) pc a loc st h) : E cx 50 d a pc loc st h Q := wp_ok _ _ _ _ _ _ (kX5_is pc) k
theorem sX5_is (hn : Nat.ble (lent vs).length 3 = true) (k : wp cx 50 d Q (bX5_is 0) 0 a (padN 3 (lent vs)) [] h) : M cx 50 d a vs h Q := m_go (by decide) (by decide) hn (e_pad 3 (eX5_is k))
abbrev jX5_addStep : Nat := 51
theorem eX5_addStep (k : wp cx 51 d Q (bX5_addStep pc) pc a loc st h) : E cx 51 d a pc loc st h Q := wp_ok _ _ _ _ _ _ (kX5_addStep pc) k
theorem sX5_addStep (hn : Nat.ble (lent vs).length 3 = true) (k : wp cx 51 d Q (bX5_addStep 0) 0 a (padN 3 (lent vs)) [] h) : M cx 51 d a vs h Q := m_go (by decide) (by decide) hn (e_pad 3 (eX5_addStep k))
abbrev jX5_aimHere : Nat := 52
theorem eX5_aimHere (k : wp cx 52 d Q (bX5_aimHere pc) pc a loc st h) : E cx 52 d a pc loc st h Q := wp_ok _ _ _ _ _ _ (kX5_aimHere pc) k
theorem sX5_aimHere (hn : Nat.ble (lent vs).length 2 = true) (k : wp cx 52 d Q (bX5_aimHere 0) 0 a (padN 2 (lent vs)) [] h) : M cx 52 d a vs h Q := m_go (by decide) (by decide) hn (e_pad 2 (eX5_aimHere k))
abbrev jX5_mark : Nat := 53
theorem eX5_mark (k : wp cx 53 d Q (bX5_mark pc) pc a loc st h) : E cx 53 d a pc loc st h Q := wp_ok _ _ _ _ _ _ (kX5_mark pc) k
theorem sX5_mark (hn : Nat.ble (lent vs).length 1 = true) (k : wp cx 53 d Q (bX5_mark 0) 0 a (padN 1 (lent vs)) [] h) : M cx 53 d a vs h Q := m_go (by decide) (by decide) hn (e_pad 1 (eX5_mark k))
abbrev jX6_pass : Nat := 55
theorem eX6_pass (k : wp cx 55 d Q (bX6_pass pc) pc a loc st h) : E cx 55 d a pc loc st h Q := wp_ok _ _ _ _ _ _ (kX6_pass pc) k
theorem sX6_pass (hn : Nat.ble (lent vs).length 7 = true) (k : wp cx 55 d Q (bX6_pass 0) 0 a (padN 7 (lent vs)) [] h) : M cx 55 d a vs h Q := m_go (by decide) (by decide) hn (e_pad 7 (eX6_pass k))
abbrev jX6_leftBehind : Nat := 56
theorem eX6_leftBehind (k : wp cx 56 d Q (bX6_leftBehind pc) pc a loc st h) : E cx 56 d a pc loc st h Q := wp_ok _ _ _ _ _ _ (kX6_leftBehind pc) k
theorem sX6_leftBehind (hn : Nat.ble (lent vs).length 2 = true) (k : wp cx 56 d Q (bX6_leftBehind 0) 0 a (padN 2 (lent vs)) [] h) : M cx 56 d a vs h Q := m_go (by decide) (by decide) hn (e_pad 2 (eX6_leftBehind k))
abbrev jX6_frozen : Nat := 57
theorem eX6_frozen (k : wp cx 57 d Q (bX6_frozen pc) pc a loc st h) : E cx 57 d a pc loc st h Q := wp_ok _ _ _ _ _ _ (kX6_frozen pc) k
theorem sX6_frozen (hn : Nat.ble (lent vs).length 5 = true) (k : wp cx 57 d Q (bX6_frozen 0) 0 a (padN 5 (lent vs)) [] h) : M cx 57 d a vs h Q := m_go (by decide) (by decide) hn (e_pad 5 (eX6_frozen k))
abbrev jX6_draw : Nat := 58
theorem eX6_draw (k : wp cx 58 d Q (bX6_draw pc) pc a loc st h) : E cx 58 d a pc loc st h Q := wp_ok _ _ _ _ _ _ (kX6_draw pc) k
theorem sX6_draw (hn : Nat.ble (lent vs).length 2 = true) (k : wp cx 58 d Q (bX6_draw 0) 0 a (padN 2 (lent vs)) [] h) : M cx 58 d a vs h Q := m_go (by decide) (by decide) hn (e_pad 2 (eX6_draw k))
abbrev jX6_toPutBack : Nat := 59
theorem eX6_toPutBack (k : wp cx 59 d Q (bX6_toPutBack pc) pc a loc st h) : E cx 59 d a pc loc st h Q := wp_ok _ _ _ _ _ _ (kX6_toPutBack pc) k
theorem sX6_toPutBack (hn : Nat.ble (lent vs).length 8 = true) (k : wp cx 59 d Q (bX6_toPutBack 0) 0 a (padN 8 (lent vs)) [] h) : M cx 59 d a vs h Q := m_go (by decide) (by decide) hn (e_pad 8 (eX6_toPutBack k))
abbrev jX7_clear : Nat := 61
theorem eX7_clear (k : wp cx 61 d Q (bX7_clear pc) pc a loc st h) : E cx 61 d a pc loc st h Q := wp_ok _ _ _ _ _ _ (kX7_clear pc) k
theorem sX7_clear (hn : Nat.ble (lent vs).length 2 = true) (k : wp cx 61 d Q (bX7_clear 0) 0 a (padN 2 (lent vs)) [] h) : M cx 61 d a vs h Q := m_go (by decide) (by decide) hn (e_pad 2 (eX7_clear k))
abbrev jX7_add : Nat := 62
theorem eX7_add (k : wp cx 62 d Q (bX7_add pc) pc a loc st h) : E cx 62 d a pc loc st h Q := wp_ok _ _ _ _ _ _ (kX7_add pc) k
theorem sX7_add (hn : Nat.ble (lent vs).length 2 = true) (k : wp cx 62 d Q (bX7_add 0) 0 a (padN 2 (lent vs)) [] h) : M cx 62 d a vs h Q := m_go (by decide) (by decide) hn (e_pad 2 (eX7_add k))
abbrev jX7_has : Nat := 63
theorem eX7_has (k : wp cx 63 d Q (bX7_has pc) pc a loc st h) : E cx 63 d a pc loc st h Q := wp_ok _ _ _ _ _ _ (kX7_has pc) k
theorem sX7_has (hn : Nat.ble (lent vs).length 2 = true) (k : wp cx 63 d Q (bX7_has 0) 0 a (padN 2 (lent vs)) [] h) : M cx 63 d a vs h Q := m_go (by decide) (by decide) hn (e_pad 2 (eX7_has k))
abbrev jX7_hasWithoutOne : Nat := 64
theorem eX7_hasWithoutOne (k : wp cx 64 d Q (bX7_hasWithoutOne pc) pc a loc st h) : E cx 64 d a pc loc st h Q := wp_ok _ _ _ _ _ _ (kX7_hasWithoutOne pc) k
theorem sX7_hasWithoutOne (hn : Nat.ble (lent vs).length 5 = true) (k : wp cx 64 d Q (bX7_hasWithoutOne 0) 0 a (padN 5 (lent vs)) [] h) : M cx 64 d a vs h Q := m_go (by decide) (by decide) hn (e_pad 5 (eX7_hasWithoutOne k))
abbrev jX7_hasWithOne : Nat := 65
theorem eX7_hasWithOne (k : wp cx 65 d Q (bX7_hasWithOne pc) pc a loc st h) : E cx 65 d a pc loc st h Q := wp_ok _ _ _ _ _ _ (kX7_hasWithOne pc) k
theorem sX7_hasWithOne (hn : Nat.ble (lent vs).length 5 = true) (k : wp cx 65 d Q (bX7_hasWithOne 0) 0 a (padN 5 (lent vs)) [] h) : M cx 65 d a vs h Q := m_go (by decide) (by decide) hn (e_pad 5 (eX7_hasWithOne k))
abbrev jX8_add : Nat := 67
theorem eX8_add (k : wp cx 67 d Q (bX8_add pc) pc a loc st h) : E cx 67 d a pc loc st h Q := wp_ok _ _ _ _ _ _ (kX8_add pc) k
theorem sX8_add (hn : Nat.ble (lent vs).length 3 = true) (k : wp cx 67 d Q (bX8_add 0) 0 a (padN 3 (lent vs)) [] h) : M cx 67 d a vs h Q := m_go (by decide) (by decide) hn (e_pad 3 (eX8_add k))
abbrev jX8_byteAt : Nat := 68
theorem eX8_byteAt (k : wp cx 68 d Q (bX8_byteAt pc) pc a loc st h) : E cx 68 d a pc loc st h Q := wp_ok _ _ _ _ _ _ (kX8_byteAt pc) k
theorem sX8_byteAt (hn : Nat.ble (lent vs).length 2 = true) (k : wp cx 68 d Q (bX8_byteAt 0) 0 a (padN 2 (lent vs)) [] h) : M cx 68 d a vs h Q := m_go (by decide) (by decide) hn (e_pad 2 (eX8_byteAt k))
abbrev jX9_forget : Nat := 70
theorem eX9_forget (k : wp cx 70 d Q (bX9_forget pc) pc a loc st h) : E cx 70 d a pc loc st h Q := wp_ok _ _ _ _ _ _ (kX9_forget pc) k
theorem sX9_forget (hn : Nat.ble (lent vs).length 1 = true) (k : wp cx 70 d Q (bX9_forget 0) 0 a (padN 1 (lent vs)) [] h) : M cx 70 d a vs h Q := m_go (by decide) (by decide) hn (e_pad 1 (eX9_forget k))
abbrev jX9_isDue : Nat := 71
theorem eX9_isDue (k : wp cx 71 d Q (bX9_isDue pc) pc a loc st h) : E cx 71 d a pc loc st h Q := wp_ok _ _ _ _ _ _ (kX9_isDue pc) k
theorem sX9_isDue (hn : Nat.ble (lent vs).length 3 = true) (k : wp cx 71 d Q (bX9_isDue 0) 0 a (padN 3 (lent vs)) [] h) : M cx 71 d a vs h Q := m_go (by decide) (by decide) hn (e_pad 3 (eX9_isDue k))
abbrev jX9_setsOf : Nat := 72
theorem eX9_setsOf (k : wp cx 72 d Q (bX9_setsOf pc) pc a loc st h) : E cx 72 d a pc loc st h Q := wp_ok _ _ _ _ _ _ (kX9_setsOf pc) k
theorem sX9_setsOf (hn : Nat.ble (lent vs).length 1 = true) (k : wp cx 72 d Q (bX9_setsOf 0) 0 a (padN 1 (lent vs)) [] h) : M cx 72 d a vs h Q := m_go (by decide) (by decide) hn (e_pad 1 (eX9_setsOf k))
abbrev jX9_findLawful : Nat := 73
theorem eX9_findLawful (k : wp cx 73 d Q (bX9_findLawful pc) pc a loc st h) : E cx 73 d a pc loc st h Q := wp_ok _ _ _ _ _ _ (kX9_findLawful pc) k
theorem sX9_findLawful (hn : Nat.ble (lent vs).length 4 = true) (k : wp cx 73 d Q (bX9_findLawful 0) 0 a (padN 4 (lent vs)) [] h) : M cx 73 d a vs h Q := m_go (by decide) (by decide) hn (e_pad 4 (eX9_findLawful k))
abbrev jX9_atOnce : Nat := 74
theorem eX9_atOnce (k : wp cx 74 d Q (bX9_atOnce pc) pc a loc st h) : E cx 74 d a pc loc st h Q := wp_ok _ _ _ _ _ _ (kX9_atOnce pc) k
theorem sX9_atOnce (hn : Nat.ble (lent vs).length 4 = true) (k : wp cx 74 d Q (bX9_atOnce 0) 0 a (padN 4 (lent vs)) [] h) : M cx 74 d a vs h Q := m_go (by decide) (by decide) hn (e_pad 4 (eX9_atOnce k))
abbrev jX9_inSteps : Nat := 75
theorem eX9_inSteps (k : wp cx 75 d Q (bX9_inSteps pc) pc a loc st h) : E cx 75 d a pc loc st h Q := wp_ok _ _ _ _ _ _ (kX9_inSteps pc) k
theorem sX9_inSteps (hn : Nat.ble (lent vs).length 1 = true) (k : wp cx 75 d Q (bX9_inSteps 0) 0 a (padN 1 (lent vs)) [] h) : M cx 75 d a vs h Q := m_go (by decide) (by decide) hn (e_pad 1 (eX9_inSteps k))
abbrev jX9_findStepSets : Nat := 76
theorem eX9_findStepSets (k : wp cx 76 d Q (bX9_findStepSets pc) pc a loc st h) : E cx 76 d a pc loc st h Q := wp_ok _ _ _ _ _ _ (kX9_findStepSets pc) k
theorem sX9_findStepSets (hn : Nat.ble (lent vs).length 5 = true) (k : wp cx 76 d Q (bX9_findStepSets 0) 0 a (padN 5 (lent vs)) [] h) : M cx 76 d a vs h Q := m_go (by decide) (by decide) hn (e_pad 5 (eX9_findStepSets k))
abbrev jX9_findOrder : Nat := 77
theorem eX9_findOrder (k : wp cx 77 d Q (bX9_findOrder pc) pc a loc st h) : E cx 77 d a pc loc st h Q := wp_ok _ _ _ _ _ _ (kX9_findOrder pc) k
theorem sX9_findOrder (hn : Nat.ble (lent vs).length 8 = true) (k : wp cx 77 d Q (bX9_findOrder 0) 0 a (padN 8 (lent vs)) [] h) : M cx 77 d a vs h Q := m_go (by decide) (by decide) hn (e_pad 8 (eX9_findOrder k))
abbrev jX9_lowestMarked : Nat := 78
theorem eX9_lowestMarked (k : wp cx 78 d Q (bX9_lowestMarked pc) pc a loc st h) : E cx 78 d a pc loc st h Q := wp_ok _ _ _ _ _ _ (kX9_lowestMarked pc) k
theorem sX9_lowestMarked (hn : Nat.ble (lent vs).length 5 = true) (k : wp cx 78 d Q (bX9_lowestMarked 0) 0 a (padN 5 (lent vs)) [] h) : M cx 78 d a vs h Q := m_go (by decide) (by decide) hn (e_pad 5 (eX9_lowestMarked k))
abbrev jX9_stepTaken : Nat := 79
theorem eX9_stepTaken (k : wp cx 79 d Q (bX9_stepTaken pc) pc a loc st h) : E cx 79 d a pc loc st h Q := wp_ok _ _ _ _ _ _ (kX9_stepTaken pc) k
theorem sX9_stepTaken (hn : Nat.ble (lent vs).length 2 = true) (k : wp cx 79 d Q (bX9_stepTaken 0) 0 a (padN 2 (lent vs)) [] h) : M cx 79 d a vs h Q := m_go (by decide) (by decide) hn (e_pad 2 (eX9_stepTaken k))
abbrev jX9_felling : Nat := 80
theorem eX9_felling (k : wp cx 80 d Q (bX9_felling pc) pc a loc st h) : E cx 80 d a pc loc st h Q := wp_ok _ _ _ _ _ _ (kX9_felling pc) k
theorem sX9_felling (hn : Nat.ble (lent vs).length 4 = true) (k : wp cx 80 d Q (bX9_felling 0) 0 a (padN 4 (lent vs)) [] h) : M cx 80 d a vs h Q := m_go (by decide) (by decide) hn (e_pad 4 (eX9_felling k))
abbrev jX9_mending : Nat := 81
theorem eX9_mending (k : wp cx 81 d Q (bX9_mending pc) pc a loc st h) : E cx 81 d a pc loc st h Q := wp_ok _ _ _ _ _ _ (kX9_mending pc) k
theorem sX9_mending (hn : Nat.ble (lent vs).length 3 = true) (k : wp cx 81 d Q (bX9_mending 0) 0 a (padN 3 (lent vs)) [] h) : M cx 81 d a vs h Q := m_go (by decide) (by decide) hn (e_pad 3 (eX9_mending k))
abbrev jX9_play : Nat := 82
theorem eX9_play (k : wp cx 82 d Q (bX9_play pc) pc a loc st h) : E cx 82 d a pc loc st h Q := wp_ok _ _ _ _ _ _ (kX9_play pc) k
theorem sX9_play (hn : Nat.ble (lent vs).length 5 = true) (k : wp cx 82 d Q (bX9_play 0) 0 a (padN 5 (lent vs)) [] h) : M cx 82 d a vs h Q := m_go (by decide) (by decide) hn (e_pad 5 (eX9_play k))
abbrev jX9_winningIn : Nat := 83
theorem eX9_winningIn (k : wp cx 83 d Q (bX9_winningIn pc) pc a loc st h) : E cx 83 d a pc loc st h Q := wp_ok _ _ _ _ _ _ (kX9_winningIn pc) k
theorem sX9_winningIn (hn : Nat.ble (lent vs).length 4 = true) (k : wp cx 83 d Q (bX9_winningIn 0) 0 a (padN 4 (lent vs)) [] h) : M cx 83 d a vs h Q := m_go (by decide) (by decide) hn (e_pad 4 (eX9_winningIn k))
abbrev jX10_becomeAs : Nat := 85
theorem eX10_becomeAs (k : wp cx 85 d Q (bX10_becomeAs pc) pc a loc st h) : E cx 85 d a pc loc st h Q := wp_ok _ _ _ _ _ _ (kX10_becomeAs pc) k
theorem sX10_becomeAs (hn : Nat.ble (lent vs).length 3 = true) (k : wp cx 85 d Q (bX10_becomeAs 0) 0 a (padN 3 (lent vs)) [] h) : M cx 85 d a vs h Q := m_go (by decide) (by decide) hn (e_pad 3 (eX10_becomeAs k))
abbrev jX10_addStone : Nat := 86
theorem eX10_addStone (k : wp cx 86 d Q (bX10_addStone pc) pc a loc st h) : E cx 86 d a pc loc st h Q := wp_ok _ _ _ _ _ _ (kX10_addStone pc) k
theorem sX10_addStone (hn : Nat.ble (lent vs).length 7 = true) (k : wp cx 86 d Q (bX10_addStone 0) 0 a (padN 7 (lent vs)) [] h) : M cx 86 d a vs h Q := m_go (by decide) (by decide) hn (e_pad 7 (eX10_addStone k))
abbrev jX10_addSpare : Nat := 87
theorem eX10_addSpare (k : wp cx 87 d Q (bX10_addSpare pc) pc a loc st h) : E cx 87 d a pc loc st h Q := wp_ok _ _ _ _ _ _ (kX10_addSpare pc) k
theorem sX10_addSpare (hn : Nat.ble (lent vs).length 7 = true) (k : wp cx 87 d Q (bX10_addSpare 0) 0 a (padN 7 (lent vs)) [] h) : M cx 87 d a vs h Q := m_go (by decide) (by decide) hn (e_pad 7 (eX10_addSpare k))
abbrev jX10_lay : Nat := 88
theorem eX10_lay (k : wp cx 88 d Q (bX10_lay pc) pc a loc st h) : E cx 88 d a pc loc st h Q := wp_ok _ _ _ _ _ _ (kX10_lay pc) k
theorem sX10_lay (hn : Nat.ble (lent vs).length 7 = true) (k : wp cx 88 d Q (bX10_lay 0) 0 a (padN 7 (lent vs)) [] h) : M cx 88 d a vs h Q := m_go (by decide) (by decide) hn (e_pad 7 (eX10_lay k))
abbrev jX10_change : Nat := 89
theorem eX10_change (k : wp cx 89 d Q (bX10_change pc) pc a loc st h) : E cx 89 d a pc loc st h Q := wp_ok _ _ _ _ _ _ (kX10_change pc) k
theorem sX10_change (hn : Nat.ble (lent vs).length 5 = true) (k : wp cx 89 d Q (bX10_change 0) 0 a (padN 5 (lent vs)) [] h) : M cx 89 d a vs h Q := m_go (by decide) (by decide) hn (e_pad 5 (eX10_change k))
abbrev jX10_fact : Nat := 90
theorem eX10_fact (k : wp cx 90 d Q (bX10_fact pc) pc a loc st h) : E cx 90 d a pc loc st h Q := wp_ok _ _ _ _ _ _ (kX10_fact pc) k
theorem sX10_fact (hn : Nat.ble (lent vs).length 3 = true) (k : wp cx 90 d Q (bX10_fact 0) 0 a (padN 3 (lent vs)) [] h) : M cx 90 d a vs h Q := m_go (by decide) (by decide) hn (e_pad 3 (eX10_fact k))
abbrev jX10_term : Nat := 91
theorem eX10_term (k : wp cx 91 d Q (bX10_term pc) pc a loc st h) : E cx 91 d a pc loc st h Q := wp_ok _ _ _ _ _ _ (kX10_term pc) k
theorem sX10_term (hn : Nat.ble (lent vs).length 2 = true) (k : wp cx 91 d Q (bX10_term 0) 0 a (padN 2 (lent vs)) [] h) : M cx 91 d a vs h Q := m_go (by decide) (by decide) hn (e_pad 2 (eX10_term k))
abbrev jX10_changeTerm : Nat := 92
theorem eX10_changeTerm (k : wp cx 92 d Q (bX10_changeTerm pc) pc a loc st h) : E cx 92 d a pc loc st h Q := wp_ok _ _ _ _ _ _ (kX10_changeTerm pc) k
theorem sX10_changeTerm (hn : Nat.ble (lent vs).length 4 = true) (k : wp cx 92 d Q (bX10_changeTerm 0) 0 a (padN 4 (lent vs)) [] h) : M cx 92 d a vs h Q := m_go (by decide) (by decide) hn (e_pad 4 (eX10_changeTerm k))
abbrev jX10_addLaw : Nat := 93
theorem eX10_addLaw (k : wp cx 93 d Q (bX10_addLaw pc) pc a loc st h) : E cx 93 d a pc loc st h Q := wp_ok _ _ _ _ _ _ (kX10_addLaw pc) k
theorem sX10_addLaw (hn : Nat.ble (lent vs).length 3 = true) (k : wp cx 93 d Q (bX10_addLaw 0) 0 a (padN 3 (lent vs)) [] h) : M cx 93 d a vs h Q := m_go (by decide) (by decide) hn (e_pad 3 (eX10_addLaw k))
abbrev jX10_lawInForce : Nat := 94
theorem eX10_lawInForce (k : wp cx 94 d Q (bX10_lawInForce pc) pc a loc st h) : E cx 94 d a pc loc st h Q := wp_ok _ _ _ _ _ _ (kX10_lawInForce pc) k
theorem sX10_lawInForce (hn : Nat.ble (lent vs).length 1 = true) (k : wp cx 94 d Q (bX10_lawInForce 0) 0 a (padN 1 (lent vs)) [] h) : M cx 94 d a vs h Q := m_go (by decide) (by decide) hn (e_pad 1 (eX10_lawInForce k))
abbrev jX10_isStone : Nat := 95
theorem eX10_isStone (k : wp cx 95 d Q (bX10_isStone pc) pc a loc st h) : E cx 95 d a pc loc st h Q := wp_ok _ _ _ _ _ _ (kX10_isStone pc) k
theorem sX10_isStone (hn : Nat.ble (lent vs).length 2 = true) (k : wp cx 95 d Q (bX10_isStone 0) 0 a (padN 2 (lent vs)) [] h) : M cx 95 d a vs h Q := m_go (by decide) (by decide) hn (e_pad 2 (eX10_isStone k))
abbrev jX10_isPlace : Nat := 96
theorem eX10_isPlace (k : wp cx 96 d Q (bX10_isPlace pc) pc a loc st h) : E cx 96 d a pc loc st h Q := wp_ok _ _ _ _ _ _ (kX10_isPlace pc) k
theorem sX10_isPlace (hn : Nat.ble (lent vs).length 2 = true) (k : wp cx 96 d Q (bX10_isPlace 0) 0 a (padN 2 (lent vs)) [] h) : M cx 96 d a vs h Q := m_go (by decide) (by decide) hn (e_pad 2 (eX10_isPlace k))
abbrev jX10_allStones : Nat := 97
theorem eX10_allStones (k : wp cx 97 d Q (bX10_allStones pc) pc a loc st h) : E cx 97 d a pc loc st h Q := wp_ok _ _ _ _ _ _ (kX10_allStones pc) k
theorem sX10_allStones (hn : Nat.ble (lent vs).length 1 = true) (k : wp cx 97 d Q (bX10_allStones 0) 0 a (padN 1 (lent vs)) [] h) : M cx 97 d a vs h Q := m_go (by decide) (by decide) hn (e_pad 1 (eX10_allStones k))
abbrev jX10_covers : Nat := 98
theorem eX10_covers (k : wp cx 98 d Q (bX10_covers pc) pc a loc st h) : E cx 98 d a pc loc st h Q := wp_ok _ _ _ _ _ _ (kX10_covers pc) k
theorem sX10_covers (hn : Nat.ble (lent vs).length 6 = true) (k : wp cx 98 d Q (bX10_covers 0) 0 a (padN 6 (lent vs)) [] h) : M cx 98 d a vs h Q := m_go (by decide) (by decide) hn (e_pad 6 (eX10_covers k))
abbrev jX10_isTaken : Nat := 99
theorem eX10_isTaken (k : wp cx 99 d Q (bX10_isTaken pc) pc a loc st h) : E cx 99 d a pc loc st h Q := wp_ok _ _ _ _ _ _ (kX10_isTaken pc) k
theorem sX10_isTaken (hn : Nat.ble (lent vs).length 6 = true) (k : wp cx 99 d Q (bX10_isTaken 0) 0 a (padN 6 (lent vs)) [] h) : M cx 99 d a vs h Q := m_go (by decide) (by decide) hn (e_pad 6 (eX10_isTaken k))
abbrev jX10_weightOf : Nat := 100
theorem eX10_weightOf (k : wp cx 100 d Q (bX10_weightOf pc) pc a loc st h) : E cx 100 d a pc loc st h Q := wp_ok _ _ _ _ _ _ (kX10_weightOf pc) k
theorem sX10_weightOf (hn : Nat.ble (lent vs).length 4 = true) (k : wp cx 100 d Q (bX10_weightOf 0) 0 a (padN 4 (lent vs)) [] h) : M cx 100 d a vs h Q := m_go (by decide) (by decide) hn (e_pad 4 (eX10_weightOf k))
abbrev jX11_stone : Nat := 102
theorem eX11_stone (k : wp cx 102 d Q (bX11_stone pc) pc a loc st h) : E cx 102 d a pc loc st h Q := wp_ok _ _ _ _ _ _ (kX11_stone pc) k
theorem sX11_stone (hn : Nat.ble (lent vs).length 7 = true) (k : wp cx 102 d Q (bX11_stone 0) 0 a (padN 7 (lent vs)) [] h) : M cx 102 d a vs h Q := m_go (by decide) (by decide) hn (e_pad 7 (eX11_stone k))
abbrev jX11_spare : Nat := 103
theorem eX11_spare (k : wp cx 103 d Q (bX11_spare pc) pc a loc st h) : E cx 103 d a pc loc st h Q := wp_ok _ _ _ _ _ _ (kX11_spare pc) k
theorem sX11_spare (hn : Nat.ble (lent vs).length 7 = true) (k : wp cx 103 d Q (bX11_spare 0) 0 a (padN 7 (lent vs)) [] h) : M cx 103 d a vs h Q := m_go (by decide) (by decide) hn (e_pad 7 (eX11_spare k))
abbrev jX11_put : Nat := 104
theorem eX11_put (k : wp cx 104 d Q (bX11_put pc) pc a loc st h) : E cx 104 d a pc loc st h Q := wp_ok _ _ _ _ _ _ (kX11_put pc) k
theorem sX11_put (hn : Nat.ble (lent vs).length 5 = true) (k : wp cx 104 d Q (bX11_put 0) 0 a (padN 5 (lent vs)) [] h) : M cx 104 d a vs h Q := m_go (by decide) (by decide) hn (e_pad 5 (eX11_put k))
abbrev jX11_of : Nat := 105
theorem eX11_of (k : wp cx 105 d Q (bX11_of pc) pc a loc st h) : E cx 105 d a pc loc st h Q := wp_ok _ _ _ _ _ _ (kX11_of pc) k
theorem sX11_of (hn : Nat.ble (lent vs).length 3 = true) (k : wp cx 105 d Q (bX11_of 0) 0 a (padN 3 (lent vs)) [] h) : M cx 105 d a vs h Q := m_go (by decide) (by decide) hn (e_pad 3 (eX11_of k))
abbrev jX11_terms : Nat := 106
theorem eX11_terms (k : wp cx 106 d Q (bX11_terms pc) pc a loc st h) : E cx 106 d a pc loc st h Q := wp_ok _ _ _ _ _ _ (kX11_terms pc) k
theorem sX11_terms (hn : Nat.ble (lent vs).length 3 = true) (k : wp cx 106 d Q (bX11_terms 0) 0 a (padN 3 (lent vs)) [] h) : M cx 106 d a vs h Q := m_go (by decide) (by decide) hn (e_pad 3 (eX11_terms k))
abbrev jX11_feed : Nat := 107
theorem eX11_feed (k : wp cx 107 d Q (bX11_feed pc) pc a loc st h) : E cx 107 d a pc loc st h Q := wp_ok _ _ _ _ _ _ (kX11_feed pc) k
theorem sX11_feed (hn : Nat.ble (lent vs).length 6 = true) (k : wp cx 107 d Q (bX11_feed 0) 0 a (padN 6 (lent vs)) [] h) : M cx 107 d a vs h Q := m_go (by decide) (by decide) hn (e_pad 6 (eX11_feed k))
abbrev jX11_end : Nat := 108
theorem eX11_end (k : wp cx 108 d Q (bX11_end pc) pc a loc st h) : E cx 108 d a pc loc st h Q := wp_ok _ _ _ _ _ _ (kX11_end pc) k
theorem sX11_end (hn : Nat.ble (lent vs).length 2 = true) (k : wp cx 108 d Q (bX11_end 0) 0 a (padN 2 (lent vs)) [] h) : M cx 108 d a vs h Q := m_go (by decide) (by decide) hn (e_pad 2 (eX11_end k))
abbrev jX11_row : Nat := 109
theorem eX11_row (k : wp cx 109 d Q (bX11_row pc) pc a loc st h) : E cx 109 d a pc loc st h Q := wp_ok _ _ _ _ _ _ (kX11_row pc) k
theorem sX11_row (hn : Nat.ble (lent vs).length 3 = true) (k : wp cx 109 d Q (bX11_row 0) 0 a (padN 3 (lent vs)) [] h) : M cx 109 d a vs h Q := m_go (by decide) (by decide) hn (e_pad 3 (eX11_row k))
abbrev jX11_rubble : Nat := 110
theorem eX11_rubble (k : wp cx 110 d Q (bX11_rubble pc) pc a loc st h) : E cx 110 d a pc loc st h Q := wp_ok _ _ _ _ _ _ (kX11_rubble pc) k
theorem sX11_rubble (hn : Nat.ble (lent vs).length 1 = true) (k : wp cx 110 d Q (bX11_rubble 0) 0 a (padN 1 (lent vs)) [] h) : M cx 110 d a vs h Q := m_go (by decide) (by decide) hn (e_pad 1 (eX11_rubble k))
abbrev jX11_law : Nat := 111
theorem eX11_law (k : wp cx 111 d Q (bX11_law pc) pc a loc st h) : E cx 111 d a pc loc st h Q := wp_ok _ _ _ _ _ _ (kX11_law pc) k
theorem sX11_law (hn : Nat.ble (lent vs).length 3 = true) (k : wp cx 111 d Q (bX11_law 0) 0 a (padN 3 (lent vs)) [] h) : M cx 111 d a vs h Q := m_go (by decide) (by decide) hn (e_pad 3 (eX11_law k))
abbrev jX11_fault : Nat := 112
theorem eX11_fault (k : wp cx 112 d Q (bX11_fault pc) pc a loc st h) : E cx 112 d a pc loc st h Q := wp_ok _ _ _ _ _ _ (kX11_fault pc) k
theorem sX11_fault (hn : Nat.ble (lent vs).length 1 = true) (k : wp cx 112 d Q (bX11_fault 0) 0 a (padN 1 (lent vs)) [] h) : M cx 112 d a vs h Q := m_go (by decide) (by decide) hn (e_pad 1 (eX11_fault k))
abbrev jX11_force : Nat := 113
theorem eX11_force (k : wp cx 113 d Q (bX11_force pc) pc a loc st h) : E cx 113 d a pc loc st h Q := wp_ok _ _ _ _ _ _ (kX11_force pc) k
theorem sX11_force (hn : Nat.ble (lent vs).length 3 = true) (k : wp cx 113 d Q (bX11_force 0) 0 a (padN 3 (lent vs)) [] h) : M cx 113 d a vs h Q := m_go (by decide) (by decide) hn (e_pad 3 (eX11_force k))
abbrev jX11_at : Nat := 114
theorem eX11_at (k : wp cx 114 d Q (bX11_at pc) pc a loc st h) : E cx 114 d a pc loc st h Q := wp_ok _ _ _ _ _ _ (kX11_at pc) k
theorem sX11_at (hn : Nat.ble (lent vs).length 4 = true) (k : wp cx 114 d Q (bX11_at 0) 0 a (padN 4 (lent vs)) [] h) : M cx 114 d a vs h Q := m_go (by decide) (by decide) hn (e_pad 4 (eX11_at k))
abbrev jX11_touches : Nat := 115
theorem eX11_touches (k : wp cx 115 d Q (bX11_touches pc) pc a loc st h) : E cx 115 d a pc loc st h Q := wp_ok _ _ _ _ _ _ (kX11_touches pc) k
theorem sX11_touches (hn : Nat.ble (lent vs).length 3 = true) (k : wp cx 115 d Q (bX11_touches 0) 0 a (padN 3 (lent vs)) [] h) : M cx 115 d a vs h Q := m_go (by decide) (by decide) hn (e_pad 3 (eX11_touches k))
abbrev jX11_unlawful : Nat := 116
theorem eX11_unlawful (k : wp cx 116 d Q (bX11_unlawful pc) pc a loc st h) : E cx 116 d a pc loc st h Q := wp_ok _ _ _ _ _ _ (kX11_unlawful pc) k
theorem sX11_unlawful (hn : Nat.ble (lent vs).length 3 = true) (k : wp cx 116 d Q (bX11_unlawful 0) 0 a (padN 3 (lent vs)) [] h) : M cx 116 d a vs h Q := m_go (by decide) (by decide) hn (e_pad 3 (eX11_unlawful k))
abbrev jX11_there : Nat := 117
theorem eX11_there (k : wp cx 117 d Q (bX11_there pc) pc a loc st h) : E cx 117 d a pc loc st h Q := wp_ok _ _ _ _ _ _ (kX11_there pc) k
theorem sX11_there (hn : Nat.ble (lent vs).length 1 = true) (k : wp cx 117 d Q (bX11_there 0) 0 a (padN 1 (lent vs)) [] h) : M cx 117 d a vs h Q := m_go (by decide) (by decide) hn (e_pad 1 (eX11_there k))
abbrev jX11_stand : Nat := 118
theorem eX11_stand (k : wp cx 118 d Q (bX11_stand pc) pc a loc st h) : E cx 118 d a pc loc st h Q := wp_ok _ _ _ _ _ _ (kX11_stand pc) k
theorem sX11_stand (hn : Nat.ble (lent vs).length 3 = true) (k : wp cx 118 d Q (bX11_stand 0) 0 a (padN 3 (lent vs)) [] h) : M cx 118 d a vs h Q := m_go (by decide) (by decide) hn (e_pad 3 (eX11_stand k))
abbrev jX11_falls : Nat := 119
theorem eX11_falls (k : wp cx 119 d Q (bX11_falls pc) pc a loc st h) : E cx 119 d a pc loc st h Q := wp_ok _ _ _ _ _ _ (kX11_falls pc) k
theorem sX11_falls (hn : Nat.ble (lent vs).length 5 = true) (k : wp cx 119 d Q (bX11_falls 0) 0 a (padN 5 (lent vs)) [] h) : M cx 119 d a vs h Q := m_go (by decide) (by decide) hn (e_pad 5 (eX11_falls k))
abbrev jX11_round : Nat := 120
theorem eX11_round (k : wp cx 120 d Q (bX11_round pc) pc a loc st h) : E cx 120 d a pc loc st h Q := wp_ok _ _ _ _ _ _ (kX11_round pc) k
theorem sX11_round (hn : Nat.ble (lent vs).length 3 = true) (k : wp cx 120 d Q (bX11_round 0) 0 a (padN 3 (lent vs)) [] h) : M cx 120 d a vs h Q := m_go (by decide) (by decide) hn (e_pad 3 (eX11_round k))
abbrev jX11_take : Nat := 121
theorem eX11_take (k : wp cx 121 d Q (bX11_take pc) pc a loc st h) : E cx 121 d a pc loc st h Q := wp_ok _ _ _ _ _ _ (kX11_take pc) k
theorem sX11_take (hn : Nat.ble (lent vs).length 3 = true) (k : wp cx 121 d Q (bX11_take 0) 0 a (padN 3 (lent vs)) [] h) : M cx 121 d a vs h Q := m_go (by decide) (by decide) hn (e_pad 3 (eX11_take k))
abbrev jX11_farm : Nat := 122
theorem eX11_farm (k : wp cx 122 d Q (bX11_farm pc) pc a loc st h) : E cx 122 d a pc loc st h Q := wp_ok _ _ _ _ _ _ (kX11_farm pc) k
theorem sX11_farm (hn : Nat.ble (lent vs).length 6 = true) (k : wp cx 122 d Q (bX11_farm 0) 0 a (padN 6 (lent vs)) [] h) : M cx 122 d a vs h Q := m_go (by decide) (by decide) hn (e_pad 6 (eX11_farm k))
abbrev jX11_once : Nat := 123
theorem eX11_once (k : wp cx 123 d Q (bX11_once pc) pc a loc st h) : E cx 123 d a pc loc st h Q := wp_ok _ _ _ _ _ _ (kX11_once pc) k
theorem sX11_once (hn : Nat.ble (lent vs).length 2 = true) (k : wp cx 123 d Q (bX11_once 0) 0 a (padN 2 (lent vs)) [] h) : M cx 123 d a vs h Q := m_go (by decide) (by decide) hn (e_pad 2 (eX11_once k))
abbrev jX11_oneByOne : Nat := 124
theorem eX11_oneByOne (k : wp cx 124 d Q (bX11_oneByOne pc) pc a loc st h) : E cx 124 d a pc loc st h Q := wp_ok _ _ _ _ _ _ (kX11_oneByOne pc) k
theorem sX11_oneByOne (hn : Nat.ble (lent vs).length 2 = true) (k : wp cx 124 d Q (bX11_oneByOne 0) 0 a (padN 2 (lent vs)) [] h) : M cx 124 d a vs h Q := m_go (by decide) (by decide) hn (e_pad 2 (eX11_oneByOne k))
abbrev jX11_order : Nat := 125
theorem eX11_order (k : wp cx 125 d Q (bX11_order pc) pc a loc st h) : E cx 125 d a pc loc st h Q := wp_ok _ _ _ _ _ _ (kX11_order pc) k
theorem sX11_order (hn : Nat.ble (lent vs).length 2 = true) (k : wp cx 125 d Q (bX11_order 0) 0 a (padN 2 (lent vs)) [] h) : M cx 125 d a vs h Q := m_go (by decide) (by decide) hn (e_pad 2 (eX11_order k))
abbrev jX11_fell : Nat := 126
theorem eX11_fell (k : wp cx 126 d Q (bX11_fell pc) pc a loc st h) : E cx 126 d a pc loc st h Q := wp_ok _ _ _ _ _ _ (kX11_fell pc) k
theorem sX11_fell (hn : Nat.ble (lent vs).length 2 = true) (k : wp cx 126 d Q (bX11_fell 0) 0 a (padN 2 (lent vs)) [] h) : M cx 126 d a vs h Q := m_go (by decide) (by decide) hn (e_pad 2 (eX11_fell k))
abbrev jX11_gate : Nat := 127
theorem eX11_gate (k : wp cx 127 d Q (bX11_gate pc) pc a loc st h) : E cx 127 d a pc loc st h Q := wp_ok _ _ _ _ _ _ (kX11_gate pc) k
theorem sX11_gate (hn : Nat.ble (lent vs).length 8 = true) (k : wp cx 127 d Q (bX11_gate 0) 0 a (padN 8 (lent vs)) [] h) : M cx 127 d a vs h Q := m_go (by decide) (by decide) hn (e_pad 8 (eX11_gate k))
abbrev jX11_mend : Nat := 128
theorem eX11_mend (k : wp cx 128 d Q (bX11_mend pc) pc a loc st h) : E cx 128 d a pc loc st h Q := wp_ok _ _ _ _ _ _ (kX11_mend pc) k
theorem sX11_mend (hn : Nat.ble (lent vs).length 2 = true) (k : wp cx 128 d Q (bX11_mend 0) 0 a (padN 2 (lent vs)) [] h) : M cx 128 d a vs h Q := m_go (by decide) (by decide) hn (e_pad 2 (eX11_mend k))
abbrev jX11_game : Nat := 129
theorem eX11_game (k : wp cx 129 d Q (bX11_game pc) pc a loc st h) : E cx 129 d a pc loc st h Q := wp_ok _ _ _ _ _ _ (kX11_game pc) k
theorem sX11_game (hn : Nat.ble (lent vs).length 2 = true) (k : wp cx 129 d Q (bX11_game 0) 0 a (padN 2 (lent vs)) [] h) : M cx 129 d a vs h Q := m_go (by decide) (by decide) hn (e_pad 2 (eX11_game k))
abbrev jX11_night : Nat := 130
theorem eX11_night (k : wp cx 130 d Q (bX11_night pc) pc a loc st h) : E cx 130 d a pc loc st h Q := wp_ok _ _ _ _ _ _ (kX11_night pc) k
theorem sX11_night (hn : Nat.ble (lent vs).length 3 = true) (k : wp cx 130 d Q (bX11_night 0) 0 a (padN 3 (lent vs)) [] h) : M cx 130 d a vs h Q := m_go (by decide) (by decide) hn (e_pad 3 (eX11_night k))
abbrev jX11_winters : Nat := 131
theorem eX11_winters (k : wp cx 131 d Q (bX11_winters pc) pc a loc st h) : E cx 131 d a pc loc st h Q := wp_ok _ _ _ _ _ _ (kX11_winters pc) k
theorem sX11_winters (hn : Nat.ble (lent vs).length 3 = true) (k : wp cx 131 d Q (bX11_winters 0) 0 a (padN 3 (lent vs)) [] h) : M cx 131 d a vs h Q := m_go (by decide) (by decide) hn (e_pad 3 (eX11_winters k))
abbrev jX11_winter : Nat := 132
theorem eX11_winter (k : wp cx 132 d Q (bX11_winter pc) pc a loc st h) : E cx 132 d a pc loc st h Q := wp_ok _ _ _ _ _ _ (kX11_winter pc) k
theorem sX11_winter (hn : Nat.ble (lent vs).length 2 = true) (k : wp cx 132 d Q (bX11_winter 0) 0 a (padN 2 (lent vs)) [] h) : M cx 132 d a vs h Q := m_go (by decide) (by decide) hn (e_pad 2 (eX11_winter k))
abbrev jX11_image : Nat := 133
theorem eX11_image (k : wp cx 133 d Q (bX11_image pc) pc a loc st h) : E cx 133 d a pc loc st h Q := wp_ok _ _ _ _ _ _ (kX11_image pc) k
theorem sX11_image (hn : Nat.ble (lent vs).length 2 = true) (k : wp cx 133 d Q (bX11_image 0) 0 a (padN 2 (lent vs)) [] h) : M cx 133 d a vs h Q := m_go (by decide) (by decide) hn (e_pad 2 (eX11_image k))
abbrev jX11_back : Nat := 134
theorem eX11_back (k : wp cx 134 d Q (bX11_back pc) pc a loc st h) : E cx 134 d a pc loc st h Q := wp_ok _ _ _ _ _ _ (kX11_back pc) k
theorem sX11_back (hn : Nat.ble (lent vs).length 2 = true) (k : wp cx 134 d Q (bX11_back 0) 0 a (padN 2 (lent vs)) [] h) : M cx 134 d a vs h Q := m_go (by decide) (by decide) hn (e_pad 2 (eX11_back k))
abbrev jX11_count : Nat := 135
theorem eX11_count (k : wp cx 135 d Q (bX11_count pc) pc a loc st h) : E cx 135 d a pc loc st h Q := wp_ok _ _ _ _ _ _ (kX11_count pc) k
theorem sX11_count (hn : Nat.ble (lent vs).length 2 = true) (k : wp cx 135 d Q (bX11_count 0) 0 a (padN 2 (lent vs)) [] h) : M cx 135 d a vs h Q := m_go (by decide) (by decide) hn (e_pad 2 (eX11_count k))
abbrev jX11_status : Nat := 136
theorem eX11_status (k : wp cx 136 d Q (bX11_status pc) pc a loc st h) : E cx 136 d a pc loc st h Q := wp_ok _ _ _ _ _ _ (kX11_status pc) k
theorem sX11_status (hn : Nat.ble (lent vs).length 1 = true) (k : wp cx 136 d Q (bX11_status 0) 0 a (padN 1 (lent vs)) [] h) : M cx 136 d a vs h Q := m_go (by decide) (by decide) hn (e_pad 1 (eX11_status k))
abbrev jX11_refuse : Nat := 137
theorem eX11_refuse (k : wp cx 137 d Q (bX11_refuse pc) pc a loc st h) : E cx 137 d a pc loc st h Q := wp_ok _ _ _ _ _ _ (kX11_refuse pc) k
theorem sX11_refuse (hn : Nat.ble (lent vs).length 3 = true) (k : wp cx 137 d Q (bX11_refuse 0) 0 a (padN 3 (lent vs)) [] h) : M cx 137 d a vs h Q := m_go (by decide) (by decide) hn (e_pad 3 (eX11_refuse k))
abbrev jX11_accept : Nat := 138
theorem eX11_accept (k : wp cx 138 d Q (bX11_accept pc) pc a loc st h) : E cx 138 d a pc loc st h Q := wp_ok _ _ _ _ _ _ (kX11_accept pc) k
theorem sX11_accept (hn : Nat.ble (lent vs).length 2 = true) (k : wp cx 138 d Q (bX11_accept 0) 0 a (padN 2 (lent vs)) [] h) : M cx 138 d a vs h Q := m_go (by decide) (by decide) hn (e_pad 2 (eX11_accept k))
abbrev jX11_hindrance : Nat := 139
theorem eX11_hindrance (k : wp cx 139 d Q (bX11_hindrance pc) pc a loc st h) : E cx 139 d a pc loc st h Q := wp_ok _ _ _ _ _ _ (kX11_hindrance pc) k
theorem sX11_hindrance (hn : Nat.ble (lent vs).length 8 = true) (k : wp cx 139 d Q (bX11_hindrance 0) 0 a (padN 8 (lent vs)) [] h) : M cx 139 d a vs h Q := m_go (by decide) (by decide) hn (e_pad 8 (eX11_hindrance k))
abbrev jX11_addFromTape : Nat := 140
theorem eX11_addFromTape (k : wp cx 140 d Q (bX11_addFromTape pc) pc a loc st h) : E cx 140 d a pc loc st h Q := wp_ok _ _ _ _ _ _ (kX11_addFromTape pc) k
theorem sX11_addFromTape (hn : Nat.ble (lent vs).length 7 = true) (k : wp cx 140 d Q (bX11_addFromTape 0) 0 a (padN 7 (lent vs)) [] h) : M cx 140 d a vs h Q := m_go (by decide) (by decide) hn (e_pad 7 (eX11_addFromTape k))
abbrev jX11_refresh : Nat := 141
theorem eX11_refresh (k : wp cx 141 d Q (bX11_refresh pc) pc a loc st h) : E cx 141 d a pc loc st h Q := wp_ok _ _ _ _ _ _ (kX11_refresh pc) k
theorem sX11_refresh (hn : Nat.ble (lent vs).length 1 = true) (k : wp cx 141 d Q (bX11_refresh 0) 0 a (padN 1 (lent vs)) [] h) : M cx 141 d a vs h Q := m_go (by decide) (by decide) hn (e_pad 1 (eX11_refresh k))
abbrev jX11_isWithin : Nat := 142
theorem eX11_isWithin (k : wp cx 142 d Q (bX11_isWithin pc) pc a loc st h) : E cx 142 d a pc loc st h Q := wp_ok _ _ _ _ _ _ (kX11_isWithin pc) k
theorem sX11_isWithin (hn : Nat.ble (lent vs).length 3 = true) (k : wp cx 142 d Q (bX11_isWithin 0) 0 a (padN 3 (lent vs)) [] h) : M cx 142 d a vs h Q := m_go (by decide) (by decide) hn (e_pad 3 (eX11_isWithin k))
abbrev jX11_isPart : Nat := 143
theorem eX11_isPart (k : wp cx 143 d Q (bX11_isPart pc) pc a loc st h) : E cx 143 d a pc loc st h Q := wp_ok _ _ _ _ _ _ (kX11_isPart pc) k
theorem sX11_isPart (hn : Nat.ble (lent vs).length 2 = true) (k : wp cx 143 d Q (bX11_isPart 0) 0 a (padN 2 (lent vs)) [] h) : M cx 143 d a vs h Q := m_go (by decide) (by decide) hn (e_pad 2 (eX11_isPart k))
abbrev jX12_lies : Nat := 144
theorem eX12_lies (k : wp cx 144 d Q (bX12_lies pc) pc a loc st h) : E cx 144 d a pc loc st h Q := wp_ok _ _ _ _ _ _ (kX12_lies pc) k
theorem sX12_lies (hn : Nat.ble (lent vs).length 3 = true) (k : wp cx 144 d Q (bX12_lies 0) 0 a (padN 3 (lent vs)) [] h) : M cx 144 d a vs h Q := m_go (by decide) (by decide) hn (e_pad 3 (eX12_lies k))
abbrev jX12_refuses : Nat := 145
theorem eX12_refuses (k : wp cx 145 d Q (bX12_refuses pc) pc a loc st h) : E cx 145 d a pc loc st h Q := wp_ok _ _ _ _ _ _ (kX12_refuses pc) k
theorem sX12_refuses (hn : Nat.ble (lent vs).length 2 = true) (k : wp cx 145 d Q (bX12_refuses 0) 0 a (padN 2 (lent vs)) [] h) : M cx 145 d a vs h Q := m_go (by decide) (by decide) hn (e_pad 2 (eX12_refuses k))
abbrev jX12_good : Nat := 146
theorem eX12_good (k : wp cx 146 d Q (bX12_good pc) pc a loc st h) : E cx 146 d a pc loc st h Q := wp_ok _ _ _ _ _ _ (kX12_good pc) k
theorem sX12_good (hn : Nat.ble (lent vs).length 2 = true) (k : wp cx 146 d Q (bX12_good 0) 0 a (padN 2 (lent vs)) [] h) : M cx 146 d a vs h Q := m_go (by decide) (by decide) hn (e_pad 2 (eX12_good k))
abbrev jX12_isIn : Nat := 147
theorem eX12_isIn (k : wp cx 147 d Q (bX12_isIn pc) pc a loc st h) : E cx 147 d a pc loc st h Q := wp_ok _ _ _ _ _ _ (kX12_isIn pc) k
theorem sX12_isIn (hn : Nat.ble (lent vs).length 2 = true) (k : wp cx 147 d Q (bX12_isIn 0) 0 a (padN 2 (lent vs)) [] h) : M cx 147 d a vs h Q := m_go (by decide) (by decide) hn (e_pad 2 (eX12_isIn k))
abbrev jX12_ones : Nat := 148
theorem eX12_ones (k : wp cx 148 d Q (bX12_ones pc) pc a loc st h) : E cx 148 d a pc loc st h Q := wp_ok _ _ _ _ _ _ (kX12_ones pc) k
theorem sX12_ones (hn : Nat.ble (lent vs).length 3 = true) (k : wp cx 148 d Q (bX12_ones 0) 0 a (padN 3 (lent vs)) [] h) : M cx 148 d a vs h Q := m_go (by decide) (by decide) hn (e_pad 3 (eX12_ones k))
abbrev jX12_image : Nat := 150
theorem eX12_image (k : wp cx 150 d Q (bX12_image pc) pc a loc st h) : E cx 150 d a pc loc st h Q := wp_ok _ _ _ _ _ _ (kX12_image pc) k
theorem sX12_image (hn : Nat.ble (lent vs).length 3 = true) (k : wp cx 150 d Q (bX12_image 0) 0 a (padN 3 (lent vs)) [] h) : M cx 150 d a vs h Q := m_go (by decide) (by decide) hn (e_pad 3 (eX12_image k))
abbrev jX12_back : Nat := 151
theorem eX12_back (k : wp cx 151 d Q (bX12_back pc) pc a loc st h) : E cx 151 d a pc loc st h Q := wp_ok _ _ _ _ _ _ (kX12_back pc) k
theorem sX12_back (hn : Nat.ble (lent vs).length 3 = true) (k : wp cx 151 d Q (bX12_back 0) 0 a (padN 3 (lent vs)) [] h) : M cx 151 d a vs h Q := m_go (by decide) (by decide) hn (e_pad 3 (eX12_back k))
abbrev jX12_stones : Nat := 152
theorem eX12_stones (k : wp cx 152 d Q (bX12_stones pc) pc a loc st h) : E cx 152 d a pc loc st h Q := wp_ok _ _ _ _ _ _ (kX12_stones pc) k
theorem sX12_stones (hn : Nat.ble (lent vs).length 1 = true) (k : wp cx 152 d Q (bX12_stones 0) 0 a (padN 1 (lent vs)) [] h) : M cx 152 d a vs h Q := m_go (by decide) (by decide) hn (e_pad 1 (eX12_stones k))
abbrev jX12_spares : Nat := 153
theorem eX12_spares (k : wp cx 153 d Q (bX12_spares pc) pc a loc st h) : E cx 153 d a pc loc st h Q := wp_ok _ _ _ _ _ _ (kX12_spares pc) k
theorem sX12_spares (hn : Nat.ble (lent vs).length 1 = true) (k : wp cx 153 d Q (bX12_spares 0) 0 a (padN 1 (lent vs)) [] h) : M cx 153 d a vs h Q := m_go (by decide) (by decide) hn (e_pad 1 (eX12_spares k))
abbrev jX12_isStone : Nat := 154
theorem eX12_isStone (k : wp cx 154 d Q (bX12_isStone pc) pc a loc st h) : E cx 154 d a pc loc st h Q := wp_ok _ _ _ _ _ _ (kX12_isStone pc) k
theorem sX12_isStone (hn : Nat.ble (lent vs).length 2 = true) (k : wp cx 154 d Q (bX12_isStone 0) 0 a (padN 2 (lent vs)) [] h) : M cx 154 d a vs h Q := m_go (by decide) (by decide) hn (e_pad 2 (eX12_isStone k))
abbrev jX12_factOf : Nat := 155
theorem eX12_factOf (k : wp cx 155 d Q (bX12_factOf pc) pc a loc st h) : E cx 155 d a pc loc st h Q := wp_ok _ _ _ _ _ _ (kX12_factOf pc) k
theorem sX12_factOf (hn : Nat.ble (lent vs).length 3 = true) (k : wp cx 155 d Q (bX12_factOf 0) 0 a (padN 3 (lent vs)) [] h) : M cx 155 d a vs h Q := m_go (by decide) (by decide) hn (e_pad 3 (eX12_factOf k))
abbrev jX12_isItem : Nat := 156
theorem eX12_isItem (k : wp cx 156 d Q (bX12_isItem pc) pc a loc st h) : E cx 156 d a pc loc st h Q := wp_ok _ _ _ _ _ _ (kX12_isItem pc) k
theorem sX12_isItem (hn : Nat.ble (lent vs).length 2 = true) (k : wp cx 156 d Q (bX12_isItem 0) 0 a (padN 2 (lent vs)) [] h) : M cx 156 d a vs h Q := m_go (by decide) (by decide) hn (e_pad 2 (eX12_isItem k))
abbrev jX12_covers : Nat := 157
theorem eX12_covers (k : wp cx 157 d Q (bX12_covers pc) pc a loc st h) : E cx 157 d a pc loc st h Q := wp_ok _ _ _ _ _ _ (kX12_covers pc) k
theorem sX12_covers (hn : Nat.ble (lent vs).length 4 = true) (k : wp cx 157 d Q (bX12_covers 0) 0 a (padN 4 (lent vs)) [] h) : M cx 157 d a vs h Q := m_go (by decide) (by decide) hn (e_pad 4 (eX12_covers k))
abbrev jX12_canBe : Nat := 158
theorem eX12_canBe (k : wp cx 158 d Q (bX12_canBe pc) pc a loc st h) : E cx 158 d a pc loc st h Q := wp_ok _ _ _ _ _ _ (kX12_canBe pc) k
theorem sX12_canBe (hn : Nat.ble (lent vs).length 5 = true) (k : wp cx 158 d Q (bX12_canBe 0) 0 a (padN 5 (lent vs)) [] h) : M cx 158 d a vs h Q := m_go (by decide) (by decide) hn (e_pad 5 (eX12_canBe k))
abbrev jX12_isFree : Nat := 159
theorem eX12_isFree (k : wp cx 159 d Q (bX12_isFree pc) pc a loc st h) : E cx 159 d a pc loc st h Q := wp_ok _ _ _ _ _ _ (kX12_isFree pc) k
theorem sX12_isFree (hn : Nat.ble (lent vs).length 7 = true) (k : wp cx 159 d Q (bX12_isFree 0) 0 a (padN 7 (lent vs)) [] h) : M cx 159 d a vs h Q := m_go (by decide) (by decide) hn (e_pad 7 (eX12_isFree k))
abbrev jX12_lays : Nat := 160
theorem eX12_lays (k : wp cx 160 d Q (bX12_lays pc) pc a loc st h) : E cx 160 d a pc loc st h Q := wp_ok _ _ _ _ _ _ (kX12_lays pc) k
theorem sX12_lays (hn : Nat.ble (lent vs).length 8 = true) (k : wp cx 160 d Q (bX12_lays 0) 0 a (padN 8 (lent vs)) [] h) : M cx 160 d a vs h Q := m_go (by decide) (by decide) hn (e_pad 8 (eX12_lays k))
abbrev jX12_adds : Nat := 161
theorem eX12_adds (k : wp cx 161 d Q (bX12_adds pc) pc a loc st h) : E cx 161 d a pc loc st h Q := wp_ok _ _ _ _ _ _ (kX12_adds pc) k
theorem sX12_adds (hn : Nat.ble (lent vs).length 7 = true) (k : wp cx 161 d Q (bX12_adds 0) 0 a (padN 7 (lent vs)) [] h) : M cx 161 d a vs h Q := m_go (by decide) (by decide) hn (e_pad 7 (eX12_adds k))
abbrev jX12_stone : Nat := 162
theorem eX12_stone (k : wp cx 162 d Q (bX12_stone pc) pc a loc st h) : E cx 162 d a pc loc st h Q := wp_ok _ _ _ _ _ _ (kX12_stone pc) k
theorem sX12_stone (hn : Nat.ble (lent vs).length 6 = true) (k : wp cx 162 d Q (bX12_stone 0) 0 a (padN 6 (lent vs)) [] h) : M cx 162 d a vs h Q := m_go (by decide) (by decide) hn (e_pad 6 (eX12_stone k))
abbrev jX12_spare : Nat := 163
theorem eX12_spare (k : wp cx 163 d Q (bX12_spare pc) pc a loc st h) : E cx 163 d a pc loc st h Q := wp_ok _ _ _ _ _ _ (kX12_spare pc) k
theorem sX12_spare (hn : Nat.ble (lent vs).length 7 = true) (k : wp cx 163 d Q (bX12_spare 0) 0 a (padN 7 (lent vs)) [] h) : M cx 163 d a vs h Q := m_go (by decide) (by decide) hn (e_pad 7 (eX12_spare k))
abbrev jX12_put : Nat := 164
theorem eX12_put (k : wp cx 164 d Q (bX12_put pc) pc a loc st h) : E cx 164 d a pc loc st h Q := wp_ok _ _ _ _ _ _ (kX12_put pc) k
theorem sX12_put (hn : Nat.ble (lent vs).length 5 = true) (k : wp cx 164 d Q (bX12_put 0) 0 a (padN 5 (lent vs)) [] h) : M cx 164 d a vs h Q := m_go (by decide) (by decide) hn (e_pad 5 (eX12_put k))
abbrev jX12_of : Nat := 165
theorem eX12_of (k : wp cx 165 d Q (bX12_of pc) pc a loc st h) : E cx 165 d a pc loc st h Q := wp_ok _ _ _ _ _ _ (kX12_of pc) k
theorem sX12_of (hn : Nat.ble (lent vs).length 3 = true) (k : wp cx 165 d Q (bX12_of 0) 0 a (padN 3 (lent vs)) [] h) : M cx 165 d a vs h Q := m_go (by decide) (by decide) hn (e_pad 3 (eX12_of k))
abbrev jX12_terms : Nat := 166
theorem eX12_terms (k : wp cx 166 d Q (bX12_terms pc) pc a loc st h) : E cx 166 d a pc loc st h Q := wp_ok _ _ _ _ _ _ (kX12_terms pc) k
theorem sX12_terms (hn : Nat.ble (lent vs).length 4 = true) (k : wp cx 166 d Q (bX12_terms 0) 0 a (padN 4 (lent vs)) [] h) : M cx 166 d a vs h Q := m_go (by decide) (by decide) hn (e_pad 4 (eX12_terms k))
abbrev jX12_row : Nat := 167
theorem eX12_row (k : wp cx 167 d Q (bX12_row pc) pc a loc st h) : E cx 167 d a pc loc st h Q := wp_ok _ _ _ _ _ _ (kX12_row pc) k
theorem sX12_row (hn : Nat.ble (lent vs).length 5 = true) (k : wp cx 167 d Q (bX12_row 0) 0 a (padN 5 (lent vs)) [] h) : M cx 167 d a vs h Q := m_go (by decide) (by decide) hn (e_pad 5 (eX12_row k))
abbrev jX12_rubble : Nat := 168
theorem eX12_rubble (k : wp cx 168 d Q (bX12_rubble pc) pc a loc st h) : E cx 168 d a pc loc st h Q := wp_ok _ _ _ _ _ _ (kX12_rubble pc) k
theorem sX12_rubble (hn : Nat.ble (lent vs).length 1 = true) (k : wp cx 168 d Q (bX12_rubble 0) 0 a (padN 1 (lent vs)) [] h) : M cx 168 d a vs h Q := m_go (by decide) (by decide) hn (e_pad 1 (eX12_rubble k))
abbrev jX12_feed : Nat := 169
theorem eX12_feed (k : wp cx 169 d Q (bX12_feed pc) pc a loc st h) : E cx 169 d a pc loc st h Q := wp_ok _ _ _ _ _ _ (kX12_feed pc) k
theorem sX12_feed (hn : Nat.ble (lent vs).length 7 = true) (k : wp cx 169 d Q (bX12_feed 0) 0 a (padN 7 (lent vs)) [] h) : M cx 169 d a vs h Q := m_go (by decide) (by decide) hn (e_pad 7 (eX12_feed k))
abbrev jX12_end : Nat := 170
theorem eX12_end (k : wp cx 170 d Q (bX12_end pc) pc a loc st h) : E cx 170 d a pc loc st h Q := wp_ok _ _ _ _ _ _ (kX12_end pc) k
theorem sX12_end (hn : Nat.ble (lent vs).length 2 = true) (k : wp cx 170 d Q (bX12_end 0) 0 a (padN 2 (lent vs)) [] h) : M cx 170 d a vs h Q := m_go (by decide) (by decide) hn (e_pad 2 (eX12_end k))
abbrev jX12_isSmall : Nat := 171
theorem eX12_isSmall (k : wp cx 171 d Q (bX12_isSmall pc) pc a loc st h) : E cx 171 d a pc loc st h Q := wp_ok _ _ _ _ _ _ (kX12_isSmall pc) k
theorem sX12_isSmall (hn : Nat.ble (lent vs).length 1 = true) (k : wp cx 171 d Q (bX12_isSmall 0) 0 a (padN 1 (lent vs)) [] h) : M cx 171 d a vs h Q := m_go (by decide) (by decide) hn (e_pad 1 (eX12_isSmall k))
abbrev jX12_isDigit : Nat := 172
theorem eX12_isDigit (k : wp cx 172 d Q (bX12_isDigit pc) pc a loc st h) : E cx 172 d a pc loc st h Q := wp_ok _ _ _ _ _ _ (kX12_isDigit pc) k
theorem sX12_isDigit (hn : Nat.ble (lent vs).length 1 = true) (k : wp cx 172 d Q (bX12_isDigit 0) 0 a (padN 1 (lent vs)) [] h) : M cx 172 d a vs h Q := m_go (by decide) (by decide) hn (e_pad 1 (eX12_isDigit k))
abbrev jX12_wordOf : Nat := 173
theorem eX12_wordOf (k : wp cx 173 d Q (bX12_wordOf pc) pc a loc st h) : E cx 173 d a pc loc st h Q := wp_ok _ _ _ _ _ _ (kX12_wordOf pc) k
theorem sX12_wordOf (hn : Nat.ble (lent vs).length 8 = true) (k : wp cx 173 d Q (bX12_wordOf 0) 0 a (padN 8 (lent vs)) [] h) : M cx 173 d a vs h Q := m_go (by decide) (by decide) hn (e_pad 8 (eX12_wordOf k))
abbrev jX12_splits : Nat := 174
theorem eX12_splits (k : wp cx 174 d Q (bX12_splits pc) pc a loc st h) : E cx 174 d a pc loc st h Q := wp_ok _ _ _ _ _ _ (kX12_splits pc) k
theorem sX12_splits (hn : Nat.ble (lent vs).length 6 = true) (k : wp cx 174 d Q (bX12_splits 0) 0 a (padN 6 (lent vs)) [] h) : M cx 174 d a vs h Q := m_go (by decide) (by decide) hn (e_pad 6 (eX12_splits k))
abbrev jX12_fine : Nat := 175
theorem eX12_fine (k : wp cx 175 d Q (bX12_fine pc) pc a loc st h) : E cx 175 d a pc loc st h Q := wp_ok _ _ _ _ _ _ (kX12_fine pc) k
theorem sX12_fine (hn : Nat.ble (lent vs).length 1 = true) (k : wp cx 175 d Q (bX12_fine 0) 0 a (padN 1 (lent vs)) [] h) : M cx 175 d a vs h Q := m_go (by decide) (by decide) hn (e_pad 1 (eX12_fine k))
abbrev jX12_faults : Nat := 176
theorem eX12_faults (k : wp cx 176 d Q (bX12_faults pc) pc a loc st h) : E cx 176 d a pc loc st h Q := wp_ok _ _ _ _ _ _ (kX12_faults pc) k
theorem sX12_faults (hn : Nat.ble (lent vs).length 1 = true) (k : wp cx 176 d Q (bX12_faults 0) 0 a (padN 1 (lent vs)) [] h) : M cx 176 d a vs h Q := m_go (by decide) (by decide) hn (e_pad 1 (eX12_faults k))
abbrev jX12_takes0 : Nat := 177
theorem eX12_takes0 (k : wp cx 177 d Q (bX12_takes0 pc) pc a loc st h) : E cx 177 d a pc loc st h Q := wp_ok _ _ _ _ _ _ (kX12_takes0 pc) k
theorem sX12_takes0 (hn : Nat.ble (lent vs).length 3 = true) (k : wp cx 177 d Q (bX12_takes0 0) 0 a (padN 3 (lent vs)) [] h) : M cx 177 d a vs h Q := m_go (by decide) (by decide) hn (e_pad 3 (eX12_takes0 k))
abbrev jX12_must : Nat := 178
theorem eX12_must (k : wp cx 178 d Q (bX12_must pc) pc a loc st h) : E cx 178 d a pc loc st h Q := wp_ok _ _ _ _ _ _ (kX12_must pc) k
theorem sX12_must (hn : Nat.ble (lent vs).length 2 = true) (k : wp cx 178 d Q (bX12_must 0) 0 a (padN 2 (lent vs)) [] h) : M cx 178 d a vs h Q := m_go (by decide) (by decide) hn (e_pad 2 (eX12_must k))
abbrev jX12_leaf : Nat := 179
theorem eX12_leaf (k : wp cx 179 d Q (bX12_leaf pc) pc a loc st h) : E cx 179 d a pc loc st h Q := wp_ok _ _ _ _ _ _ (kX12_leaf pc) k
theorem sX12_leaf (hn : Nat.ble (lent vs).length 1 = true) (k : wp cx 179 d Q (bX12_leaf 0) 0 a (padN 1 (lent vs)) [] h) : M cx 179 d a vs h Q := m_go (by decide) (by decide) hn (e_pad 1 (eX12_leaf k))
abbrev jX12_sign : Nat := 180
theorem eX12_sign (k : wp cx 180 d Q (bX12_sign pc) pc a loc st h) : E cx 180 d a pc loc st h Q := wp_ok _ _ _ _ _ _ (kX12_sign pc) k
theorem sX12_sign (hn : Nat.ble (lent vs).length 1 = true) (k : wp cx 180 d Q (bX12_sign 0) 0 a (padN 1 (lent vs)) [] h) : M cx 180 d a vs h Q := m_go (by decide) (by decide) hn (e_pad 1 (eX12_sign k))
abbrev jX12_readClause : Nat := 181
theorem eX12_readClause (k : wp cx 181 d Q (bX12_readClause pc) pc a loc st h) : E cx 181 d a pc loc st h Q := wp_ok _ _ _ _ _ _ (kX12_readClause pc) k
theorem sX12_readClause (hn : Nat.ble (lent vs).length 1 = true) (k : wp cx 181 d Q (bX12_readClause 0) 0 a (padN 1 (lent vs)) [] h) : M cx 181 d a vs h Q := m_go (by decide) (by decide) hn (e_pad 1 (eX12_readClause k))
abbrev jX12_readTest : Nat := 182
theorem eX12_readTest (k : wp cx 182 d Q (bX12_readTest pc) pc a loc st h) : E cx 182 d a pc loc st h Q := wp_ok _ _ _ _ _ _ (kX12_readTest pc) k
theorem sX12_readTest (hn : Nat.ble (lent vs).length 2 = true) (k : wp cx 182 d Q (bX12_readTest 0) 0 a (padN 2 (lent vs)) [] h) : M cx 182 d a vs h Q := m_go (by decide) (by decide) hn (e_pad 2 (eX12_readTest k))
abbrev jX12_readBoth : Nat := 183
theorem eX12_readBoth (k : wp cx 183 d Q (bX12_readBoth pc) pc a loc st h) : E cx 183 d a pc loc st h Q := wp_ok _ _ _ _ _ _ (kX12_readBoth pc) k
theorem sX12_readBoth (hn : Nat.ble (lent vs).length 2 = true) (k : wp cx 183 d Q (bX12_readBoth 0) 0 a (padN 2 (lent vs)) [] h) : M cx 183 d a vs h Q := m_go (by decide) (by decide) hn (e_pad 2 (eX12_readBoth k))
abbrev jX12_readPlain : Nat := 184
theorem eX12_readPlain (k : wp cx 184 d Q (bX12_readPlain pc) pc a loc st h) : E cx 184 d a pc loc st h Q := wp_ok _ _ _ _ _ _ (kX12_readPlain pc) k
theorem sX12_readPlain (hn : Nat.ble (lent vs).length 4 = true) (k : wp cx 184 d Q (bX12_readPlain 0) 0 a (padN 4 (lent vs)) [] h) : M cx 184 d a vs h Q := m_go (by decide) (by decide) hn (e_pad 4 (eX12_readPlain k))
abbrev jX12_readSum : Nat := 185
theorem eX12_readSum (k : wp cx 185 d Q (bX12_readSum pc) pc a loc st h) : E cx 185 d a pc loc st h Q := wp_ok _ _ _ _ _ _ (kX12_readSum pc) k
theorem sX12_readSum (hn : Nat.ble (lent vs).length 2 = true) (k : wp cx 185 d Q (bX12_readSum 0) 0 a (padN 2 (lent vs)) [] h) : M cx 185 d a vs h Q := m_go (by decide) (by decide) hn (e_pad 2 (eX12_readSum k))
abbrev jX12_readTerm : Nat := 186
theorem eX12_readTerm (k : wp cx 186 d Q (bX12_readTerm pc) pc a loc st h) : E cx 186 d a pc loc st h Q := wp_ok _ _ _ _ _ _ (kX12_readTerm pc) k
theorem sX12_readTerm (hn : Nat.ble (lent vs).length 2 = true) (k : wp cx 186 d Q (bX12_readTerm 0) 0 a (padN 2 (lent vs)) [] h) : M cx 186 d a vs h Q := m_go (by decide) (by decide) hn (e_pad 2 (eX12_readTerm k))
abbrev jX12_readPart : Nat := 187
theorem eX12_readPart (k : wp cx 187 d Q (bX12_readPart pc) pc a loc st h) : E cx 187 d a pc loc st h Q := wp_ok _ _ _ _ _ _ (kX12_readPart pc) k
theorem sX12_readPart (hn : Nat.ble (lent vs).length 3 = true) (k : wp cx 187 d Q (bX12_readPart 0) 0 a (padN 3 (lent vs)) [] h) : M cx 187 d a vs h Q := m_go (by decide) (by decide) hn (e_pad 3 (eX12_readPart k))
abbrev jX12_reads : Nat := 188
theorem eX12_reads (k : wp cx 188 d Q (bX12_reads pc) pc a loc st h) : E cx 188 d a pc loc st h Q := wp_ok _ _ _ _ _ _ (kX12_reads pc) k
theorem sX12_reads (hn : Nat.ble (lent vs).length 2 = true) (k : wp cx 188 d Q (bX12_reads 0) 0 a (padN 2 (lent vs)) [] h) : M cx 188 d a vs h Q := m_go (by decide) (by decide) hn (e_pad 2 (eX12_reads k))
abbrev jX12_law : Nat := 189
theorem eX12_law (k : wp cx 189 d Q (bX12_law pc) pc a loc st h) : E cx 189 d a pc loc st h Q := wp_ok _ _ _ _ _ _ (kX12_law pc) k
theorem sX12_law (hn : Nat.ble (lent vs).length 3 = true) (k : wp cx 189 d Q (bX12_law 0) 0 a (padN 3 (lent vs)) [] h) : M cx 189 d a vs h Q := m_go (by decide) (by decide) hn (e_pad 3 (eX12_law k))
abbrev jX12_fault : Nat := 190
theorem eX12_fault (k : wp cx 190 d Q (bX12_fault pc) pc a loc st h) : E cx 190 d a pc loc st h Q := wp_ok _ _ _ _ _ _ (kX12_fault pc) k
theorem sX12_fault (hn : Nat.ble (lent vs).length 1 = true) (k : wp cx 190 d Q (bX12_fault 0) 0 a (padN 1 (lent vs)) [] h) : M cx 190 d a vs h Q := m_go (by decide) (by decide) hn (e_pad 1 (eX12_fault k))
abbrev jX12_force : Nat := 191
theorem eX12_force (k : wp cx 191 d Q (bX12_force pc) pc a loc st h) : E cx 191 d a pc loc st h Q := wp_ok _ _ _ _ _ _ (kX12_force pc) k
theorem sX12_force (hn : Nat.ble (lent vs).length 3 = true) (k : wp cx 191 d Q (bX12_force 0) 0 a (padN 3 (lent vs)) [] h) : M cx 191 d a vs h Q := m_go (by decide) (by decide) hn (e_pad 3 (eX12_force k))
abbrev jX12_codeAt : Nat := 192
theorem eX12_codeAt (k : wp cx 192 d Q (bX12_codeAt pc) pc a loc st h) : E cx 192 d a pc loc st h Q := wp_ok _ _ _ _ _ _ (kX12_codeAt pc) k
theorem sX12_codeAt (hn : Nat.ble (lent vs).length 2 = true) (k : wp cx 192 d Q (bX12_codeAt 0) 0 a (padN 2 (lent vs)) [] h) : M cx 192 d a vs h Q := m_go (by decide) (by decide) hn (e_pad 2 (eX12_codeAt k))
abbrev jX12_passes0 : Nat := 193
theorem eX12_passes0 (k : wp cx 193 d Q (bX12_passes0 pc) pc a loc st h) : E cx 193 d a pc loc st h Q := wp_ok _ _ _ _ _ _ (kX12_passes0 pc) k
theorem sX12_passes0 (hn : Nat.ble (lent vs).length 3 = true) (k : wp cx 193 d Q (bX12_passes0 0) 0 a (padN 3 (lent vs)) [] h) : M cx 193 d a vs h Q := m_go (by decide) (by decide) hn (e_pad 3 (eX12_passes0 k))
abbrev jX12_bounded : Nat := 194
theorem eX12_bounded (k : wp cx 194 d Q (bX12_bounded pc) pc a loc st h) : E cx 194 d a pc loc st h Q := wp_ok _ _ _ _ _ _ (kX12_bounded pc) k
theorem sX12_bounded (hn : Nat.ble (lent vs).length 4 = true) (k : wp cx 194 d Q (bX12_bounded 0) 0 a (padN 4 (lent vs)) [] h) : M cx 194 d a vs h Q := m_go (by decide) (by decide) hn (e_pad 4 (eX12_bounded k))
abbrev jX12_sumOf : Nat := 195
theorem eX12_sumOf (k : wp cx 195 d Q (bX12_sumOf pc) pc a loc st h) : E cx 195 d a pc loc st h Q := wp_ok _ _ _ _ _ _ (kX12_sumOf pc) k
theorem sX12_sumOf (hn : Nat.ble (lent vs).length 7 = true) (k : wp cx 195 d Q (bX12_sumOf 0) 0 a (padN 7 (lent vs)) [] h) : M cx 195 d a vs h Q := m_go (by decide) (by decide) hn (e_pad 7 (eX12_sumOf k))
abbrev jX12_termOf : Nat := 196
theorem eX12_termOf (k : wp cx 196 d Q (bX12_termOf pc) pc a loc st h) : E cx 196 d a pc loc st h Q := wp_ok _ _ _ _ _ _ (kX12_termOf pc) k
theorem sX12_termOf (hn : Nat.ble (lent vs).length 7 = true) (k : wp cx 196 d Q (bX12_termOf 0) 0 a (padN 7 (lent vs)) [] h) : M cx 196 d a vs h Q := m_go (by decide) (by decide) hn (e_pad 7 (eX12_termOf k))
abbrev jX12_partOf : Nat := 197
theorem eX12_partOf (k : wp cx 197 d Q (bX12_partOf pc) pc a loc st h) : E cx 197 d a pc loc st h Q := wp_ok _ _ _ _ _ _ (kX12_partOf pc) k
theorem sX12_partOf (hn : Nat.ble (lent vs).length 4 = true) (k : wp cx 197 d Q (bX12_partOf 0) 0 a (padN 4 (lent vs)) [] h) : M cx 197 d a vs h Q := m_go (by decide) (by decide) hn (e_pad 4 (eX12_partOf k))
abbrev jX12_testOf : Nat := 198
theorem eX12_testOf (k : wp cx 198 d Q (bX12_testOf pc) pc a loc st h) : E cx 198 d a pc loc st h Q := wp_ok _ _ _ _ _ _ (kX12_testOf pc) k
theorem sX12_testOf (hn : Nat.ble (lent vs).length 4 = true) (k : wp cx 198 d Q (bX12_testOf 0) 0 a (padN 4 (lent vs)) [] h) : M cx 198 d a vs h Q := m_go (by decide) (by decide) hn (e_pad 4 (eX12_testOf k))
abbrev jX12_bothOf : Nat := 199
theorem eX12_bothOf (k : wp cx 199 d Q (bX12_bothOf pc) pc a loc st h) : E cx 199 d a pc loc st h Q := wp_ok _ _ _ _ _ _ (kX12_bothOf pc) k
theorem sX12_bothOf (hn : Nat.ble (lent vs).length 4 = true) (k : wp cx 199 d Q (bX12_bothOf 0) 0 a (padN 4 (lent vs)) [] h) : M cx 199 d a vs h Q := m_go (by decide) (by decide) hn (e_pad 4 (eX12_bothOf k))
abbrev jX12_plainOf : Nat := 200
theorem eX12_plainOf (k : wp cx 200 d Q (bX12_plainOf pc) pc a loc st h) : E cx 200 d a pc loc st h Q := wp_ok _ _ _ _ _ _ (kX12_plainOf pc) k
theorem sX12_plainOf (hn : Nat.ble (lent vs).length 3 = true) (k : wp cx 200 d Q (bX12_plainOf 0) 0 a (padN 3 (lent vs)) [] h) : M cx 200 d a vs h Q := m_go (by decide) (by decide) hn (e_pad 3 (eX12_plainOf k))
abbrev jX12_positiveOf : Nat := 201
theorem eX12_positiveOf (k : wp cx 201 d Q (bX12_positiveOf pc) pc a loc st h) : E cx 201 d a pc loc st h Q := wp_ok _ _ _ _ _ _ (kX12_positiveOf pc) k
theorem sX12_positiveOf (hn : Nat.ble (lent vs).length 7 = true) (k : wp cx 201 d Q (bX12_positiveOf 0) 0 a (padN 7 (lent vs)) [] h) : M cx 201 d a vs h Q := m_go (by decide) (by decide) hn (e_pad 7 (eX12_positiveOf k))
abbrev jX12_asksOf : Nat := 202
theorem eX12_asksOf (k : wp cx 202 d Q (bX12_asksOf pc) pc a loc st h) : E cx 202 d a pc loc st h Q := wp_ok _ _ _ _ _ _ (kX12_asksOf pc) k
theorem sX12_asksOf (hn : Nat.ble (lent vs).length 7 = true) (k : wp cx 202 d Q (bX12_asksOf 0) 0 a (padN 7 (lent vs)) [] h) : M cx 202 d a vs h Q := m_go (by decide) (by decide) hn (e_pad 7 (eX12_asksOf k))
abbrev jX12_touch : Nat := 203
theorem eX12_touch (k : wp cx 203 d Q (bX12_touch pc) pc a loc st h) : E cx 203 d a pc loc st h Q := wp_ok _ _ _ _ _ _ (kX12_touch pc) k
theorem sX12_touch (hn : Nat.ble (lent vs).length 6 = true) (k : wp cx 203 d Q (bX12_touch 0) 0 a (padN 6 (lent vs)) [] h) : M cx 203 d a vs h Q := m_go (by decide) (by decide) hn (e_pad 6 (eX12_touch k))
abbrev jX12_looks : Nat := 204
theorem eX12_looks (k : wp cx 204 d Q (bX12_looks pc) pc a loc st h) : E cx 204 d a pc loc st h Q := wp_ok _ _ _ _ _ _ (kX12_looks pc) k
theorem sX12_looks (hn : Nat.ble (lent vs).length 3 = true) (k : wp cx 204 d Q (bX12_looks 0) 0 a (padN 3 (lent vs)) [] h) : M cx 204 d a vs h Q := m_go (by decide) (by decide) hn (e_pad 3 (eX12_looks k))
abbrev jX12_stands : Nat := 205
theorem eX12_stands (k : wp cx 205 d Q (bX12_stands pc) pc a loc st h) : E cx 205 d a pc loc st h Q := wp_ok _ _ _ _ _ _ (kX12_stands pc) k
theorem sX12_stands (hn : Nat.ble (lent vs).length 3 = true) (k : wp cx 205 d Q (bX12_stands 0) 0 a (padN 3 (lent vs)) [] h) : M cx 205 d a vs h Q := m_go (by decide) (by decide) hn (e_pad 3 (eX12_stands k))
abbrev jX12_loose : Nat := 206
theorem eX12_loose (k : wp cx 206 d Q (bX12_loose pc) pc a loc st h) : E cx 206 d a pc loc st h Q := wp_ok _ _ _ _ _ _ (kX12_loose pc) k
theorem sX12_loose (hn : Nat.ble (lent vs).length 4 = true) (k : wp cx 206 d Q (bX12_loose 0) 0 a (padN 4 (lent vs)) [] h) : M cx 206 d a vs h Q := m_go (by decide) (by decide) hn (e_pad 4 (eX12_loose k))
abbrev jX12_fall : Nat := 207
theorem eX12_fall (k : wp cx 207 d Q (bX12_fall pc) pc a loc st h) : E cx 207 d a pc loc st h Q := wp_ok _ _ _ _ _ _ (kX12_fall pc) k
theorem sX12_fall (hn : Nat.ble (lent vs).length 3 = true) (k : wp cx 207 d Q (bX12_fall 0) 0 a (padN 3 (lent vs)) [] h) : M cx 207 d a vs h Q := m_go (by decide) (by decide) hn (e_pad 3 (eX12_fall k))
abbrev jX12_at : Nat := 208
theorem eX12_at (k : wp cx 208 d Q (bX12_at pc) pc a loc st h) : E cx 208 d a pc loc st h Q := wp_ok _ _ _ _ _ _ (kX12_at pc) k
theorem sX12_at (hn : Nat.ble (lent vs).length 4 = true) (k : wp cx 208 d Q (bX12_at 0) 0 a (padN 4 (lent vs)) [] h) : M cx 208 d a vs h Q := m_go (by decide) (by decide) hn (e_pad 4 (eX12_at k))
abbrev jX12_touches : Nat := 209
theorem eX12_touches (k : wp cx 209 d Q (bX12_touches pc) pc a loc st h) : E cx 209 d a pc loc st h Q := wp_ok _ _ _ _ _ _ (kX12_touches pc) k
theorem sX12_touches (hn : Nat.ble (lent vs).length 4 = true) (k : wp cx 209 d Q (bX12_touches 0) 0 a (padN 4 (lent vs)) [] h) : M cx 209 d a vs h Q := m_go (by decide) (by decide) hn (e_pad 4 (eX12_touches k))
abbrev jX12_unlawful : Nat := 210
theorem eX12_unlawful (k : wp cx 210 d Q (bX12_unlawful pc) pc a loc st h) : E cx 210 d a pc loc st h Q := wp_ok _ _ _ _ _ _ (kX12_unlawful pc) k
theorem sX12_unlawful (hn : Nat.ble (lent vs).length 3 = true) (k : wp cx 210 d Q (bX12_unlawful 0) 0 a (padN 3 (lent vs)) [] h) : M cx 210 d a vs h Q := m_go (by decide) (by decide) hn (e_pad 3 (eX12_unlawful k))
abbrev jX12_there : Nat := 211
theorem eX12_there (k : wp cx 211 d Q (bX12_there pc) pc a loc st h) : E cx 211 d a pc loc st h Q := wp_ok _ _ _ _ _ _ (kX12_there pc) k
theorem sX12_there (hn : Nat.ble (lent vs).length 1 = true) (k : wp cx 211 d Q (bX12_there 0) 0 a (padN 1 (lent vs)) [] h) : M cx 211 d a vs h Q := m_go (by decide) (by decide) hn (e_pad 1 (eX12_there k))
abbrev jX12_stand : Nat := 212
theorem eX12_stand (k : wp cx 212 d Q (bX12_stand pc) pc a loc st h) : E cx 212 d a pc loc st h Q := wp_ok _ _ _ _ _ _ (kX12_stand pc) k
theorem sX12_stand (hn : Nat.ble (lent vs).length 3 = true) (k : wp cx 212 d Q (bX12_stand 0) 0 a (padN 3 (lent vs)) [] h) : M cx 212 d a vs h Q := m_go (by decide) (by decide) hn (e_pad 3 (eX12_stand k))
abbrev jX12_areThere : Nat := 213
theorem eX12_areThere (k : wp cx 213 d Q (bX12_areThere pc) pc a loc st h) : E cx 213 d a pc loc st h Q := wp_ok _ _ _ _ _ _ (kX12_areThere pc) k
theorem sX12_areThere (hn : Nat.ble (lent vs).length 2 = true) (k : wp cx 213 d Q (bX12_areThere 0) 0 a (padN 2 (lent vs)) [] h) : M cx 213 d a vs h Q := m_go (by decide) (by decide) hn (e_pad 2 (eX12_areThere k))
abbrev jX12_weightOf : Nat := 214
theorem eX12_weightOf (k : wp cx 214 d Q (bX12_weightOf pc) pc a loc st h) : E cx 214 d a pc loc st h Q := wp_ok _ _ _ _ _ _ (kX12_weightOf pc) k
theorem sX12_weightOf (hn : Nat.ble (lent vs).length 4 = true) (k : wp cx 214 d Q (bX12_weightOf 0) 0 a (padN 4 (lent vs)) [] h) : M cx 214 d a vs h Q := m_go (by decide) (by decide) hn (e_pad 4 (eX12_weightOf k))
abbrev jX12_falls : Nat := 215
theorem eX12_falls (k : wp cx 215 d Q (bX12_falls pc) pc a loc st h) : E cx 215 d a pc loc st h Q := wp_ok _ _ _ _ _ _ (kX12_falls pc) k
theorem sX12_falls (hn : Nat.ble (lent vs).length 6 = true) (k : wp cx 215 d Q (bX12_falls 0) 0 a (padN 6 (lent vs)) [] h) : M cx 215 d a vs h Q := m_go (by decide) (by decide) hn (e_pad 6 (eX12_falls k))
abbrev jX12_round : Nat := 216
theorem eX12_round (k : wp cx 216 d Q (bX12_round pc) pc a loc st h) : E cx 216 d a pc loc st h Q := wp_ok _ _ _ _ _ _ (kX12_round pc) k
theorem sX12_round (hn : Nat.ble (lent vs).length 5 = true) (k : wp cx 216 d Q (bX12_round 0) 0 a (padN 5 (lent vs)) [] h) : M cx 216 d a vs h Q := m_go (by decide) (by decide) hn (e_pad 5 (eX12_round k))
abbrev jX12_take : Nat := 217
theorem eX12_take (k : wp cx 217 d Q (bX12_take pc) pc a loc st h) : E cx 217 d a pc loc st h Q := wp_ok _ _ _ _ _ _ (kX12_take pc) k
theorem sX12_take (hn : Nat.ble (lent vs).length 3 = true) (k : wp cx 217 d Q (bX12_take 0) 0 a (padN 3 (lent vs)) [] h) : M cx 217 d a vs h Q := m_go (by decide) (by decide) hn (e_pad 3 (eX12_take k))
abbrev jX12_farm : Nat := 218
theorem eX12_farm (k : wp cx 218 d Q (bX12_farm pc) pc a loc st h) : E cx 218 d a pc loc st h Q := wp_ok _ _ _ _ _ _ (kX12_farm pc) k
theorem sX12_farm (hn : Nat.ble (lent vs).length 6 = true) (k : wp cx 218 d Q (bX12_farm 0) 0 a (padN 6 (lent vs)) [] h) : M cx 218 d a vs h Q := m_go (by decide) (by decide) hn (e_pad 6 (eX12_farm k))
abbrev jX12_sets : Nat := 219
theorem eX12_sets (k : wp cx 219 d Q (bX12_sets pc) pc a loc st h) : E cx 219 d a pc loc st h Q := wp_ok _ _ _ _ _ _ (kX12_sets pc) k
theorem sX12_sets (hn : Nat.ble (lent vs).length 5 = true) (k : wp cx 219 d Q (bX12_sets 0) 0 a (padN 5 (lent vs)) [] h) : M cx 219 d a vs h Q := m_go (by decide) (by decide) hn (e_pad 5 (eX12_sets k))
abbrev jX12_isBetter : Nat := 220
theorem eX12_isBetter (k : wp cx 220 d Q (bX12_isBetter pc) pc a loc st h) : E cx 220 d a pc loc st h Q := wp_ok _ _ _ _ _ _ (kX12_isBetter pc) k
theorem sX12_isBetter (hn : Nat.ble (lent vs).length 3 = true) (k : wp cx 220 d Q (bX12_isBetter 0) 0 a (padN 3 (lent vs)) [] h) : M cx 220 d a vs h Q := m_go (by decide) (by decide) hn (e_pad 3 (eX12_isBetter k))
abbrev jX12_takesMost : Nat := 221
theorem eX12_takesMost (k : wp cx 221 d Q (bX12_takesMost pc) pc a loc st h) : E cx 221 d a pc loc st h Q := wp_ok _ _ _ _ _ _ (kX12_takesMost pc) k
theorem sX12_takesMost (hn : Nat.ble (lent vs).length 4 = true) (k : wp cx 221 d Q (bX12_takesMost 0) 0 a (padN 4 (lent vs)) [] h) : M cx 221 d a vs h Q := m_go (by decide) (by decide) hn (e_pad 4 (eX12_takesMost k))
abbrev jX12_told : Nat := 222
theorem eX12_told (k : wp cx 222 d Q (bX12_told pc) pc a loc st h) : E cx 222 d a pc loc st h Q := wp_ok _ _ _ _ _ _ (kX12_told pc) k
theorem sX12_told (hn : Nat.ble (lent vs).length 2 = true) (k : wp cx 222 d Q (bX12_told 0) 0 a (padN 2 (lent vs)) [] h) : M cx 222 d a vs h Q := m_go (by decide) (by decide) hn (e_pad 2 (eX12_told k))
abbrev jX12_once : Nat := 223
theorem eX12_once (k : wp cx 223 d Q (bX12_once pc) pc a loc st h) : E cx 223 d a pc loc st h Q := wp_ok _ _ _ _ _ _ (kX12_once pc) k
theorem sX12_once (hn : Nat.ble (lent vs).length 2 = true) (k : wp cx 223 d Q (bX12_once 0) 0 a (padN 2 (lent vs)) [] h) : M cx 223 d a vs h Q := m_go (by decide) (by decide) hn (e_pad 2 (eX12_once k))
abbrev jX12_oneByOne : Nat := 224
theorem eX12_oneByOne (k : wp cx 224 d Q (bX12_oneByOne pc) pc a loc st h) : E cx 224 d a pc loc st h Q := wp_ok _ _ _ _ _ _ (kX12_oneByOne pc) k
theorem sX12_oneByOne (hn : Nat.ble (lent vs).length 2 = true) (k : wp cx 224 d Q (bX12_oneByOne 0) 0 a (padN 2 (lent vs)) [] h) : M cx 224 d a vs h Q := m_go (by decide) (by decide) hn (e_pad 2 (eX12_oneByOne k))
abbrev jX12_order : Nat := 225
theorem eX12_order (k : wp cx 225 d Q (bX12_order pc) pc a loc st h) : E cx 225 d a pc loc st h Q := wp_ok _ _ _ _ _ _ (kX12_order pc) k
theorem sX12_order (hn : Nat.ble (lent vs).length 6 = true) (k : wp cx 225 d Q (bX12_order 0) 0 a (padN 6 (lent vs)) [] h) : M cx 225 d a vs h Q := m_go (by decide) (by decide) hn (e_pad 6 (eX12_order k))
abbrev jX12_fell : Nat := 226
theorem eX12_fell (k : wp cx 226 d Q (bX12_fell pc) pc a loc st h) : E cx 226 d a pc loc st h Q := wp_ok _ _ _ _ _ _ (kX12_fell pc) k
theorem sX12_fell (hn : Nat.ble (lent vs).length 5 = true) (k : wp cx 226 d Q (bX12_fell 0) 0 a (padN 5 (lent vs)) [] h) : M cx 226 d a vs h Q := m_go (by decide) (by decide) hn (e_pad 5 (eX12_fell k))
abbrev jX12_gate : Nat := 227
theorem eX12_gate (k : wp cx 227 d Q (bX12_gate pc) pc a loc st h) : E cx 227 d a pc loc st h Q := wp_ok _ _ _ _ _ _ (kX12_gate pc) k
theorem sX12_gate (hn : Nat.ble (lent vs).length 9 = true) (k : wp cx 227 d Q (bX12_gate 0) 0 a (padN 9 (lent vs)) [] h) : M cx 227 d a vs h Q := m_go (by decide) (by decide) hn (e_pad 9 (eX12_gate k))
abbrev jX12_mend : Nat := 228
theorem eX12_mend (k : wp cx 228 d Q (bX12_mend pc) pc a loc st h) : E cx 228 d a pc loc st h Q := wp_ok _ _ _ _ _ _ (kX12_mend pc) k
theorem sX12_mend (hn : Nat.ble (lent vs).length 6 = true) (k : wp cx 228 d Q (bX12_mend 0) 0 a (padN 6 (lent vs)) [] h) : M cx 228 d a vs h Q := m_go (by decide) (by decide) hn (e_pad 6 (eX12_mend k))
abbrev jX12_game : Nat := 229
theorem eX12_game (k : wp cx 229 d Q (bX12_game pc) pc a loc st h) : E cx 229 d a pc loc st h Q := wp_ok _ _ _ _ _ _ (kX12_game pc) k
theorem sX12_game (hn : Nat.ble (lent vs).length 6 = true) (k : wp cx 229 d Q (bX12_game 0) 0 a (padN 6 (lent vs)) [] h) : M cx 229 d a vs h Q := m_go (by decide) (by decide) hn (e_pad 6 (eX12_game k))
abbrev jX12_night : Nat := 230
theorem eX12_night (k : wp cx 230 d Q (bX12_night pc) pc a loc st h) : E cx 230 d a pc loc st h Q := wp_ok _ _ _ _ _ _ (kX12_night pc) k
theorem sX12_night (hn : Nat.ble (lent vs).length 11 = true) (k : wp cx 230 d Q (bX12_night 0) 0 a (padN 11 (lent vs)) [] h) : M cx 230 d a vs h Q := m_go (by decide) (by decide) hn (e_pad 11 (eX12_night k))
abbrev jX12_draws : Nat := 231
theorem eX12_draws (k : wp cx 231 d Q (bX12_draws pc) pc a loc st h) : E cx 231 d a pc loc st h Q := wp_ok _ _ _ _ _ _ (kX12_draws pc) k
theorem sX12_draws (hn : Nat.ble (lent vs).length 2 = true) (k : wp cx 231 d Q (bX12_draws 0) 0 a (padN 2 (lent vs)) [] h) : M cx 231 d a vs h Q := m_go (by decide) (by decide) hn (e_pad 2 (eX12_draws k))
abbrev jX12_winters : Nat := 232
theorem eX12_winters (k : wp cx 232 d Q (bX12_winters pc) pc a loc st h) : E cx 232 d a pc loc st h Q := wp_ok _ _ _ _ _ _ (kX12_winters pc) k
theorem sX12_winters (hn : Nat.ble (lent vs).length 8 = true) (k : wp cx 232 d Q (bX12_winters 0) 0 a (padN 8 (lent vs)) [] h) : M cx 232 d a vs h Q := m_go (by decide) (by decide) hn (e_pad 8 (eX12_winters k))
abbrev jX12_winter : Nat := 233
theorem eX12_winter (k : wp cx 233 d Q (bX12_winter pc) pc a loc st h) : E cx 233 d a pc loc st h Q := wp_ok _ _ _ _ _ _ (kX12_winter pc) k
theorem sX12_winter (hn : Nat.ble (lent vs).length 2 = true) (k : wp cx 233 d Q (bX12_winter 0) 0 a (padN 2 (lent vs)) [] h) : M cx 233 d a vs h Q := m_go (by decide) (by decide) hn (e_pad 2 (eX12_winter k))
abbrev jX12_count : Nat := 234
theorem eX12_count (k : wp cx 234 d Q (bX12_count pc) pc a loc st h) : E cx 234 d a pc loc st h Q := wp_ok _ _ _ _ _ _ (kX12_count pc) k
theorem sX12_count (hn : Nat.ble (lent vs).length 2 = true) (k : wp cx 234 d Q (bX12_count 0) 0 a (padN 2 (lent vs)) [] h) : M cx 234 d a vs h Q := m_go (by decide) (by decide) hn (e_pad 2 (eX12_count k))
abbrev jX12_status : Nat := 235
theorem eX12_status (k : wp cx 235 d Q (bX12_status pc) pc a loc st h) : E cx 235 d a pc loc st h Q := wp_ok _ _ _ _ _ _ (kX12_status pc) k
theorem sX12_status (hn : Nat.ble (lent vs).length 1 = true) (k : wp cx 235 d Q (bX12_status 0) 0 a (padN 1 (lent vs)) [] h) : M cx 235 d a vs h Q := m_go (by decide) (by decide) hn (e_pad 1 (eX12_status k))
abbrev jbitCount : Nat := 236
theorem ebitCount (k : wp cx 236 d Q (bbitCount pc) pc a loc st h) : E cx 236 d a pc loc st h Q := wp_ok _ _ _ _ _ _ (kbitCount pc) k
theorem sbitCount (hn : Nat.ble (lent vs).length 1 = true) (k : wp cx 236 d Q (bbitCount 0) 0 a (padN 1 (lent vs)) [] h) : M cx 236 d a vs h Q := m_of (by have := jk_236; simp only [Bool.and_eq_true] at this; exact this.1) (by rw [mx_ok (by decide)]; exact Nat.le_of_ble_eq_true hn) (e_pad 1 (ebitCount k))
abbrev jL_law : Nat := 252
theorem eL_law (k : wp cx 252 d Q (bL_law pc) pc a loc st h) : E cx 252 d a pc loc st h Q := wp_ok _ _ _ _ _ _ (kL_law pc) k
end ST
end
section
/-! how contracts are written and used -/
noncomputable def b2i (p : Prop) : Int32 := @ite _ p (Classical.propDecidable p) 1 0
/-- answers r, leaves h' -/
abbrev RQ (r : Value) (h' : Hp) : Option Value → Hp → Prop := fun q g => q = some r ∧ g = h'
/-- answers nothing, leaves h' -/
abbrev RV (h' : Hp) : Option Value → Hp → Prop := fun q g => q = none ∧ g = h'
section T16
variable {cx : Cx} {j d a pc : Nat} {h h' : Hp} {Q : Option Value → Hp → Prop} {loc : Lc} {st vs : List Value} {r : List Ins} {o x : Nat} {v : Value}
/-- a call of an instance method that answers v and leaves h' -/
theorem wcV {cnd : Prop} (hM : M cx x (d - 1) 0 (.ref o :: vs) h (RQ v h')) (kk : wp cx j d Q r pc a loc (v :: st) h') (hr : cnd := by rfl) (hs : (st.map fun v => v.category).sum ≤ 8 := by exact Nat.le_of_ble_eq_true rfl) (hd0 : 0 < d := by omega) (hok : rok loc st = true ∨ hN h' = hN h := by first | exact Or.inr rfl | exact Or.inl rfl) :
    cnd ∧ (st.map fun v => v.category).sum ≤ 8 ∧ 0 < d ∧ ∃ (a' : Nat) (Q' : Option Value → Hp → Prop), a' ≤ a ∧ (rok loc st = true ∨ ∀ r h', Q' r h' → hN h' = hN h) ∧ M cx x (d - 1) a' (.ref o :: vs) h Q' ∧ ∀ v h', Q' v h' → wp cx j d Q r pc (a - a') loc (v.toList ++ st) h' :=
  ⟨hr, hs, hd0, 0, RQ v h', Nat.zero_le _, hok.imp id (fun z w g q => by obtain ⟨-, rfl⟩ := q; exact z), hM, fun w g q => by obtain ⟨rfl, rfl⟩ := q; exact kk⟩
theorem wcV0 {cnd : Prop} (hM : M cx x (d - 1) 0 (.ref o :: vs) h (RV h')) (kk : wp cx j d Q r pc a loc st h') (hr : cnd := by rfl) (hs : (st.map fun v => v.category).sum ≤ 8 := by exact Nat.le_of_ble_eq_true rfl) (hd0 : 0 < d := by omega) (hok : rok loc st = true ∨ hN h' = hN h := by first | exact Or.inr rfl | exact Or.inl rfl) :
    cnd ∧ (st.map fun v => v.category).sum ≤ 8 ∧ 0 < d ∧ ∃ (a' : Nat) (Q' : Option Value → Hp → Prop), a' ≤ a ∧ (rok loc st = true ∨ ∀ r h', Q' r h' → hN h' = hN h) ∧ M cx x (d - 1) a' (.ref o :: vs) h Q' ∧ ∀ v h', Q' v h' → wp cx j d Q r pc (a - a') loc (v.toList ++ st) h' :=
  ⟨hr, hs, hd0, 0, RV h', Nat.zero_le _, hok.imp id (fun z w g q => by obtain ⟨-, rfl⟩ := q; exact z), hM, fun w g q => by obtain ⟨rfl, rfl⟩ := q; exact kk⟩
/-- the same of a static method -/
theorem wcS (hM : M cx x (d - 1) 0 vs h (RQ v h')) (kk : wp cx j d Q r pc a loc (v :: st) h') (hs : (st.map fun v => v.category).sum ≤ 8 := by exact Nat.le_of_ble_eq_true rfl) (hd0 : 0 < d := by omega) (hok : rok loc st = true ∨ hN h' = hN h := by first | exact Or.inr rfl | exact Or.inl rfl) :
    (st.map fun v => v.category).sum ≤ 8 ∧ 0 < d ∧ ∃ (a' : Nat) (Q' : Option Value → Hp → Prop), a' ≤ a ∧ (rok loc st = true ∨ ∀ r h', Q' r h' → hN h' = hN h) ∧ M cx x (d - 1) a' vs h Q' ∧ ∀ v h', Q' v h' → wp cx j d Q r pc (a - a') loc (v.toList ++ st) h' :=
  ⟨hs, hd0, 0, RQ v h', Nat.zero_le _, hok.imp id (fun z w g q => by obtain ⟨-, rfl⟩ := q; exact z), hM, fun w g q => by obtain ⟨rfl, rfl⟩ := q; exact kk⟩
theorem b2i_t {p : Prop} (hp : p) : b2i p = 1 := if_pos hp
theorem b2i_f {p : Prop} (hp : ¬ p) : b2i p = 0 := if_neg hp
theorem b2i_B {p : Prop} : isB (b2i p) := by
  rcases Classical.em p with hp | hp
  · rw [b2i_t hp]; exact Or.inr rfl
  · rw [b2i_f hp]; exact Or.inl rfl
theorem b2i_0 {p : Prop} : b2i p = 0 ↔ ¬ p := ⟨fun q hp => by rw [b2i_t hp] at q; exact absurd q (by decide), b2i_f⟩
theorem b2i_n {p : Prop} (q : ¬ b2i p = 0) : p := Classical.byContradiction fun n => q (b2i_f n)
theorem RQ_eq {u w : Int32} (e : u = w) : RQ (.int w) h (some (.int u)) h := ⟨by rw [e], rfl⟩
theorem RQ_eq' {u w : Int32} {g : Hp} (e : u = w) (eg : g = h) : RQ (.int w) h (some (.int u)) g := ⟨by rw [e], eg⟩
theorem rd_same {h : Hp} {o k : Nat} {v : Int32} : hI (wI h o k v) o k = v := by
  show up2 h.1 o k v o k = v; simp [up2]
theorem rd_o {h : Hp} {o k o' k' : Nat} {v : Int32} (n : o' ≠ o) : hI (wI h o k v) o' k' = hI h o' k' := by
  show up2 h.1 o k v o' k' = h.1 o' k'; simp [up2, n]
theorem rd_k {h : Hp} {o k o' k' : Nat} {v : Int32} (n : k' ≠ k) : hI (wI h o k v) o' k' = hI h o' k' := by
  show up2 h.1 o k v o' k' = h.1 o' k'; simp [up2, n]
theorem rd_any {h : Hp} {o k o' k' : Nat} {v : Int32} : hI (wI h o k v) o' k' = if o' = o ∧ k' = k then v else hI h o' k' := by
  show up2 h.1 o k v o' k' = _
  by_cases h1 : o' = o <;> by_cases h2 : k' = k <;> simp [up2, h1, h2]
end T16
end
section
/-! rows on bits, shifts and unsigned numbers, to paste: each family out of a closed proof of our own, whole with what it rests on; each by itself clean at Lean in its own claim (generation 39, form 5). Take a family whole -/
/-! ===== Int32 by its bits: bt x i ===== -/
def bt (x : Int32) (i : Nat) : Bool := x.toBitVec.getLsbD i
theorem b_ext {x y : Int32} (h : ∀ i, i < 32 → bt x i = bt y i) : x = y := Int32.toBitVec_inj.mp (BitVec.eq_of_getLsbD_eq (fun i hi => h i hi))
theorem b_or (x y : Int32) (i : Nat) : bt (x ||| y) i = (bt x i || bt y i) := by unfold bt; rw [Int32.toBitVec_or, BitVec.getLsbD_or]
theorem b_and (x y : Int32) (i : Nat) : bt (x &&& y) i = (bt x i && bt y i) := by unfold bt; rw [Int32.toBitVec_and, BitVec.getLsbD_and]
theorem b_xor (x y : Int32) (i : Nat) : bt (x ^^^ y) i = (bt x i ^^ bt y i) := by unfold bt; rw [Int32.toBitVec_xor, BitVec.getLsbD_xor]
theorem b_big {x : Int32} {i : Nat} (h : 32 ≤ i) : bt x i = false := BitVec.getLsbD_of_ge _ _ h
theorem b_255 (i : Nat) : bt 255 i = decide (i < 8) := by
  rcases Nat.lt_or_ge i 32 with h | h
  · exact (by decide +kernel : ∀ i, i < 32 → bt 255 i = decide (i < 8)) i h
  · rw [b_big h, decide_eq_false (by omega)]
theorem b_65535 (i : Nat) : bt 65535 i = decide (i < 16) := by
  rcases Nat.lt_or_ge i 32 with h | h
  · exact (by decide +kernel : ∀ i, i < 32 → bt 65535 i = decide (i < 16)) i h
  · rw [b_big h, decide_eq_false (by omega)]
theorem b_m1 : ∀ i, i < 32 → bt (-1) i = true := by decide +kernel
theorem b_0 (i : Nat) : bt 0 i = false := BitVec.getLsbD_zero
theorem s_l : ∀ n, n < 32 → ((nI n &&& 31).toBitVec.smod 32).toNat = n := by decide +kernel
theorem s_u : ∀ n, n < 32 → (((nI n).toUInt32 &&& Int32.toUInt32 31).toBitVec % 32).toNat = n := by decide +kernel
theorem b_shl (n : Nat) (hn : n < 32) (x : Int32) {i : Nat} (hi : i < 32) : bt (x <<< (nI n &&& 31)) i = (decide (n ≤ i) && bt x (i - n)) := by
  unfold bt
  rw [Int32.toBitVec_shiftLeft]
  show (x.toBitVec <<< ((nI n &&& 31).toBitVec.smod 32).toNat).getLsbD i = _
  rw [s_l n hn, BitVec.getLsbD_shiftLeft]
  rcases Nat.lt_or_ge i n with h | h
  · simp [h, Nat.not_le.mpr h]
  · simp [hi, h, Nat.not_lt.mpr h]
theorem b_ushr (n : Nat) (hn : n < 32) (x : Int32) (i : Nat) : bt ((x.toUInt32 >>> ((nI n).toUInt32 &&& Int32.toUInt32 31)).toInt32) i = bt x (n + i) := by
  show (x.toUInt32 >>> ((nI n).toUInt32 &&& Int32.toUInt32 31)).toBitVec.getLsbD i = x.toUInt32.toBitVec.getLsbD (n + i)
  rw [UInt32.toBitVec_shiftRight]
  show (x.toUInt32.toBitVec >>> (((nI n).toUInt32 &&& Int32.toUInt32 31).toBitVec % 32).toNat).getLsbD i = _
  rw [s_u n hn, BitVec.getLsbD_ushiftRight]
theorem b_sshr (n : Nat) (hn : n < 32) (x : Int32) {i : Nat} (hi : i < 32) : bt (x >>> (nI n &&& 31)) i = if n + i < 32 then bt x (n + i) else bt x 31 := by
  unfold bt
  rw [Int32.toBitVec_shiftRight]
  show (x.toBitVec.sshiftRight ((nI n &&& 31).toBitVec.smod 32).toNat).getLsbD i = _
  rw [s_l n hn, BitVec.getLsbD_sshiftRight, BitVec.msb_eq_getLsbD_last]
  simp [hi]
theorem b_shl8 (x : Int32) {i : Nat} (hi : i < 32) : bt (x <<< ((8 : Int32) &&& 31)) i = (decide (8 ≤ i) && bt x (i - 8)) := b_shl 8 (by omega) x hi
theorem b_shl16 (x : Int32) {i : Nat} (hi : i < 32) : bt (x <<< ((16 : Int32) &&& 31)) i = (decide (16 ≤ i) && bt x (i - 16)) := b_shl 16 (by omega) x hi
theorem b_shl24 (x : Int32) {i : Nat} (hi : i < 32) : bt (x <<< ((24 : Int32) &&& 31)) i = (decide (24 ≤ i) && bt x (i - 24)) := b_shl 24 (by omega) x hi
theorem b_sshr8 (x : Int32) {i : Nat} (hi : i < 32) : bt (x >>> ((8 : Int32) &&& 31)) i = if 8 + i < 32 then bt x (8 + i) else bt x 31 := b_sshr 8 (by omega) x hi
/-! ===== nI under and, xor, >>>, one bit, 65535 ===== -/
theorem nx_and (a b : Nat) : nI a &&& nI b = nI (a &&& b) := by
  apply Int32.toBitVec_inj.1
  show BitVec.ofNat 32 a &&& BitVec.ofNat 32 b = BitVec.ofNat 32 (a &&& b)
  apply BitVec.eq_of_getLsbD_eq
  intro i hi
  simp [hi]
theorem nx_xor (a b : Nat) : nI a ^^^ nI b = nI (a ^^^ b) := by
  apply Int32.toBitVec_inj.1
  show BitVec.ofNat 32 a ^^^ BitVec.ofNat 32 b = BitVec.ofNat 32 (a ^^^ b)
  apply BitVec.eq_of_getLsbD_eq
  intro i hi
  simp [hi]
theorem nx_cnt : ∀ j : Fin 32, (UInt32.ofNat j.val &&& Int32.toUInt32 31).toNat % 32 = j.val := by decide +kernel
theorem nx_ush {k j : Nat} (hk : k < 65536) (hj : j < 32) : ((nI k).toUInt32 >>> ((nI j).toUInt32 &&& Int32.toUInt32 31)).toInt32 = nI (k >>> j) := by
  have hs : k >>> j ≤ k := by
    rw [Nat.shiftRight_eq_div_pow]
    exact Nat.div_le_self _ _
  have e2 : UInt32.ofNat k >>> (UInt32.ofNat j &&& Int32.toUInt32 31) = UInt32.ofNat (k >>> j) := by
    apply UInt32.toNat_inj.1
    have h1 : (UInt32.ofNat k).toNat = k := Nat.mod_eq_of_lt (by omega)
    have h2 : (UInt32.ofNat (k >>> j)).toNat = k >>> j := Nat.mod_eq_of_lt (by omega)
    rw [UInt32.toNat_shiftRight, nx_cnt ⟨j, hj⟩, h1, h2]
  show (UInt32.ofNat k >>> (UInt32.ofNat j &&& Int32.toUInt32 31)).toInt32 = _
  rw [e2]
  rfl
theorem nx_bit {k j : Nat} (hk : k < 65536) (hj : j < 16) : (((nI k).toUInt32 >>> ((nI j).toUInt32 &&& Int32.toUInt32 31)).toInt32 &&& 1) = 0 ↔ k.testBit j = false := by
  rw [nx_ush hk (by omega)]
  show nI (k >>> j) &&& nI 1 = 0 ↔ _
  rw [nx_and, Nat.and_one_is_mod, ← nI_0, nI_eq (by omega) (by omega), Nat.testBit_eq_decide_div_mod_eq, Nat.shiftRight_eq_div_pow, decide_eq_false_iff_not]
  generalize k / 2 ^ j = z
  omega
theorem nx_mod (k : Nat) : nI k &&& 65535 = nI (k % 65536) := by
  show nI k &&& nI 65535 = _
  rw [nx_and, show (65535 : Nat) = 2 ^ 16 - 1 from rfl, Nat.and_two_pow_sub_one_eq_mod]
theorem nx_m16 {k : Nat} (h : k < 65536) : nI k &&& 65535 = nI k := by rw [nx_mod, Nat.mod_eq_of_lt h]
theorem nx_mask (x : Int32) : ∃ k, k < 65536 ∧ x &&& 65535 = nI k := by
  have e : x = nI x.toBitVec.toNat := by
    apply Int32.toBitVec_inj.1
    show x.toBitVec = BitVec.ofNat 32 x.toBitVec.toNat
    simp
  refine ⟨x.toBitVec.toNat % 65536, Nat.mod_lt _ (by omega), ?_⟩
  rw [← nx_mod, ← e]
/-! ===== Int32 as a set of bits: test, set ===== -/
def nf_M (m : Int32) : Nat := 4294967296 - m.toBitVec.toNat
theorem nf_sh : ∀ l, l < 32 → ((1 : Int32) <<< (nI l &&& 31)).toBitVec = BitVec.twoPow 32 l := by decide +kernel
theorem nf_sl : ∀ l, l < 32 → (((nI l).toUInt32 &&& Int32.toUInt32 31).toBitVec % 32).toNat = l := by decide +kernel
theorem nf_tp : ∀ l, l < 32 → BitVec.twoPow 32 l ≠ 0#32 := by decide +kernel
theorem nf_bit (m : Int32) (l : Nat) (hl : l < 32) : ((m.toUInt32 >>> ((nI l).toUInt32 &&& Int32.toUInt32 31)).toInt32 &&& 1) = 0 ↔ (m &&& ((1 : Int32) <<< (nI l &&& 31))) = 0 := by
  have e : ((m.toUInt32 >>> ((nI l).toUInt32 &&& Int32.toUInt32 31)).toInt32).toBitVec = m.toBitVec >>> l := by
    show m.toBitVec >>> (((nI l).toUInt32 &&& Int32.toUInt32 31).toBitVec % 32) = m.toBitVec >>> l
    rw [BitVec.ushiftRight_eq', nf_sl l hl]
  rw [← Int32.toBitVec_inj, ← Int32.toBitVec_inj, Int32.toBitVec_and, Int32.toBitVec_and, nf_sh l hl, e, BitVec.and_twoPow]
  show (m.toBitVec >>> l &&& 1#32) = 0#32 ↔ _ = 0#32
  rw [BitVec.and_one_eq_setWidth_ofBool_getLsbD, BitVec.getLsbD_ushiftRight, Nat.add_zero]
  cases hb : m.toBitVec.getLsbD l
  · exact ⟨fun _ => by simp, fun _ => by decide⟩
  · exact ⟨fun z => absurd z (by decide), fun z => absurd ((if_pos rfl).symm.trans z) (nf_tp l hl)⟩
theorem nf_gr (m k : Int32) (h : m &&& k = 0) (hk : k ≠ 0) : nf_M (m ||| k) < nf_M m := by
  have hm := m.toBitVec.isLt
  have hm' := (m ||| k).toBitVec.isLt
  have h1 : m.toBitVec.toNat ≤ (m ||| k).toBitVec.toNat := by
    rw [Int32.toBitVec_or, BitVec.toNat_or]
    exact Nat.left_le_or
  have h2 : m.toBitVec.toNat ≠ (m ||| k).toBitVec.toNat := by
    intro e
    have e2 : m = m ||| k := Int32.toBitVec_inj.mp (BitVec.eq_of_toNat_eq e)
    apply hk
    apply Int32.toBitVec_inj.mp
    show k.toBitVec = 0#32
    apply BitVec.eq_of_getLsbD_eq
    intro i hi
    have a : m.toBitVec.getLsbD i = (m.toBitVec.getLsbD i || k.toBitVec.getLsbD i) := by rw [← BitVec.getLsbD_or, ← Int32.toBitVec_or, ← e2]
    have b : (m.toBitVec.getLsbD i && k.toBitVec.getLsbD i) = false := by
      rw [← BitVec.getLsbD_and, ← Int32.toBitVec_and, h]
      exact BitVec.getLsbD_zero
    rw [BitVec.getLsbD_zero]
    revert a b
    cases m.toBitVec.getLsbD i <;> cases k.toBitVec.getLsbD i <;> simp
  unfold nf_M
  omega
/-! ===== a byte read unsigned ===== -/
theorem bp_b (x : Int32) : x.toInt8.toInt32 &&& 255 = x &&& 255 := by
  apply Int32.toBitVec_inj.mp
  rw [Int32.toBitVec_and, Int32.toBitVec_and, Int8.toBitVec_toInt32, Int32.toBitVec_toInt8]
  apply BitVec.eq_of_getLsbD_eq
  intro i hi
  rw [BitVec.getLsbD_and, BitVec.getLsbD_and]
  have hm : ∀ i < 32, 8 ≤ i → (255 : Int32).toBitVec.getLsbD i = false := by decide
  rcases Nat.lt_or_ge i 8 with z | z
  · rw [BitVec.getLsbD_signExtend, BitVec.getLsbD_signExtend, if_pos z, if_pos hi]
    simp only [z, hi, decide_true, Bool.true_and]
  · rw [hm i hi z]; simp
/-! ===== the char cast and 65535 ===== -/
/-! ===== Int64 as a set of bits: test, set, clear ===== -/
theorem ts_nf {x : Bool} (h : ¬ x = false) : x = true := by cases x <;> first | rfl | exact absurd rfl h
theorem ts_nt {x : Bool} (h : ¬ x = true) : x = false := by cases x <;> first | rfl | exact absurd rfl h
theorem ts_bit {w : Int64} {s : UInt64} {j : Nat} (hj : j < 64) (hs : s.toNat = j) : ((w.toUInt64 >>> s).toInt64 &&& 1) = 0 ↔ w.toBitVec.getLsbD j = false := by
  have e : (w.toUInt64 >>> s).toInt64.toBitVec = w.toBitVec >>> j := by
    apply BitVec.eq_of_toNat_eq
    show (w.toUInt64 >>> s).toNat = _
    rw [UInt64.toNat_shiftRight, hs, Nat.mod_eq_of_lt hj, BitVec.toNat_ushiftRight]
    rfl
  rw [← Int64.toBitVec_inj, Int64.toBitVec_and, e]
  show w.toBitVec >>> j &&& 1#64 = 0#64 ↔ _
  constructor
  · intro h
    have t := congrArg (fun x => x.getLsbD 0) h
    simpa using t
  · intro h
    apply BitVec.eq_of_getLsbD_eq
    intro i hi
    cases i with
    | zero => simp [h]
    | succ i => simp
theorem ts_or {w m : Int64} {j : Nat} (hj : j < 64) (hm : m.toBitVec = BitVec.twoPow 64 j) : (w ||| m) = w ↔ w.toBitVec.getLsbD j = true := by
  rw [← Int64.toBitVec_inj, Int64.toBitVec_or, hm]
  constructor
  · intro h
    have t := congrArg (fun x => x.getLsbD j) h
    simp only [BitVec.getLsbD_or, BitVec.getLsbD_twoPow] at t
    simpa [hj] using t.symm
  · intro h
    apply BitVec.eq_of_getLsbD_eq
    intro i hi
    rw [BitVec.getLsbD_or, BitVec.getLsbD_twoPow]
    by_cases e : j = i
    · subst e; rw [h, Bool.true_or]
    · simp [e]
theorem ts_and {w m : Int64} {j : Nat} (hj : j < 64) (hm : m.toBitVec = BitVec.twoPow 64 j) : (w &&& (m ^^^ (-1))) = w ↔ w.toBitVec.getLsbD j = false := by
  have ha : (-1 : Int64).toBitVec = BitVec.allOnes 64 := by decide
  rw [← Int64.toBitVec_inj, Int64.toBitVec_and, Int64.toBitVec_xor, hm, ha]
  constructor
  · intro h
    have t := congrArg (fun x => x.getLsbD j) h
    simp only [BitVec.getLsbD_and, BitVec.getLsbD_xor, BitVec.getLsbD_twoPow, BitVec.getLsbD_allOnes] at t
    simpa [hj] using t.symm
  · intro h
    apply BitVec.eq_of_getLsbD_eq
    intro i hi
    rw [BitVec.getLsbD_and, BitVec.getLsbD_xor, BitVec.getLsbD_twoPow, BitVec.getLsbD_allOnes]
    by_cases e : j = i
    · subst e; rw [h, Bool.false_and]
    · simp [e, hi]
/-! ===== lN n to 2^64: shifts, and, or, masks, one bit ===== -/
theorem wb_tb (n : Nat) : (lN n).toBitVec = BitVec.ofNat 64 n := rfl
theorem wb_inj {a b : Int64} (h : a.toBitVec = b.toBitVec) : a = b := Int64.toBitVec_inj.mp h
theorem wb_tn {n : Nat} (h : n < 2 ^ 64) : (lN n).toBitVec.toNat = n := by rw [wb_tb, BitVec.toNat_ofNat, Nat.mod_eq_of_lt h]
theorem wb_of (x : Int64) : ∃ n, n < 2 ^ 64 ∧ x = lN n := ⟨x.toBitVec.toNat, x.toBitVec.isLt, wb_inj (by rw [wb_tb]; simp)⟩
theorem wb_of32 (x : Int32) : ∃ n, n < 2 ^ 32 ∧ x = nI n := ⟨x.toBitVec.toNat, x.toBitVec.isLt, Int32.toBitVec_inj.mp (by show _ = BitVec.ofNat 32 _; simp)⟩
theorem wb_c : ∀ k, k < 64 → ((nI k).toInt64 &&& 63) = lN k := by decide +kernel
theorem wb_cu : ∀ k, k < 64 → ((nI k).toInt64.toUInt64 &&& Int64.toUInt64 63) = UInt64.ofNat k := by decide +kernel
theorem wb_sm : ∀ k, k < 64 → (BitVec.ofNat 64 k).smod 64 = BitVec.ofNat 64 k := by decide +kernel
theorem wb_pw {a b : Nat} (h : a ≤ b) : 2 ^ b = 2 ^ a * 2 ^ (b - a) := by rw [← Nat.pow_add]; congr 1; omega
theorem wb_lt2 {a b : Nat} (h : a < b) : 2 ^ a < 2 ^ b := Nat.pow_lt_pow_right (by decide) h
theorem wb_mod (n : Nat) : lN n = lN (n % 2 ^ 64) := wb_inj (by rw [wb_tb, wb_tb]; apply BitVec.eq_of_toNat_eq; rw [BitVec.toNat_ofNat, BitVec.toNat_ofNat, Nat.mod_mod])
theorem wb_shr {n k : Nat} (hn : n < 2 ^ 64) (hk : k < 64) : ((lN n).toUInt64 >>> ((nI k).toInt64.toUInt64 &&& Int64.toUInt64 63)).toInt64 = lN (n / 2 ^ k) := by
  rw [wb_cu k hk]
  apply wb_inj
  apply BitVec.eq_of_toNat_eq
  show ((lN n).toUInt64 >>> UInt64.ofNat k).toNat = (BitVec.ofNat 64 _).toNat
  have h1 : (UInt64.ofNat k).toNat = k := by
    show (BitVec.ofNat 64 k).toNat = k
    rw [BitVec.toNat_ofNat, Nat.mod_eq_of_lt (by omega)]
  have h2 : (lN n).toUInt64.toNat = n := wb_tn hn
  rw [UInt64.toNat_shiftRight, h1, h2, Nat.mod_eq_of_lt hk, Nat.shiftRight_eq_div_pow, BitVec.toNat_ofNat, Nat.mod_eq_of_lt (Nat.lt_of_le_of_lt (Nat.div_le_self _ _) hn)]
theorem wb_shl (n : Nat) {k : Nat} (hk : k < 64) : lN n <<< ((nI k).toInt64 &&& 63) = lN (n * 2 ^ k) := by
  rw [wb_c k hk]
  apply wb_inj
  rw [Int64.toBitVec_shiftLeft, wb_tb, wb_tb, wb_tb, wb_sm k hk]
  apply BitVec.eq_of_toNat_eq
  rw [BitVec.shiftLeft_eq', BitVec.toNat_shiftLeft, BitVec.toNat_ofNat, BitVec.toNat_ofNat, BitVec.toNat_ofNat, Nat.mod_eq_of_lt (show k < 2 ^ 64 by omega), Nat.shiftLeft_eq, Nat.mul_mod, Nat.mod_mod, ← Nat.mul_mod]
theorem wb_and {a b : Nat} (ha : a < 2 ^ 64) (hb : b < 2 ^ 64) : lN a &&& lN b = lN (a &&& b) := by
  apply wb_inj
  rw [Int64.toBitVec_and, wb_tb, wb_tb, wb_tb]
  apply BitVec.eq_of_toNat_eq
  rw [BitVec.toNat_and, BitVec.toNat_ofNat, BitVec.toNat_ofNat, BitVec.toNat_ofNat, Nat.mod_eq_of_lt ha, Nat.mod_eq_of_lt hb, Nat.mod_eq_of_lt (Nat.and_lt_two_pow _ hb)]
theorem wb_or {a b : Nat} (ha : a < 2 ^ 64) (hb : b < 2 ^ 64) : lN a ||| lN b = lN (a ||| b) := by
  apply wb_inj
  rw [Int64.toBitVec_or, wb_tb, wb_tb, wb_tb]
  apply BitVec.eq_of_toNat_eq
  rw [BitVec.toNat_or, BitVec.toNat_ofNat, BitVec.toNat_ofNat, BitVec.toNat_ofNat, Nat.mod_eq_of_lt ha, Nat.mod_eq_of_lt hb, Nat.mod_eq_of_lt (Nat.or_lt_two_pow ha hb)]
theorem wb_mask {n k : Nat} (hn : n < 2 ^ 64) (hk : k < 64) : lN n &&& lN (2 ^ k - 1) = lN (n % 2 ^ k) := by
  rw [wb_and hn (by have := wb_lt2 hk; omega), Nat.and_two_pow_sub_one_eq_mod]
theorem wb_a1 {n : Nat} (hn : n < 2 ^ 64) : lN n &&& 1 = lN (n % 2) := wb_mask (k := 1) hn (by decide)
theorem wb_bit {n k : Nat} (hn : n < 2 ^ 64) (hk : k < 64) : ((lN n).toUInt64 >>> ((nI k).toInt64.toUInt64 &&& Int64.toUInt64 63)).toInt64 &&& 1 = lN (n / 2 ^ k % 2) := by
  rw [wb_shr hn hk, wb_a1 (Nat.lt_of_le_of_lt (Nat.div_le_self _ _) hn)]
theorem wb_xor {q k : Nat} (hk : k < 63) (h : 2 ^ k ≤ q) (h2 : q < 2 ^ (k + 1)) : lN q ^^^ lN (2 ^ k) = lN (q - 2 ^ k) := by
  obtain ⟨r, rfl⟩ : ∃ r, q = 2 ^ k + r := ⟨q - 2 ^ k, by omega⟩
  have hr : r < 2 ^ k := by rw [Nat.pow_succ] at h2; omega
  have hx : (2 ^ k + r) ^^^ 2 ^ k = r := by
    apply Nat.eq_of_testBit_eq
    intro i
    rw [Nat.testBit_xor, Nat.testBit_two_pow]
    rcases Nat.lt_trichotomy i k with h | h | h
    · rw [Nat.testBit_two_pow_add_gt h]
      simp [show ¬ k = i by omega]
    · subst h
      rw [Nat.testBit_two_pow_add_eq]
      simp
    · have a1 : 2 ^ (k + 1) ≤ 2 ^ i := Nat.pow_le_pow_right (by decide) h
      rw [Nat.testBit_lt_two_pow (show 2 ^ k + r < 2 ^ i by omega), Nat.testBit_lt_two_pow (show r < 2 ^ i by omega)]
      simp [show ¬ k = i by omega]
  have b1 := wb_lt2 (show k + 1 < 64 by omega)
  have b2 := wb_lt2 (show k < 64 by omega)
  apply wb_inj
  rw [Int64.toBitVec_xor, wb_tb, wb_tb, wb_tb]
  apply BitVec.eq_of_toNat_eq
  rw [BitVec.toNat_xor, BitVec.toNat_ofNat, BitVec.toNat_ofNat, BitVec.toNat_ofNat, Nat.mod_eq_of_lt (by omega : 2 ^ k + r < 2 ^ 64), Nat.mod_eq_of_lt b2, hx, Nat.add_sub_cancel_left, Nat.mod_eq_of_lt (by omega)]
/-! ===== lN: masks, 'or' of parts that don't overlap is a sum ===== -/
theorem u_tn {n : Nat} (h : n < 2 ^ 64) : (UInt64.ofNat n).toNat = n := Nat.mod_eq_of_lt h
theorem g_and {a b c : Nat} (ha : a < 2 ^ 64) (hb : b < 2 ^ 64) (hc : a &&& b = c) : lN a &&& lN b = lN c := by
  subst hc
  have h : UInt64.ofNat a &&& UInt64.ofNat b = UInt64.ofNat (a &&& b) := UInt64.toNat_inj.mp (by rw [UInt64.toNat_and, u_tn ha, u_tn hb, u_tn (Nat.and_lt_two_pow a hb)])
  have h2 := congrArg UInt64.toInt64 h
  exact h2
theorem g_and1 {a : Nat} (ha : a < 2 ^ 64) : lN a &&& 1 = lN (a % 2) := g_and (b := 1) ha (by decide) (Nat.and_two_pow_sub_one_eq_mod a 1)
theorem g_mask {a s p : Nat} (hp : 2 ^ s = p) (hs : s < 64) (ha : a < 2 ^ 64) : lN a &&& lN (p - 1) = lN (a % p) := by
  subst hp
  have := Nat.pow_lt_pow_right (show 1 < 2 by decide) hs
  exact g_and ha (by omega) (Nat.and_two_pow_sub_one_eq_mod a s)
theorem g_or {k p a b : Nat} (hp : 2 ^ k = p) (ha : a < p) (h : b * p + a < 2 ^ 64) : lN (b * p) ||| lN a = lN (b * p + a) := by
  subst hp
  have h1 : b * 2 ^ k ||| a = b * 2 ^ k + a := by rw [← Nat.shiftLeft_eq, Nat.shiftLeft_add_eq_or_of_lt ha]
  have h3 : UInt64.ofNat (b * 2 ^ k) ||| UInt64.ofNat a = UInt64.ofNat (b * 2 ^ k + a) := UInt64.toNat_inj.mp (by rw [UInt64.toNat_or, u_tn (by omega), u_tn (by omega), u_tn h, h1])
  have h2 := congrArg UInt64.toInt64 h3
  exact h2
theorem g_or' {k p a b : Nat} (hp : 2 ^ k = p) (ha : a < p) (h : a + b * p < 2 ^ 64) : lN a ||| lN (b * p) = lN (a + b * p) := by
  rw [Int64.or_comm, g_or hp ha (by omega), Nat.add_comm]
theorem g_ushr {a k p : Nat} {y : UInt64} (hy : y = UInt64.ofNat k) (hk : k < 64) (hp : 2 ^ k = p) (ha : a < 2 ^ 64) : ((lN a).toUInt64 >>> y).toInt64 = lN (a / p) := by
  subst hy hp
  have h : UInt64.ofNat a >>> UInt64.ofNat k = UInt64.ofNat (a / 2 ^ k) := UInt64.toNat_inj.mp (by rw [UInt64.toNat_shiftRight, u_tn ha, u_tn (by omega), u_tn (Nat.lt_of_le_of_lt (Nat.div_le_self _ _) ha), Nat.mod_eq_of_lt hk, Nat.shiftRight_eq_div_pow])
  have h2 := congrArg UInt64.toInt64 h
  exact h2
theorem g_shl {a k p : Nat} {y : Int64} (hy : y.toBitVec.smod 64 = BitVec.ofNat 64 k) (hk : k < 64) (hp : 2 ^ k = p) (ha : a < 2 ^ 64) : lN a <<< y = lN (a * p) := by
  subst hp
  apply Int64.toBitVec_inj.mp
  rw [Int64.toBitVec_shiftLeft, hy]
  apply BitVec.eq_of_toNat_eq
  have hb : (lN a).toBitVec.toNat = a := Nat.mod_eq_of_lt ha
  have hk' : (BitVec.ofNat 64 k).toNat = k := Nat.mod_eq_of_lt (by omega)
  have h : ((lN a).toBitVec <<< BitVec.ofNat 64 k).toNat = (a * 2 ^ k) % 2 ^ 64 := by simp only [BitVec.shiftLeft_eq', BitVec.toNat_shiftLeft, hb, hk', Nat.shiftLeft_eq]
  exact h
/-! ===== lN to 2^62 under >> and >>> ===== -/
theorem pf_lI {a : Nat} (h : a < 2 ^ 63) : (lN a).toInt = (a : Int) := lg_ofNat_toInt h
theorem pf_shr {a d : Nat} {D : Int64} (hD : (D.toBitVec.smod 64).toNat = d) (h : a < 2 ^ 62) : lN a >>> D = lN (a / 2 ^ d) := by
  have hd : a / 2 ^ d ≤ a := Nat.div_le_self _ _
  apply Int64.toInt_inj.mp
  have e : (lN a >>> D).toInt = (lN a).toInt >>> d := by
    rw [← hD]
    exact BitVec.toInt_sshiftRight ..
  rw [e, Int.shiftRight_eq_div_pow, pf_lI (by omega), pf_lI (by omega)]
  rfl
theorem pf_ushr {a d : Nat} {D : UInt64} (hD : D.toNat % 64 = d) (h : a < 2 ^ 62) : ((lN a).toUInt64 >>> D).toInt64 = lN (a / 2 ^ d) := by
  have hd : a / 2 ^ d ≤ a := Nat.div_le_self _ _
  have e : (lN a).toUInt64 >>> D = UInt64.ofNat (a / 2 ^ d) := UInt64.toNat_inj.mp (by
    rw [UInt64.toNat_shiftRight, hD, Nat.shiftRight_eq_div_pow, UInt64.toNat_ofNat']
    show (UInt64.ofNat a).toNat / 2 ^ d = _
    rw [UInt64.toNat_ofNat', Nat.mod_eq_of_lt (by omega), Nat.mod_eq_of_lt (by omega)])
  rw [e]
  rfl
theorem pf_andw (x : Int64) : ∃ m, m < 2 ^ 32 ∧ x &&& 4294967295 = lN m := ⟨x.toBitVec.toNat % 2 ^ 32, Nat.mod_lt _ (by decide), Int64.toBitVec_inj.mp (BitVec.eq_of_toNat_eq (by
  show (x.toBitVec &&& 4294967295#64).toNat = (BitVec.ofNat 64 (x.toBitVec.toNat % 2 ^ 32)).toNat
  rw [BitVec.toNat_and, show (4294967295#64).toNat = 2 ^ 32 - 1 from by decide, Nat.and_two_pow_sub_one_eq_mod, BitVec.toNat_ofNat]
  omega))⟩
/-! ===== Int64 as an unsigned number: uN x ===== -/
def uN (x : Int64) : Nat := x.toUInt64.toNat
theorem uN_lt (x : Int64) : uN x < 18446744073709551616 := x.toUInt64.toNat_lt
theorem uN_inj {x y : Int64} (h : uN x = uN y) : x = y := congrArg UInt64.toInt64 (UInt64.toNat_inj.mp h)
theorem uN_add (x y : Int64) : uN (x + y) = (uN x + uN y) % 18446744073709551616 := by
  show (x.toUInt64 + y.toUInt64).toNat = _
  exact UInt64.toNat_add _ _
theorem uN_mul (x y : Int64) : uN (x * y) = (uN x * uN y) % 18446744073709551616 := by
  show (x.toUInt64 * y.toUInt64).toNat = _
  exact UInt64.toNat_mul _ _
theorem uN_shl (x : Int64) : uN (x <<< ((1 : Int32).toInt64 &&& 63)) = (2 * uN x) % 18446744073709551616 := by
  have h : (((1 : Int32).toInt64 &&& 63).toBitVec.smod 64).toNat = 1 := by decide
  show (x.toBitVec <<< (((1 : Int32).toInt64 &&& 63).toBitVec.smod 64).toNat).toNat = _
  rw [h, BitVec.toNat_shiftLeft, Nat.shiftLeft_eq, Nat.mul_comm]
  rfl
theorem uN_shr (x : Int64) (s : UInt64) : uN (x.toUInt64 >>> s).toInt64 = uN x / 2 ^ (s.toNat % 64) := by
  show (x.toUInt64 >>> s).toNat = _
  rw [UInt64.toNat_shiftRight, Nat.shiftRight_eq_div_pow]
  rfl
theorem uN_s32 (x : Int64) : uN (x.toUInt64 >>> ((32 : Int32).toInt64.toUInt64 &&& Int64.toUInt64 63)).toInt64 = uN x / 4294967296 := by
  have h : ((32 : Int32).toInt64.toUInt64 &&& Int64.toUInt64 63).toNat % 64 = 32 := by decide
  rw [uN_shr, h]
theorem uN_s63 (x : Int64) : uN (x.toUInt64 >>> ((63 : Int32).toInt64.toUInt64 &&& Int64.toUInt64 63)).toInt64 = uN x / 9223372036854775808 := by
  have h : ((63 : Int32).toInt64.toUInt64 &&& Int64.toUInt64 63).toNat % 64 = 63 := by decide
  rw [uN_shr, h]
theorem uN_lo (x : Int64) : uN (x &&& 4294967295) = uN x % 4294967296 := by
  show (x.toUInt64 &&& Int64.toUInt64 4294967295).toNat = _
  rw [UInt64.toNat_and]
  exact Nat.and_two_pow_sub_one_eq_mod _ 32
theorem uN_bit (x : Int64) : (x &&& 1) = 0 ↔ uN x % 2 = 0 := by
  have h : uN (x &&& 1) = uN x % 2 := by
    show (x.toUInt64 &&& Int64.toUInt64 1).toNat = _
    rw [UInt64.toNat_and]
    exact Nat.and_two_pow_sub_one_eq_mod _ 1
  rw [← h]
  exact ⟨fun z => by rw [z]; rfl, fun z => uN_inj (z.trans rfl)⟩
theorem uN_or {x y : Int64} (hy : uN y < 2) : uN ((x <<< ((1 : Int32).toInt64 &&& 63)) ||| y) = (2 * uN x) % 18446744073709551616 + uN y := by
  have h1 : uN ((x <<< ((1 : Int32).toInt64 &&& 63)) ||| y) = uN (x <<< ((1 : Int32).toInt64 &&& 63)) ||| uN y := UInt64.toNat_or _ _
  have h2 : (2 * uN x) % 18446744073709551616 = 2 ^ 1 * (uN x % 9223372036854775808) := by omega
  rw [h1, uN_shl, h2]
  exact (Nat.two_pow_add_eq_or_of_lt (i := 1) hy _).symm
theorem nat_xor {a : Nat} (h : a < 18446744073709551616) : a ^^^ 2 ^ 63 = (a + 9223372036854775808) % 18446744073709551616 := by
  have h1 : (a ^^^ 2 ^ 63) % 2 ^ 63 = a % 2 ^ 63 := by rw [Nat.xor_mod_two_pow, Nat.mod_self, Nat.xor_zero]
  have h2 : (a ^^^ 2 ^ 63) / 2 ^ 63 = (a / 2 ^ 63) ^^^ 1 := by rw [Nat.xor_div_two_pow, Nat.div_self (Nat.two_pow_pos 63)]
  have h3 : a / 2 ^ 63 = 0 ∨ a / 2 ^ 63 = 1 := by omega
  generalize a ^^^ 2 ^ 63 = t at h1 h2
  rcases h3 with h3 | h3
  · rw [h3] at h2
    have h2 : t / 2 ^ 63 = 1 := h2
    omega
  · rw [h3] at h2
    have h2 : t / 2 ^ 63 = 0 := h2
    omega
theorem uN_xor (x : Int64) : uN (x ^^^ (-9223372036854775808)) = (uN x + 9223372036854775808) % 18446744073709551616 := by
  rw [← nat_xor (uN_lt x)]
  exact UInt64.toNat_xor _ _
theorem uN_int (x : Int64) : x.toInt = if 2 * uN x < 18446744073709551616 then (uN x : Int) else (uN x : Int) - 18446744073709551616 := BitVec.toInt_eq_toNat_cond _
theorem uN_le (x y : Int64) : (x ^^^ (-9223372036854775808)) ≤ (y ^^^ (-9223372036854775808)) ↔ uN x ≤ uN y := by
  have hx := uN_lt x
  have hy := uN_lt y
  rw [Int64.le_iff_toInt_le, uN_int, uN_int, uN_xor, uN_xor]
  omega
theorem uN_sk (x : Int64) {k : Nat} (hk : k < 64) : uN (x.toUInt64 >>> ((nI k).toInt64.toUInt64 &&& Int64.toUInt64 63)).toInt64 = uN x / 2 ^ k := by
  have h : ((nI k).toInt64.toUInt64 &&& Int64.toUInt64 63).toNat % 64 = k := by
    rw [nI_l (by omega), UInt64.toNat_and]
    have e : (lN k).toUInt64.toNat = k % 2 ^ 64 := rfl
    have e2 : (Int64.toUInt64 63).toNat = 2 ^ 6 - 1 := by decide
    rw [e, e2, Nat.and_two_pow_sub_one_eq_mod]
    omega
  rw [uN_shr, h]
/-! ===== unsigned comparison by xor with the least ===== -/
theorem lN_bv (n : Nat) : (lN n).toBitVec = BitVec.ofNat 64 n := rfl
theorem lN_nat {n : Nat} (h : n < 2 ^ 64) : (lN n).toBitVec.toNat = n := by rw [lN_bv, BitVec.toNat_ofNat]; exact Nat.mod_eq_of_lt h
theorem lN_xor (a b : Nat) : lN a ^^^ lN b = lN (a ^^^ b) := by
  apply Int64.toBitVec_inj.mp; rw [Int64.toBitVec_xor, lN_bv, lN_bv, lN_bv]; apply BitVec.eq_of_getLsbD_eq; intro i hi; simp [BitVec.getLsbD_ofNat, Nat.testBit_xor, hi]
theorem lN_ti {m : Nat} (h : m < 2 ^ 64) : (lN m).toInt = if m < 2 ^ 63 then (m : Int) else (m : Int) - 2 ^ 64 := by
  have c := BitVec.toInt_eq_toNat_cond (lN m).toBitVec
  rw [lN_nat h] at c
  show (lN m).toBitVec.toInt = _
  rw [c]
  split <;> split <;> omega
theorem xor63 {x : Nat} (h : x < 2 ^ 63) : x ^^^ 2 ^ 63 = 2 ^ 63 + x := by
  apply Nat.eq_of_testBit_eq
  intro i
  rw [Nat.testBit_xor, Nat.testBit_two_pow]
  rcases Nat.lt_trichotomy i 63 with z | z | z
  · rw [Nat.testBit_two_pow_add_gt z, decide_eq_false (by omega)]; simp
  · subst z; rw [Nat.testBit_two_pow_add_eq]; simp
  · have hp : 2 ^ 64 ≤ 2 ^ i := Nat.pow_le_pow_right (by decide) z
    rw [Nat.testBit_lt_two_pow (show x < 2 ^ i by omega), Nat.testBit_lt_two_pow (show 2 ^ 63 + x < 2 ^ i by omega), decide_eq_false (by omega)]; rfl
theorem xorS {a : Nat} (h : a < 2 ^ 64) : (lN a ^^^ (-9223372036854775808)).toInt = (a : Int) - 2 ^ 63 := by
  rw [show (-9223372036854775808 : Int64) = lN (2 ^ 63) from by decide +kernel, lN_xor]
  rcases Nat.lt_or_ge a (2 ^ 63) with z | z
  · rw [xor63 z, lN_ti (by omega), if_neg (by omega)]; omega
  · obtain ⟨x, rfl⟩ : ∃ x, a = 2 ^ 63 + x := ⟨a - 2 ^ 63, by omega⟩
    rw [← xor63 (by omega), Nat.xor_assoc, Nat.xor_self, Nat.xor_zero, lN_ti (by omega), if_pos (by omega), xor63 (by omega)]; omega
theorem ultL {a b : Nat} (ha : a < 2 ^ 64) (hb : b < 2 ^ 64) : ((lN b ^^^ (-9223372036854775808)) ≤ (lN a ^^^ (-9223372036854775808))) ↔ b ≤ a := by
  rw [Int64.le_iff_toInt_le, xorS ha, xorS hb]; omega
/-! ===== Int64 masks of n low bits ===== -/
theorem cr_bits (W U M : BitVec 64) : ((W &&& U) &&& (U &&& (M ^^^ BitVec.allOnes 64))) = 0#64 ↔ (W &&& U) &&& M = W &&& U := by
  constructor
  · intro h
    apply BitVec.eq_of_getLsbD_eq
    intro i hi
    have e := congrArg (fun x => BitVec.getLsbD x i) h
    simp only [BitVec.getLsbD_and, BitVec.getLsbD_xor, BitVec.getLsbD_allOnes, BitVec.getLsbD_zero, hi, decide_true] at e ⊢
    revert e
    cases W.getLsbD i <;> cases U.getLsbD i <;> cases M.getLsbD i <;> decide
  · intro h
    apply BitVec.eq_of_getLsbD_eq
    intro i hi
    have e := congrArg (fun x => BitVec.getLsbD x i) h
    simp only [BitVec.getLsbD_and, BitVec.getLsbD_xor, BitVec.getLsbD_allOnes, BitVec.getLsbD_zero, hi, decide_true] at e ⊢
    revert e
    cases W.getLsbD i <;> cases U.getLsbD i <;> cases M.getLsbD i <;> decide
theorem cr_mask (w U m : Int64) (n : Nat) (hm : m.toBitVec.toNat = 2 ^ n - 1) : ((w &&& U) &&& (U &&& (m ^^^ (-1)))) = 0 ↔ (w &&& U).toBitVec.toNat < 2 ^ n := by
  have e0 : (-1 : Int64).toBitVec = BitVec.allOnes 64 := by decide
  have z0 : (0 : Int64).toBitVec = 0#64 := by decide
  rw [← Int64.toBitVec_inj, z0, Int64.toBitVec_and, Int64.toBitVec_and, Int64.toBitVec_and, Int64.toBitVec_xor, e0, cr_bits]
  generalize w.toBitVec &&& U.toBitVec = T
  rw [← BitVec.toNat_inj, BitVec.toNat_and, hm, Nat.and_two_pow_sub_one_eq_mod]
  constructor
  · intro h
    have t := Nat.mod_lt T.toNat (Nat.two_pow_pos n)
    rw [h] at t
    exact t
  · exact Nat.mod_eq_of_lt
theorem cr_shr (t : Int64) (x : UInt64) (n : Nat) (hx : x.toNat % 64 = n) : (t.toUInt64 >>> x).toInt64 = 0 ↔ t.toBitVec.toNat < 2 ^ n := by
  rw [← Int64.toBitVec_inj, ← BitVec.toNat_inj]
  show (t.toUInt64 >>> x).toNat = 0 ↔ t.toUInt64.toNat < 2 ^ n
  rw [UInt64.toNat_shiftRight, hx, Nat.shiftRight_eq_div_pow]
  constructor
  · intro h
    have d : t.toUInt64.toNat / 2 ^ n < 1 := by
      rw [h]
      decide
    have e := (Nat.div_lt_iff_lt_mul (Nat.two_pow_pos n)).mp d
    rw [Nat.one_mul] at e
    exact e
  · exact Nat.div_eq_of_lt
theorem cr_amt (s : Int64) : ∃ n, n < 64 ∧ s &&& 63 = lN n ∧ (s.toUInt64 &&& Int64.toUInt64 63).toNat % 64 = n := by
  have e : (s.toUInt64 &&& Int64.toUInt64 63).toNat = s.toUInt64.toNat % 2 ^ 6 := by
    rw [UInt64.toNat_and, show (Int64.toUInt64 63).toNat = 2 ^ 6 - 1 from by decide, Nat.and_two_pow_sub_one_eq_mod]
  refine ⟨s.toUInt64.toNat % 2 ^ 6, by omega, ?_, by omega⟩
  rw [← Int64.toBitVec_inj, ← BitVec.toNat_inj]
  show (s.toUInt64 &&& Int64.toUInt64 63).toNat = (BitVec.ofNat 64 (s.toUInt64.toNat % 2 ^ 6)).toNat
  rw [e, BitVec.toNat_ofNat]
  omega
end
section
/-! plain facts to paste, each family by itself; over the kit's nI, lN and upd -/
/-! ===== drawers: more things than places ===== -/
theorem fb_holes : ∀ (m n : Nat) (f : Nat → Nat), (∀ i, i < n → f i < m) → (∀ i j, i < j → j < n → f i ≠ f j) → n ≤ m := by
  intro m
  induction m with
  | zero =>
    intro n f h1 _
    rcases Nat.eq_zero_or_pos n with h | h
    · omega
    · exact absurd (h1 0 h) (Nat.not_lt_zero _)
  | succ m ih =>
    intro n f h1 h2
    by_cases hx : ∃ i, i < n ∧ f i = m
    · obtain ⟨a, ha, hfa⟩ := hx
      have hg := ih (n - 1) (fun i => if i < a then f i else f (i + 1)) (by
        intro i hi
        by_cases q : i < a
        · simp only [if_pos q]
          have b1 := h1 i (by omega)
          have b2 := h2 i a q ha
          omega
        · simp only [if_neg q]
          have b1 := h1 (i + 1) (by omega)
          have b2 := h2 a (i + 1) (by omega) (by omega)
          omega) (by
        intro i j hij hj
        by_cases q : i < a
        · by_cases r : j < a
          · simp only [if_pos q, if_pos r]
            exact h2 i j hij (by omega)
          · simp only [if_pos q, if_neg r]
            exact h2 i (j + 1) (by omega) (by omega)
        · have r : ¬ j < a := by omega
          simp only [if_neg q, if_neg r]
          exact h2 (i + 1) (j + 1) (by omega) (by omega))
      omega
    · have hg := ih n f (fun i hi => by
        have b1 := h1 i hi
        have b2 : f i ≠ m := fun e => hx ⟨i, hi, e⟩
        omega) h2
      omega
/-- two of them in one place -/
theorem fb_twice {m n : Nat} {f : Nat → Nat} (h : ∀ i, i < n → f i < m) (hm : m < n) : ∃ i j, i < j ∧ j < n ∧ f i = f j := by
  refine Classical.byContradiction fun hx => ?_
  have := fb_holes m n f h (fun i j hij hj e => hx ⟨i, j, hij, hj, e⟩)
  omega
/-- as many as places, none twice: each place is taken -/
theorem fb_onto {n : Nat} {f : Nat → Nat} (h : ∀ i, i < n → f i < n) (h2 : ∀ i j, i < j → j < n → f i ≠ f j) {y : Nat} (hy : y < n) : ∃ i, i < n ∧ f i = y := by
  refine Classical.byContradiction fun hx => ?_
  have hne : ∀ i, i < n → f i ≠ y := fun i hi e => hx ⟨i, hi, e⟩
  have := fb_holes (n - 1) n (fun i => if f i < y then f i else f i - 1) (by
    intro i hi
    have b1 := h i hi
    have b2 := hne i hi
    by_cases q : f i < y
    · simp only [if_pos q]; omega
    · simp only [if_neg q]; omega) (by
    intro i j hij hj
    have b1 := hne i (by omega)
    have b2 := hne j hj
    have b3 := h2 i j hij hj
    by_cases q : f i < y
    · by_cases r : f j < y
      · simp only [if_pos q, if_pos r]; exact b3
      · simp only [if_pos q, if_neg r]; omega
    · by_cases r : f j < y
      · simp only [if_neg q, if_pos r]; omega
      · simp only [if_neg q, if_neg r]; omega)
  omega
/-! ===== how many places have a property ===== -/
def fb_ct (p : Nat → Bool) : Nat → Nat
  | 0 => 0
  | n + 1 => fb_ct p n + (if p n then 1 else 0)
theorem fb_ct_succ (p : Nat → Bool) (n : Nat) : fb_ct p (n + 1) = fb_ct p n + (if p n then 1 else 0) := rfl
theorem fb_ct_le (p : Nat → Bool) : ∀ n, fb_ct p n ≤ n
  | 0 => Nat.le_refl _
  | n + 1 => by
    have h := fb_ct_le p n
    rw [fb_ct_succ]
    split <;> omega
theorem fb_ct_step (p : Nat → Bool) (m : Nat) : ∀ n, fb_ct p m ≤ fb_ct p (m + n)
  | 0 => Nat.le_refl _
  | n + 1 => by
    have h := fb_ct_step p m n
    show fb_ct p m ≤ fb_ct p (m + n + 1)
    rw [fb_ct_succ]
    omega
theorem fb_ct_mono (p : Nat → Bool) {m n : Nat} (h : m ≤ n) : fb_ct p m ≤ fb_ct p n := by
  have := fb_ct_step p m (n - m)
  rwa [Nat.add_sub_cancel' h] at this
theorem fb_ct_cong {p q : Nat → Bool} : ∀ {n : Nat}, (∀ k, k < n → p k = q k) → fb_ct p n = fb_ct q n
  | 0, _ => rfl
  | n + 1, h => by
    rw [fb_ct_succ, fb_ct_succ, fb_ct_cong (fun k hk => h k (by omega)), h n (by omega)]
/-- one place changed -/
theorem fb_ct_out (p : Nat → Bool) (b : Bool) {i n : Nat} (h : n ≤ i) : fb_ct (fun k => if k = i then b else p k) n = fb_ct p n :=
  fb_ct_cong fun k hk => if_neg (by omega)
theorem fb_ct_upd (p : Nat → Bool) (b : Bool) {i : Nat} : ∀ {n : Nat}, i < n → fb_ct (fun k => if k = i then b else p k) n + (if p i then 1 else 0) = fb_ct p n + (if b then 1 else 0)
  | 0, h => absurd h (Nat.not_lt_zero i)
  | n + 1, h => by
    rw [fb_ct_succ, fb_ct_succ]
    rcases Nat.lt_or_ge i n with q | q
    · have := fb_ct_upd p b q
      have e : (if n = i then b else p n) = p n := if_neg (by omega)
      rw [e]
      omega
    · have e : i = n := by omega
      subst e
      rw [fb_ct_out p b (Nat.le_refl _)]
      simp only [if_true]
      omega
theorem fb_ct_sub {p q : Nat → Bool} : ∀ {n : Nat}, (∀ k, k < n → p k = true → q k = true) → fb_ct p n ≤ fb_ct q n
  | 0, _ => Nat.le_refl _
  | n + 1, h => by
    have h1 := fb_ct_sub (n := n) (p := p) (q := q) (fun k hk => h k (by omega))
    have h2 := h n (by omega)
    rw [fb_ct_succ, fb_ct_succ]
    cases hp : p n <;> cases hq : q n <;> simp_all <;> omega
theorem fb_ct_or {p q : Nat → Bool} : ∀ {n : Nat}, (∀ k, k < n → ¬ (p k = true ∧ q k = true)) → fb_ct (fun k => p k || q k) n = fb_ct p n + fb_ct q n
  | 0, _ => rfl
  | n + 1, h => by
    have h1 := fb_ct_or (n := n) (p := p) (q := q) (fun k hk => h k (by omega))
    have h2 := h n (by omega)
    rw [fb_ct_succ, fb_ct_succ, fb_ct_succ, h1]
    cases hp : p n <;> cases hq : q n <;> simp_all <;> omega
theorem fb_ct_not (p : Nat → Bool) : ∀ n, fb_ct p n + fb_ct (fun k => !p k) n = n
  | 0 => rfl
  | n + 1 => by
    have h := fb_ct_not p n
    rw [fb_ct_succ, fb_ct_succ]
    cases p n <;> simp <;> omega
theorem fb_ct_split (p : Nat → Bool) (m : Nat) : ∀ n, fb_ct p (m + n) = fb_ct p m + fb_ct (fun k => p (m + k)) n
  | 0 => rfl
  | n + 1 => by
    have h := fb_ct_split p m n
    show fb_ct p (m + n + 1) = _
    rw [fb_ct_succ, fb_ct_succ, h, Nat.add_assoc]
theorem fb_ct_zero {p : Nat → Bool} : ∀ {n : Nat}, fb_ct p n = 0 ↔ ∀ k, k < n → p k = false
  | 0 => ⟨fun _ k hk => absurd hk (Nat.not_lt_zero k), fun _ => rfl⟩
  | n + 1 => by
    have h := fb_ct_zero (p := p) (n := n)
    rw [fb_ct_succ]
    constructor
    · intro e k hk
      have e1 : fb_ct p n = 0 := by omega
      rcases Nat.lt_or_ge k n with q | q
      · exact h.mp e1 k q
      · have ek : k = n := by omega
        subst ek
        cases hp : p k
        · rfl
        · simp [hp] at e
    · intro a
      rw [h.mpr (fun k hk => a k (by omega)), a n (by omega)]
      rfl
theorem fb_ct_pos {p : Nat → Bool} {n : Nat} : 0 < fb_ct p n ↔ ∃ k, k < n ∧ p k = true := by
  constructor
  · intro h
    refine Classical.byContradiction fun hx => ?_
    have := fb_ct_zero.mpr (fun k hk => by
      cases hp : p k
      · rfl
      · exact absurd ⟨k, hk, hp⟩ hx : ∀ k, k < n → p k = false)
    omega
  · rintro ⟨k, hk, hp⟩
    rcases Nat.eq_zero_or_pos (fb_ct p n) with e | e
    · have := fb_ct_zero.mp e k hk
      rw [this] at hp
      cases hp
    · exact e
theorem fb_ct_all {p : Nat → Bool} {n : Nat} : fb_ct p n = n ↔ ∀ k, k < n → p k = true := by
  have h := fb_ct_not p n
  constructor
  · intro e k hk
    have z : fb_ct (fun k => !p k) n = 0 := by omega
    have := fb_ct_zero.mp z k hk
    cases hp : p k
    · simp [hp] at this
    · rfl
  · intro a
    have z : fb_ct (fun k => !p k) n = 0 := fb_ct_zero.mpr (fun k hk => by simp [a k hk])
    omega
/-- the k-th place with the property -/
theorem fb_ct_kth {p : Nat → Bool} {k : Nat} : ∀ {n : Nat}, k < fb_ct p n → ∃ i, i < n ∧ p i = true ∧ fb_ct p i = k
  | 0, h => absurd h (Nat.not_lt_zero k)
  | n + 1, h => by
    rcases Nat.lt_or_ge k (fb_ct p n) with q | q
    · obtain ⟨i, h1, h2⟩ := fb_ct_kth q
      exact ⟨i, by omega, h2⟩
    · rw [fb_ct_succ] at h
      cases hp : p n
      · simp [hp] at h; omega
      · simp [hp] at h
        exact ⟨n, by omega, hp, by omega⟩
theorem fb_ct_kth_one {p : Nat → Bool} {i j : Nat} (hi : p i = true) (hj : p j = true) (e : fb_ct p i = fb_ct p j) : i = j := by
  have key : ∀ a b : Nat, a < b → p a = true → fb_ct p a < fb_ct p b := by
    intro a b hab ha
    have h := fb_ct_mono p (show a + 1 ≤ b from hab)
    rw [fb_ct_succ, ha] at h
    simp at h
    omega
  rcases Nat.lt_trichotomy i j with q | q | q
  · have := key i j q hi; omega
  · exact q
  · have := key j i q hj; omega
/-! ===== sums over a range: one place changed, parts, bounds ===== -/
def fb_sm (f : Nat → Nat) : Nat → Nat
  | 0 => 0
  | n + 1 => fb_sm f n + f n
theorem fb_sm_succ (f : Nat → Nat) (n : Nat) : fb_sm f (n + 1) = fb_sm f n + f n := rfl
theorem fb_sm_cong {f g : Nat → Nat} : ∀ {n : Nat}, (∀ k, k < n → f k = g k) → fb_sm f n = fb_sm g n
  | 0, _ => rfl
  | n + 1, h => by rw [fb_sm_succ, fb_sm_succ, fb_sm_cong (fun k hk => h k (by omega)), h n (by omega)]
theorem fb_sm_out (f : Nat → Nat) (v : Nat) {i n : Nat} (h : n ≤ i) : fb_sm (fun k => if k = i then v else f k) n = fb_sm f n :=
  fb_sm_cong fun k hk => if_neg (by omega)
theorem fb_sm_upd (f : Nat → Nat) (v : Nat) {i : Nat} : ∀ {n : Nat}, i < n → fb_sm (fun k => if k = i then v else f k) n + f i = fb_sm f n + v
  | 0, h => absurd h (Nat.not_lt_zero i)
  | n + 1, h => by
    rw [fb_sm_succ, fb_sm_succ]
    rcases Nat.lt_or_ge i n with q | q
    · have := fb_sm_upd f v q
      have e : (if n = i then v else f n) = f n := if_neg (by omega)
      rw [e]
      omega
    · have e : i = n := by omega
      subst e
      rw [fb_sm_out f v (Nat.le_refl _)]
      simp only [if_true]
      omega
theorem fb_sm_add (f g : Nat → Nat) : ∀ n, fb_sm (fun k => f k + g k) n = fb_sm f n + fb_sm g n
  | 0 => rfl
  | n + 1 => by
    have h := fb_sm_add f g n
    rw [fb_sm_succ, fb_sm_succ, fb_sm_succ, h]
    omega
theorem fb_sm_le {f g : Nat → Nat} : ∀ {n : Nat}, (∀ k, k < n → f k ≤ g k) → fb_sm f n ≤ fb_sm g n
  | 0, _ => Nat.le_refl _
  | n + 1, h => by
    have h1 := fb_sm_le (n := n) (f := f) (g := g) (fun k hk => h k (by omega))
    have h2 := h n (by omega)
    rw [fb_sm_succ, fb_sm_succ]
    omega
theorem fb_sm_const (c : Nat) : ∀ n, fb_sm (fun _ => c) n = n * c
  | 0 => by rw [Nat.zero_mul]; rfl
  | n + 1 => by rw [fb_sm_succ, fb_sm_const c n, Nat.succ_mul]
theorem fb_sm_bound {f : Nat → Nat} {c n : Nat} (h : ∀ k, k < n → f k ≤ c) : fb_sm f n ≤ n * c := by
  rw [← fb_sm_const c n]
  exact fb_sm_le h
theorem fb_sm_mono (f : Nat → Nat) (m : Nat) : ∀ n, fb_sm f m ≤ fb_sm f (m + n)
  | 0 => Nat.le_refl _
  | n + 1 => by
    have h := fb_sm_mono f m n
    show fb_sm f m ≤ fb_sm f (m + n + 1)
    rw [fb_sm_succ]
    omega
theorem fb_sm_part (f : Nat → Nat) {i n : Nat} (h : i < n) : fb_sm f i + f i ≤ fb_sm f n := by
  have := fb_sm_mono f (i + 1) (n - (i + 1))
  rw [fb_sm_succ, show i + 1 + (n - (i + 1)) = n by omega] at this
  exact this
theorem fb_sm_split (f : Nat → Nat) (m : Nat) : ∀ n, fb_sm f (m + n) = fb_sm f m + fb_sm (fun k => f (m + k)) n
  | 0 => rfl
  | n + 1 => by
    have h := fb_sm_split f m n
    show fb_sm f (m + n + 1) = _
    rw [fb_sm_succ, fb_sm_succ, h, Nat.add_assoc]
theorem fb_sm_zero {f : Nat → Nat} {n : Nat} (h : fb_sm f n = 0) : ∀ k, k < n → f k = 0 := fun k hk => by
  have := fb_sm_part f hk
  omega
/-- the same over whole numbers -/
def fb_si (f : Nat → Int) : Nat → Int
  | 0 => 0
  | n + 1 => fb_si f n + f n
theorem fb_si_succ (f : Nat → Int) (n : Nat) : fb_si f (n + 1) = fb_si f n + f n := rfl
theorem fb_si_cong {f g : Nat → Int} : ∀ {n : Nat}, (∀ k, k < n → f k = g k) → fb_si f n = fb_si g n
  | 0, _ => rfl
  | n + 1, h => by rw [fb_si_succ, fb_si_succ, fb_si_cong (fun k hk => h k (by omega)), h n (by omega)]
theorem fb_si_out (f : Nat → Int) (v : Int) {i n : Nat} (h : n ≤ i) : fb_si (fun k => if k = i then v else f k) n = fb_si f n :=
  fb_si_cong fun k hk => if_neg (by omega)
theorem fb_si_upd (f : Nat → Int) (v : Int) {i : Nat} : ∀ {n : Nat}, i < n → fb_si (fun k => if k = i then v else f k) n = fb_si f n - f i + v
  | 0, h => absurd h (Nat.not_lt_zero i)
  | n + 1, h => by
    rw [fb_si_succ, fb_si_succ]
    rcases Nat.lt_or_ge i n with q | q
    · have := fb_si_upd f v q
      have e : (if n = i then v else f n) = f n := if_neg (by omega)
      rw [e]
      omega
    · have e : i = n := by omega
      subst e
      rw [fb_si_out f v (Nat.le_refl _)]
      simp only [if_true]
      omega
theorem fb_si_add (f g : Nat → Int) : ∀ n, fb_si (fun k => f k + g k) n = fb_si f n + fb_si g n
  | 0 => rfl
  | n + 1 => by
    have h := fb_si_add f g n
    rw [fb_si_succ, fb_si_succ, fb_si_succ, h]
    omega
theorem fb_si_sub (f g : Nat → Int) : ∀ n, fb_si (fun k => f k - g k) n = fb_si f n - fb_si g n
  | 0 => rfl
  | n + 1 => by
    have h := fb_si_sub f g n
    rw [fb_si_succ, fb_si_succ, fb_si_succ, h]
    omega
theorem fb_si_mul (c : Int) (f : Nat → Int) : ∀ n, fb_si (fun k => c * f k) n = c * fb_si f n
  | 0 => (Int.mul_zero c).symm
  | n + 1 => by
    have h := fb_si_mul c f n
    rw [fb_si_succ, fb_si_succ, h, Int.mul_add]
theorem fb_si_split (f : Nat → Int) (m : Nat) : ∀ n, fb_si f (m + n) = fb_si f m + fb_si (fun k => f (m + k)) n
  | 0 => (Int.add_zero _).symm
  | n + 1 => by
    have h := fb_si_split f m n
    show fb_si f (m + n + 1) = _
    rw [fb_si_succ, fb_si_succ, h, Int.add_assoc]
theorem fb_si_nat (f : Nat → Nat) : ∀ n, fb_si (fun k => (f k : Int)) n = (fb_sm f n : Int)
  | 0 => rfl
  | n + 1 => by
    have h := fb_si_nat f n
    rw [fb_si_succ, fb_sm_succ, h]
    omega
theorem fb_si_bound {f : Nat → Int} {c : Int} (hc : 0 ≤ c) : ∀ {n : Nat}, (∀ k, k < n → -c ≤ f k ∧ f k ≤ c) → -(n * c) ≤ fb_si f n ∧ fb_si f n ≤ n * c
  | 0, _ => by simp [fb_si]
  | n + 1, h => by
    have h1 := fb_si_bound (n := n) (f := f) hc (fun k hk => h k (by omega))
    have h2 := h n (by omega)
    have e : ((n + 1 : Nat) : Int) * c = n * c + c := by rw [Int.natCast_add, Int.add_mul]; simp
    rw [fb_si_succ, e]
    omega
/-! ===== bits of a long that isn't negative ===== -/
theorem fb_andL (a b : Nat) : lN a &&& lN b = lN (a &&& b) := by
  apply Int64.toBitVec_inj.1
  show BitVec.ofNat 64 a &&& BitVec.ofNat 64 b = BitVec.ofNat 64 (a &&& b)
  apply BitVec.eq_of_getLsbD_eq
  intro i hi
  simp [hi]
theorem fb_orL (a b : Nat) : lN a ||| lN b = lN (a ||| b) := by
  apply Int64.toBitVec_inj.1
  show BitVec.ofNat 64 a ||| BitVec.ofNat 64 b = BitVec.ofNat 64 (a ||| b)
  apply BitVec.eq_of_getLsbD_eq
  intro i hi
  simp [hi]
theorem fb_xorL (a b : Nat) : lN a ^^^ lN b = lN (a ^^^ b) := by
  apply Int64.toBitVec_inj.1
  show BitVec.ofNat 64 a ^^^ BitVec.ofNat 64 b = BitVec.ofNat 64 (a ^^^ b)
  apply BitVec.eq_of_getLsbD_eq
  intro i hi
  simp [hi]
theorem fb_xorI (a b : Nat) : nI a ^^^ nI b = nI (a ^^^ b) := by
  apply Int32.toBitVec_inj.1
  show BitVec.ofNat 32 a ^^^ BitVec.ofNat 32 b = BitVec.ofNat 32 (a ^^^ b)
  apply BitVec.eq_of_getLsbD_eq
  intro i hi
  simp [hi]
theorem fb_maskL (n k : Nat) : lN n &&& lN (2 ^ k - 1) = lN (n % 2 ^ k) := by rw [fb_andL, Nat.and_two_pow_sub_one_eq_mod]
theorem fb_or_sumL {a k : Nat} (b : Nat) (h : a < 2 ^ k) : lN (2 ^ k * b) ||| lN a = lN (2 ^ k * b + a) := by rw [fb_orL, Nat.two_pow_add_eq_or_of_lt h]
theorem fb_lN_inj {a b : Nat} (ha : a < 2 ^ 63) (hb : b < 2 ^ 63) : lN a = lN b ↔ a = b := by
  constructor
  · intro h
    have h1 : (BitVec.ofNat 64 a).toNat = (BitVec.ofNat 64 b).toNat := congrArg (fun x : Int64 => x.toBitVec.toNat) h
    rw [BitVec.toNat_ofNat, BitVec.toNat_ofNat, Nat.mod_eq_of_lt (by omega), Nat.mod_eq_of_lt (by omega)] at h1
    exact h1
  · rintro rfl; rfl
theorem fb_bit_nat (n j : Nat) : n &&& 2 ^ j = 0 ↔ n.testBit j = false := by
  constructor
  · intro h
    have h1 : (n &&& 2 ^ j).testBit j = false := by rw [h]; simp
    rw [Nat.testBit_and] at h1
    simpa using h1
  · intro h
    apply Nat.eq_of_testBit_eq
    intro i
    rw [Nat.testBit_and]
    by_cases hi : j = i
    · subst hi; simp [h]
    · first | (simp [Nat.testBit_two_pow, hi]; done) | (simp [Nat.testBit_two_pow_of_ne hi]; done)
/-- one bit of a long -/
theorem fb_bitL {n j : Nat} (hj : j < 63) : lN n &&& lN (2 ^ j) = 0 ↔ n.testBit j = false := by
  have h2 : (2 : Nat) ^ j < 2 ^ 63 := Nat.pow_lt_pow_right (by decide) hj
  have hle : n &&& 2 ^ j ≤ 2 ^ j := Nat.and_le_right
  rw [fb_andL, ← fb_bit_nat, show (0 : Int64) = lN 0 from rfl]
  exact fb_lN_inj (by omega) (by decide)
/-- a bit set, a bit taken off -/
theorem fb_bit_set (n j i : Nat) : (n ||| 2 ^ j).testBit i = (n.testBit i || decide (i = j)) := by
  rw [Nat.testBit_or]
  by_cases h : j = i
  · subst h; simp
  · have h2 : ¬ i = j := fun e => h e.symm
    first | (simp [Nat.testBit_two_pow, h, h2]; done) | (simp [Nat.testBit_two_pow_of_ne h, h2]; done)
theorem fb_bit_flip (n j i : Nat) : (n ^^^ 2 ^ j).testBit i = (n.testBit i ^^ decide (i = j)) := by
  rw [Nat.testBit_xor]
  by_cases h : j = i
  · subst h; simp
  · have h2 : ¬ i = j := fun e => h e.symm
    first | (simp [Nat.testBit_two_pow, h, h2]; done) | (simp [Nat.testBit_two_pow_of_ne h, h2]; done)
/-! ===== a stretch of an array written over by a function ===== -/
def fb_put {α : Type} (f g : Nat → α) (a n : Nat) : Nat → α := fun k => if a ≤ k ∧ k < a + n then g (k - a) else f k
theorem fb_put_0 {α : Type} (f g : Nat → α) (a : Nat) : fb_put f g a 0 = f := funext fun k => if_neg (by omega)
theorem fb_put_in {α : Type} {f g : Nat → α} {a n k : Nat} (h1 : a ≤ k) (h2 : k < a + n) : fb_put f g a n k = g (k - a) := if_pos ⟨h1, h2⟩
theorem fb_put_out {α : Type} {f g : Nat → α} {a n k : Nat} (h : k < a ∨ a + n ≤ k) : fb_put f g a n k = f k := if_neg (by omega)
theorem fb_put_succ (f g : Nat → Int32) (a n : Nat) : upd (fb_put f g a n) (a + n) (g n) = fb_put f g a (n + 1) := by
  funext k
  by_cases h : k = a + n
  · subst h
    simp [upd, fb_put]
  · by_cases h1 : a ≤ k ∧ k < a + n
    · have h2 : a ≤ k ∧ k < a + (n + 1) := by omega
      simp only [upd, fb_put, if_neg h, if_pos h1, if_pos h2]
    · have h2 : ¬ (a ≤ k ∧ k < a + (n + 1)) := by omega
      simp only [upd, fb_put, if_neg h, if_neg h1, if_neg h2]
/-- .. from the far end down -/
theorem fb_put_down (f g : Nat → Int32) {a n m : Nat} (h : m < n) : upd (fb_put f (fun k => g (k + (m + 1))) (a + (m + 1)) (n - (m + 1))) (a + m) (g m) = fb_put f (fun k => g (k + m)) (a + m) (n - m) := by
  funext k
  by_cases h0 : k = a + m
  · subst h0
    simp only [upd, if_true]
    rw [fb_put_in (by omega) (by omega)]
    exact congrArg g (by omega)
  · simp only [upd, if_neg h0]
    by_cases h1 : a + (m + 1) ≤ k ∧ k < a + (m + 1) + (n - (m + 1))
    · rw [fb_put_in h1.1 h1.2, fb_put_in (by omega) (by omega)]
      exact congrArg g (by omega)
    · rw [fb_put_out (by omega), fb_put_out (by omega)]
theorem fb_put_cong {α : Type} {f f2 g g2 : Nat → α} {a n : Nat} (hf : ∀ k, (k < a ∨ a + n ≤ k) → f k = f2 k) (hg : ∀ k, k < n → g k = g2 k) : fb_put f g a n = fb_put f2 g2 a n := by
  funext k
  by_cases h : a ≤ k ∧ k < a + n
  · rw [fb_put_in h.1 h.2, fb_put_in h.1 h.2, hg _ (by omega)]
  · rw [fb_put_out (by omega), fb_put_out (by omega), hf _ (by omega)]
/-! ===== the least, the first, the best so far; that there is one alone ===== -/
theorem fb_first {p : Nat → Prop} [DecidablePred p] : ∀ {n : Nat}, (∃ i, i < n ∧ p i) → ∃ i, i < n ∧ p i ∧ ∀ j, j < i → ¬ p j
  | 0, h => by obtain ⟨i, hi, -⟩ := h; exact absurd hi (Nat.not_lt_zero i)
  | n + 1, h => by
    by_cases q : ∃ i, i < n ∧ p i
    · obtain ⟨i, h1, h2⟩ := fb_first q
      exact ⟨i, by omega, h2⟩
    · obtain ⟨i, h1, h2⟩ := h
      have e : i = n := by
        rcases Nat.lt_or_ge i n with r | r
        · exact absurd ⟨i, r, h2⟩ q
        · omega
      subst e
      exact ⟨i, by omega, h2, fun j hj hp => q ⟨j, hj, hp⟩⟩
theorem fb_first_one {p : Nat → Prop} {i j : Nat} (hi : p i) (hi2 : ∀ k, k < i → ¬ p k) (hj : p j) (hj2 : ∀ k, k < j → ¬ p k) : i = j := by
  rcases Nat.lt_trichotomy i j with q | q | q
  · exact absurd hi (hj2 i q)
  · exact q
  · exact absurd hj (hi2 j q)
theorem fb_last {p : Nat → Prop} [DecidablePred p] : ∀ {n : Nat}, (∃ i, i < n ∧ p i) → ∃ i, i < n ∧ p i ∧ ∀ j, i < j → j < n → ¬ p j
  | 0, h => by obtain ⟨i, hi, -⟩ := h; exact absurd hi (Nat.not_lt_zero i)
  | n + 1, h => by
    by_cases q : p n
    · exact ⟨n, by omega, q, fun j h1 h2 => by omega⟩
    · obtain ⟨i, h1, h2⟩ := h
      have hi : i < n := by
        rcases Nat.lt_or_ge i n with r | r
        · exact r
        · have e : i = n := by omega
          subst e
          exact absurd h2 q
      obtain ⟨i2, a1, a2, a3⟩ := fb_last (n := n) ⟨i, hi, h2⟩
      refine ⟨i2, by omega, a2, fun j b1 b2 => ?_⟩
      rcases Nat.lt_or_ge j n with r | r
      · exact a3 j b1 r
      · have e : j = n := by omega
        subst e
        exact q
/-- the first greatest -/
theorem fb_best (f : Nat → Int) : ∀ {n : Nat}, 0 < n → ∃ i, i < n ∧ (∀ j, j < n → f j ≤ f i) ∧ ∀ j, j < i → f j < f i
  | 0, h => absurd h (Nat.lt_irrefl 0)
  | 1, _ => ⟨0, by omega, fun j hj => by have e : j = 0 := by omega
                                         subst e; exact Int.le_refl _, fun j hj => absurd hj (Nat.not_lt_zero j)⟩
  | n + 2, _ => by
    obtain ⟨i, h1, h2, h3⟩ := fb_best f (n := n + 1) (by omega)
    by_cases q : f i < f (n + 1)
    · refine ⟨n + 1, by omega, fun j hj => ?_, fun j hj => ?_⟩
      · rcases Nat.lt_or_ge j (n + 1) with r | r
        · have := h2 j r; omega
        · have e : j = n + 1 := by omega
          subst e; exact Int.le_refl _
      · have := h2 j hj; omega
    · refine ⟨i, by omega, fun j hj => ?_, h3⟩
      rcases Nat.lt_or_ge j (n + 1) with r | r
      · exact h2 j r
      · have e : j = n + 1 := by omega
        subst e; omega
theorem fb_best_one {f : Nat → Int} {n i j : Nat} (hi : i < n) (hi2 : ∀ k, k < n → f k ≤ f i) (hi3 : ∀ k, k < i → f k < f i) (hj : j < n) (hj2 : ∀ k, k < n → f k ≤ f j) (hj3 : ∀ k, k < j → f k < f j) : i = j := by
  rcases Nat.lt_trichotomy i j with q | q | q
  · have a := hj3 i q
    have b := hi2 j hj
    omega
  · exact q
  · have a := hi3 j q
    have b := hj2 i hi
    omega
/-- the first least -/
theorem fb_low (f : Nat → Int) {n : Nat} (h : 0 < n) : ∃ i, i < n ∧ (∀ j, j < n → f i ≤ f j) ∧ ∀ j, j < i → f i < f j := by
  obtain ⟨i, h1, h2, h3⟩ := fb_best (fun k => -f k) h
  exact ⟨i, h1, fun j hj => by have := h2 j hj; omega, fun j hj => by have := h3 j hj; omega⟩
/-! ===== signed ints as whole numbers, within bounds ===== -/
theorem fb_rng (x : Int32) : -2147483648 ≤ x.toInt ∧ x.toInt < 2147483648 := by
  have h1 := Int32.le_toInt x
  have h2 := Int32.toInt_lt x
  omega
theorem fb_bmod {z : Int} (h1 : -2147483648 ≤ z) (h2 : z < 2147483648) : z.bmod (2 ^ 32) = z := by
  rw [Int.bmod_eq_of_le (by omega) (by omega)]
theorem fb_addI {x y : Int32} (h1 : -2147483648 ≤ x.toInt + y.toInt) (h2 : x.toInt + y.toInt < 2147483648) : (x + y).toInt = x.toInt + y.toInt := by
  rw [Int32.toInt_add, fb_bmod h1 h2]
theorem fb_subI {x y : Int32} (h1 : -2147483648 ≤ x.toInt - y.toInt) (h2 : x.toInt - y.toInt < 2147483648) : (x - y).toInt = x.toInt - y.toInt := by
  rw [Int32.toInt_sub, fb_bmod h1 h2]
theorem fb_mulI {x y : Int32} (h1 : -2147483648 ≤ x.toInt * y.toInt) (h2 : x.toInt * y.toInt < 2147483648) : (x * y).toInt = x.toInt * y.toInt := by
  rw [Int32.toInt_mul, fb_bmod h1 h2]
theorem fb_negI {x : Int32} (h : x.toInt ≠ -2147483648) : (-x).toInt = -x.toInt := by
  have := fb_rng x
  rw [Int32.toInt_neg, fb_bmod (by omega) (by omega)]
theorem fb_ofI {z : Int} (h1 : -2147483648 ≤ z) (h2 : z < 2147483648) : (Int32.ofInt z).toInt = z := by
  rw [Int32.toInt_ofInt, fb_bmod h1 h2]
theorem fb_asI (x : Int32) : Int32.ofInt x.toInt = x := Int32.ofInt_toInt x
theorem fb_rngL (x : Int64) : -9223372036854775808 ≤ x.toInt ∧ x.toInt < 9223372036854775808 := by
  have h1 := Int64.le_toInt x
  have h2 := Int64.toInt_lt x
  omega
theorem fb_bmodL {z : Int} (h1 : -9223372036854775808 ≤ z) (h2 : z < 9223372036854775808) : z.bmod (2 ^ 64) = z := by
  rw [Int.bmod_eq_of_le (by omega) (by omega)]
theorem fb_addL {x y : Int64} (h1 : -9223372036854775808 ≤ x.toInt + y.toInt) (h2 : x.toInt + y.toInt < 9223372036854775808) : (x + y).toInt = x.toInt + y.toInt := by
  rw [Int64.toInt_add, fb_bmodL h1 h2]
theorem fb_subL {x y : Int64} (h1 : -9223372036854775808 ≤ x.toInt - y.toInt) (h2 : x.toInt - y.toInt < 9223372036854775808) : (x - y).toInt = x.toInt - y.toInt := by
  rw [Int64.toInt_sub, fb_bmodL h1 h2]
theorem fb_mulL {x y : Int64} (h1 : -9223372036854775808 ≤ x.toInt * y.toInt) (h2 : x.toInt * y.toInt < 9223372036854775808) : (x * y).toInt = x.toInt * y.toInt := by
  rw [Int64.toInt_mul, fb_bmodL h1 h2]
/-! ===== cuts of what is narrow already ===== -/
theorem fb_byte {x : Int32} (h1 : -128 ≤ x.toInt) (h2 : x.toInt < 128) : x.toInt8.toInt32 = x := by
  apply Int32.toInt_inj.1
  rw [Int8.toInt_toInt32, Int32.toInt_toInt8, Int.bmod_eq_of_le (by omega) (by omega)]
theorem fb_short {x : Int32} (h1 : -32768 ≤ x.toInt) (h2 : x.toInt < 32768) : x.toInt16.toInt32 = x := by
  apply Int32.toInt_inj.1
  rw [Int16.toInt_toInt32, Int32.toInt_toInt16, Int.bmod_eq_of_le (by omega) (by omega)]
theorem fb_byte_rng (x : Int32) : -128 ≤ x.toInt8.toInt32.toInt ∧ x.toInt8.toInt32.toInt < 128 := by
  rw [Int8.toInt_toInt32]
  have h1 := Int8.le_toInt x.toInt8
  have h2 := Int8.toInt_lt x.toInt8
  omega
theorem fb_short_rng (x : Int32) : -32768 ≤ x.toInt16.toInt32.toInt ∧ x.toInt16.toInt32.toInt < 32768 := by
  rw [Int16.toInt_toInt32]
  have h1 := Int16.le_toInt x.toInt16
  have h2 := Int16.toInt_lt x.toInt16
  omega
theorem fb_byte_twice (x : Int32) : x.toInt8.toInt32.toInt8.toInt32 = x.toInt8.toInt32 := fb_byte (fb_byte_rng x).1 (fb_byte_rng x).2
theorem fb_short_twice (x : Int32) : x.toInt16.toInt32.toInt16.toInt32 = x.toInt16.toInt32 := fb_short (fb_short_rng x).1 (fb_short_rng x).2
theorem fb_char {n : Nat} (h : n < 65536) : (nI n).toUInt32.toUInt16.toUInt32.toInt32 = nI n := by
  apply Int32.toBitVec_inj.1
  apply BitVec.eq_of_toNat_eq
  have e1 : (nI n).toBitVec.toNat = n := by
    show (BitVec.ofNat 32 n).toNat = n
    rw [BitVec.toNat_ofNat, Nat.mod_eq_of_lt (by omega)]
  have e2 : ((nI n).toUInt32.toUInt16.toUInt32).toNat = n := by
    rw [UInt16.toNat_toUInt32, UInt32.toNat_toUInt16]
    show (nI n).toBitVec.toNat % 2 ^ 16 = n
    rw [e1, Nat.mod_eq_of_lt (by omega)]
  rw [e1]
  exact e2
end
section
/-! the wall's methods that only read: what they answer -/
section T17
variable {cx : Cx} {d a : Nat} {h : Hp}
theorem m_isWithin {v lo hi : Int32} : M cx jX11_isWithin d a [.int v, .int lo, .int hi] h (RQ (.int (b2i (lo ≤ v ∧ v ≤ hi))) h) := by
  refine sX11_isWithin rfl ?_
  refine And.intro (fun q1 => eX11_isWithin (eX11_isWithin <| And.intro (Or.inl rfl) (RQ_eq (b2i_f ?_).symm))) (fun q1 => And.intro (fun q2 => eX11_isWithin (eX11_isWithin <| And.intro (Or.inl rfl) (RQ_eq (b2i_f ?_).symm))) (fun q2 => eX11_isWithin (And.intro (Or.inr rfl) (RQ_eq (b2i_t ?_).symm))))
  · exact fun q => absurd q1 (Int32.not_lt.mpr q.1)
  · exact fun q => absurd q2 (Int32.not_lt.mpr q.2)
  · exact ⟨Int32.not_lt.mp q1, Int32.not_lt.mp q2⟩
theorem m_isPart {s w : Int32} : M cx jX11_isPart d a [.int s, .int w] h (RQ (.int (b2i (s &&& (w ^^^ -1) = 0))) h) := by
  refine sX11_isPart rfl ?_
  refine And.intro (fun q1 => eX11_isPart (eX11_isPart <| And.intro (Or.inl rfl) (RQ_eq (b2i_f q1).symm))) (fun q1 => eX11_isPart (And.intro (Or.inr rfl) (RQ_eq (b2i_t q1).symm)))
/-- the facts of the wall's places -/
def fFact (h : Hp) (p w : Int32) : Int32 := if 0 ≤ p ∧ p < 22 ∧ 0 ≤ w ∧ w < 7 then hI h o_wall_facts (p * 7 + w).toNatClampNeg else -1
theorem ix_fact {p w : Int32} (h1 : 0 ≤ p) (h2 : p < 22) (h3 : 0 ≤ w) (h4 : w < 7) : vp_in (p * 7 + w) 154 := by
  rw [vp_in_iff]
  rw [Int32.le_iff_toInt_le] at h1 h3
  rw [Int32.lt_iff_toInt_lt] at h2 h4
  have e0 : (0 : Int32).toInt = 0 := rfl
  have e1 : (22 : Int32).toInt = 22 := rfl
  have e2 : (7 : Int32).toInt = 7 := rfl
  rw [e0] at h1 h3; rw [e1] at h2; rw [e2] at h4
  have e3 : (p * 7).toInt = p.toInt * 7 := by
    rw [Int32.toInt_mul, e2]; apply Int.bmod_eq_of_le <;> omega
  have e4 : (p * 7 + w).toInt = p.toInt * 7 + w.toInt := by
    rw [Int32.toInt_add, e3]; apply Int.bmod_eq_of_le <;> omega
  omega
theorem m_fact {p w : Int32} : M cx jX10_fact d a [.ref o_wall, .int p, .int w] h (RQ (.int (fFact h p w)) h) := by
  refine sX10_fact rfl ?_
  have no : ¬ (0 ≤ p ∧ p < 22 ∧ 0 ≤ w ∧ w < 7) → E cx jX10_fact d a 20 [some (.ref o_wall), some (.int p), some (.int w)] [] h (RQ (.int (fFact h p w)) h) := fun q => eX10_fact (RQ_eq (by unfold fFact; rw [if_neg q]))
  refine And.intro (fun q1 => no fun q => absurd q1 (Int32.not_lt.mpr q.1)) (fun q1 => And.intro (fun q2 => no fun q => absurd q.2.1 (Int32.not_lt.mpr q2)) (fun q2 => And.intro (fun q3 => no fun q => absurd q3 (Int32.not_lt.mpr q.2.2.1)) (fun q3 => And.intro (fun q4 => eX10_fact ?_) (fun q4 => ?_))))
  · have h1 := Int32.not_lt.mp q1
    have h2 := Int32.not_le.mp q2
    have h3 := Int32.not_lt.mp q3
    exact And.intro (ix_fact h1 h2 h3 q4) (RQ_eq (by unfold fFact; rw [if_pos ⟨h1, h2, h3, q4⟩]; rfl))
  · exact eX10_fact (RQ_eq (by unfold fFact; rw [if_neg (fun q => q4 q.2.2.2)]))
theorem m_isStone (hd : 1 ≤ d) {p : Int32} : M cx jX10_isStone d a [.ref o_wall, .int p] h (RQ (.int (b2i (0 ≤ p ∧ p ≤ hI h o_wall 3 - 1))) h) := by
  refine sX10_isStone rfl ?_
  refine wcS m_isWithin ?_
  exact And.intro b2i_B (RQ_eq rfl)
def sPlace (h : Hp) (p : Int32) : Prop := (0 ≤ p ∧ p ≤ hI h o_wall 3 - 1) ∨ (14 ≤ p ∧ p ≤ 14 + hI h o_wall 4 - 1)
theorem m_isPlace (hd : 2 ≤ d) {p : Int32} : M cx jX10_isPlace d a [.ref o_wall, .int p] h (RQ (.int (b2i (sPlace h p))) h) := by
  refine sX10_isPlace rfl ?_
  refine wcV (m_isStone (by omega)) ?_
  refine And.intro (fun q => eX10_isPlace (eX10_isPlace (And.intro (Or.inr rfl) (RQ_eq (b2i_t (Or.inl ?_)).symm)))) (fun q => wcS m_isWithin (And.intro (fun q2 => eX10_isPlace (eX10_isPlace <| And.intro (Or.inl rfl) (RQ_eq (b2i_f ?_).symm))) (fun q2 => eX10_isPlace (eX10_isPlace <| And.intro (Or.inr rfl) (RQ_eq (b2i_t (Or.inr ?_)).symm)))))
  · exact b2i_n q
  · rintro (n | n)
    · exact b2i_0.mp q n
    · exact b2i_0.mp q2 n
  · exact b2i_n q2
def fTerm (h : Hp) (w : Int32) : Int32 := if 0 ≤ w ∧ w ≤ 2 then hI h o_wall_terms w.toNatClampNeg else -1
theorem ix_3 {w : Int32} (q : 0 ≤ w ∧ w ≤ 2) : vp_in w 3 := by
  rw [vp_in_iff]
  have h1 := Int32.le_iff_toInt_le.mp q.1
  have h2 := Int32.le_iff_toInt_le.mp q.2
  have e0 : (0 : Int32).toInt = 0 := rfl
  have e1 : (2 : Int32).toInt = 2 := rfl
  omega
theorem m_term (hd : 1 ≤ d) {w : Int32} : M cx jX10_term d a [.ref o_wall, .int w] h (RQ (.int (fTerm h w)) h) := by
  refine sX10_term rfl ?_
  refine wcS m_isWithin ?_
  refine And.intro (fun q => eX10_term (eX10_term <| RQ_eq (by unfold fTerm; rw [if_neg (b2i_0.mp q)]))) (fun q => ?_)
  have q : 0 ≤ w ∧ w ≤ 2 := b2i_n q
  exact And.intro (ix_3 q) (eX10_term (RQ_eq (by unfold fTerm; rw [if_pos q]; rfl)))
def fCov (h : Hp) (p x y wd tl : Int32) : Prop := (fFact h p 0 - wd + 1 ≤ x ∧ x ≤ fFact h p 0 + fFact h p 2 - 1) ∧ (fFact h p 1 - tl + 1 ≤ y ∧ y ≤ fFact h p 1 + fFact h p 3 - 1)
theorem m_covers (hd : 1 ≤ d) {p x y wd tl : Int32} : M cx jX10_covers d a [.ref o_wall, .int p, .int x, .int y, .int wd, .int tl] h (RQ (.int (b2i (fCov h p x y wd tl))) h) := by
  refine sX10_covers rfl ?_
  refine wcV m_fact (wcV m_fact (wcV m_fact (wcS m_isWithin ?_)))
  refine And.intro (fun q => eX10_covers (eX10_covers <| And.intro (Or.inl rfl) (RQ_eq (b2i_f ?_).symm))) (fun q => ?_)
  · exact fun n => b2i_0.mp q n.1
  refine wcV m_fact (wcV m_fact (wcV m_fact (wcS m_isWithin ?_)))
  refine And.intro (fun q2 => eX10_covers (eX10_covers <| And.intro (Or.inl rfl) (RQ_eq (b2i_f ?_).symm))) (fun q2 => eX10_covers (And.intro (Or.inr rfl) (RQ_eq (b2i_t ?_).symm)))
  · exact fun n => b2i_0.mp q2 n.2
  · exact ⟨b2i_n q, b2i_n q2⟩
def fTaken (h : Hp) (x y wd tl : Int32) (k : Nat) : Prop := sPlace h (nI k) ∧ fCov h (nI k) x y wd tl
def wtR (h : Hp) (s : Int32) : Nat → Int32
  | 0 => 0
  | k + 1 => if (s >>> (nI k &&& 31)) &&& 1 = 0 then wtR h s k else wtR h s k + fFact h (nI k) 4
theorem m_weightOf (hd : 1 ≤ d) {s : Int32} : M cx jX10_weightOf d a [.ref o_wall, .int s] h (RQ (.int (wtR h s 14)) h) := by
  have loop : ∀ n k, n + k = 14 → E cx jX10_weightOf d a 4 [some (.ref o_wall), some (.int s), some (.int (wtR h s k)), some (.int (nI k))] [] h (RQ (.int (wtR h s 14)) h) := by
    intro n
    induction n with
    | zero =>
      intro k hk
      obtain rfl : k = 14 := by omega
      exact eX10_weightOf (And.intro (fun _ => eX10_weightOf (RQ_eq rfl)) (fun q => absurd (nI_le (a := 14) (b := 14) (Nat.le_refl _) (by decide)) q))
    | succ n ih =>
      intro k hk
      refine eX10_weightOf (And.intro (fun q => absurd q (nI_ge (a := k) (b := 14) (by omega) (by decide))) (fun _ => And.intro (fun q => eX10_weightOf ?_) (fun q => wcV m_fact (eX10_weightOf ?_))))
      · have e : wtR h s (k + 1) = wtR h s k := by simp [wtR, q]
        have := ih (k + 1) (by omega)
        rw [e, nI_succ] at this
        exact this
      · have e : wtR h s (k + 1) = wtR h s k + fFact h (nI k) 4 := by simp [wtR, q]
        have := ih (k + 1) (by omega)
        rw [e, nI_succ] at this
        exact this
  exact sX10_weightOf rfl (loop 14 0 rfl)
def fTakenB (h : Hp) (x y wd tl : Int32) (n : Nat) : Prop := ∃ k, k < n ∧ fTaken h x y wd tl k
theorem m_isTaken (hd : 3 ≤ d) {x y wd tl : Int32} : M cx jX10_isTaken d a [.ref o_wall, .int x, .int y, .int wd, .int tl] h (RQ (.int (b2i (fTakenB h x y wd tl 22))) h) := by
  have loop : ∀ n k, n + k = 22 → ¬ fTakenB h x y wd tl k → E cx jX10_isTaken d a 3 [some (.ref o_wall), some (.int x), some (.int y), some (.int wd), some (.int tl), some (.int (nI k))] [] h (RQ (.int (b2i (fTakenB h x y wd tl 22))) h) := by
    intro n
    induction n with
    | zero =>
      intro k hk hn
      obtain rfl : k = 22 := by omega
      exact eX10_isTaken (And.intro (fun _ => eX10_isTaken (And.intro (Or.inl rfl) (RQ_eq (b2i_f hn).symm))) (fun q => absurd (nI_le (a := 22) (b := 22) (Nat.le_refl _) (by decide)) q))
    | succ n ih =>
      intro k hk hn
      have go : ¬ fTaken h x y wd tl k → E cx jX10_isTaken d a 35 [some (.ref o_wall), some (.int x), some (.int y), some (.int wd), some (.int tl), some (.int (nI k))] [] h (RQ (.int (b2i (fTakenB h x y wd tl 22))) h) := fun hk2 => by
        have := ih (k + 1) (by omega) (by
          rintro ⟨i, hi, hf⟩
          rcases Nat.lt_succ_iff_lt_or_eq.mp hi with hi | rfl
          · exact hn ⟨i, hi, hf⟩
          · exact hk2 hf)
        rw [nI_succ] at this
        exact eX10_isTaken this
      refine eX10_isTaken (And.intro (fun q => absurd q (nI_ge (a := k) (b := 22) (by omega) (by decide))) (fun _ => wcV (m_isPlace (by omega)) (And.intro (fun q => go fun z => b2i_0.mp q z.1) (fun q => wcV (m_covers (by omega)) (And.intro (fun q2 => go fun z => b2i_0.mp q2 z.2) (fun q2 => And.intro (Or.inr rfl) (RQ_eq (b2i_t ?_).symm)))))))
      exact ⟨k, by omega, b2i_n q, b2i_n q2⟩
  exact sX10_isTaken rfl (loop 22 0 rfl (fun z => by obtain ⟨i, hi, _⟩ := z; omega))
theorem ix_nat {k w : Nat} (hk : k < 22) (hw : w < 7) : nI k * 7 + nI w = nI (7 * k + w) := by
  rw [show (7 : Int32) = nI 7 from rfl, pk_mul, nI_add, Nat.mul_comm]
theorem m_change (hd : 1 ≤ d) {k w : Nat} {p q v : Int32} (ep : p = nI k) (eq : q = nI w) (hk : k < 22) (hw : w < 7) : M cx jX10_change d a [.ref o_wall, .int p, .int q, .int v] h (RQ (.int (hI h o_wall_facts (7 * k + w))) (wI h o_wall_facts (7 * k + w) v)) := by
  subst ep; subst eq
  have e0 := ix_nat hk hw
  have e1 : (nI k * 7 + nI w).toNatClampNeg = 7 * k + w := by rw [e0, nI_clamp (by omega)]
  have e2 : vp_in (nI k * 7 + nI w) 154 := by rw [e0]; exact vp_in_nI (by omega) (by decide)
  refine sX10_change rfl ?_
  refine wcS m_isWithin (And.intro (fun z => absurd ⟨nI_pos' (by omega), nI_le (b := 21) (by omega) (by decide)⟩ (b2i_0.mp z)) (fun _ => wcS m_isWithin (And.intro (fun _ => eX10_change ?_) (fun z => absurd ⟨nI_pos' (by omega), nI_le (b := 6) (by omega) (by decide)⟩ (b2i_0.mp z)))))
  refine And.intro e2 (And.intro e2 ?_)
  rw [← e1]
  exact ⟨rfl, rfl⟩
def layH (h : Hp) (k : Nat) (x y wd tl wt : Int32) : Hp := wI (wI (wI (wI (wI (wI (wI h o_wall_facts (7 * k + 0) x) o_wall_facts (7 * k + 1) y) o_wall_facts (7 * k + 2) wd) o_wall_facts (7 * k + 3) tl) o_wall_facts (7 * k + 4) wt) o_wall_facts (7 * k + 5) 0) o_wall_facts (7 * k + 6) 0
theorem m_lay (hd : 2 ≤ d) {k : Nat} {p x y wd tl wt : Int32} (ep : p = nI k) (hk : k < 22) : M cx jX10_lay d a [.ref o_wall, .int p, .int x, .int y, .int wd, .int tl, .int wt] h (RV (layH h k x y wd tl wt)) := by
  refine sX10_lay rfl ?_
  have ch : ∀ (w : Nat) (q v : Int32) (g : Hp), q = nI w → w < 7 → M cx jX10_change (d - 1) 0 [.ref o_wall, .int p, .int q, .int v] g (RQ (.int (hI g o_wall_facts (7 * k + w))) (wI g o_wall_facts (7 * k + w) v)) := fun w q v g eq hw => m_change (by omega) ep eq hk hw
  exact wcV (ch 0 _ _ _ rfl (by decide)) (wcV (ch 1 _ _ _ rfl (by decide)) (wcV (ch 2 _ _ _ rfl (by decide)) (wcV (ch 3 _ _ _ rfl (by decide)) (wcV (ch 4 _ _ _ rfl (by decide)) (wcV (ch 5 _ _ _ rfl (by decide)) (wcV (ch 6 _ _ _ rfl (by decide)) ⟨rfl, rfl⟩))))))
def addStoneH (h : Hp) (n : Nat) (x y wd tl wt : Int32) : Hp := layH (wI (wI h o_wall 3 (nI (n + 1))) o_wall 5 (hI h o_wall 5 ||| (1 <<< (nI n &&& 31)))) n x y wd tl wt
theorem m_addStone (hd : 3 ≤ d) {n : Nat} {x y wd tl wt : Int32} (en : hI h o_wall 3 = nI n) (hn : n < 22) : M cx jX10_addStone d a [.ref o_wall, .int x, .int y, .int wd, .int tl, .int wt] h (RQ (.int (nI n)) (addStoneH h n x y wd tl wt)) := by
  refine sX10_addStone rfl ?_
  have e : wI (wI h o_wall 3 (hI h o_wall 3 + 1)) o_wall 5 (hI (wI h o_wall 3 (hI h o_wall 3 + 1)) o_wall 5 ||| (1 <<< (hI h o_wall 3 &&& 31))) = wI (wI h o_wall 3 (nI (n + 1))) o_wall 5 (hI h o_wall 5 ||| (1 <<< (nI n &&& 31))) := by
    rw [rd_k (by decide), en, nI_succ]
  refine wcV0 (m_lay (by omega) en hn) (RQ_eq' en ?_)
  unfold addStoneH
  rw [← e]
def addSpareH (h : Hp) (n : Nat) (x y wd tl wt : Int32) : Hp := layH (wI h o_wall 4 (nI (n + 1))) (14 + n) x y wd tl wt
theorem m_addSpare (hd : 3 ≤ d) {n : Nat} {x y wd tl wt : Int32} (en : hI h o_wall 4 = nI n) (hn : n < 8) : M cx jX10_addSpare d a [.ref o_wall, .int x, .int y, .int wd, .int tl, .int wt] h (RQ (.int (nI n)) (addSpareH h n x y wd tl wt)) := by
  refine sX10_addSpare rfl ?_
  have e : wI h o_wall 4 (hI h o_wall 4 + 1) = wI h o_wall 4 (nI (n + 1)) := by rw [en, nI_succ]
  refine wcV0 (m_lay (k := 14 + n) (by omega) (by rw [en, show (14 : Int32) = nI 14 from rfl, nI_add]) (by omega)) (RQ_eq' en ?_)
  unfold addSpareH
  rw [← e]
theorem m_allStones : M cx jX10_allStones d a [.ref o_wall] h (RQ (.int ((1 <<< (hI h o_wall 3 &&& 31)) - 1)) h) := sX10_allStones rfl ⟨rfl, rfl⟩
theorem m_changeTerm (hd : 2 ≤ d) {k : Nat} {w v : Int32} (ew : w = nI k) (hk : k < 3) : M cx jX10_changeTerm d a [.ref o_wall, .int w, .int v] h (RQ (.int (hI h o_wall_terms k)) (wI h o_wall_terms k v)) := by
  subst ew
  have e1 : (nI k).toNatClampNeg = k := nI_clamp (by omega)
  have e2 : vp_in (nI k) 3 := vp_in_nI hk (by decide)
  have e3 : 0 ≤ nI k ∧ nI k ≤ 2 := ⟨nI_pos' (by omega), nI_le (b := 2) (by omega) (by decide)⟩
  refine sX10_changeTerm rfl ?_
  refine wcV (m_term (by omega)) (wcS m_isWithin (And.intro (fun z => absurd e3 (b2i_0.mp z)) (fun _ => And.intro e2 ?_)))
  refine eX10_changeTerm (RQ_eq' (by unfold fTerm; rw [if_pos e3, e1]) ?_)
  rw [e1]; rfl
theorem m_byteAt {i : Int32} : M cx jX8_byteAt d a [.ref o_tape, .int i] h (RQ (.int (if 0 ≤ i ∧ i < 400 then hI h o_tape_bytes i.toNatClampNeg else -1)) h) := by
  refine sX8_byteAt rfl ?_
  refine And.intro (fun q => eX8_byteAt (eX8_byteAt <| RQ_eq (by rw [if_neg (fun z => absurd q (Int32.not_lt.mpr z.1))]))) (fun q => And.intro (fun q2 => eX8_byteAt (eX8_byteAt <| RQ_eq (by rw [if_neg (fun z => absurd q2 (Int32.not_le.mpr z.2))]))) (fun q2 => ?_))
  have h1 := Int32.not_lt.mp q
  have h2 := Int32.not_le.mp q2
  refine And.intro ?_ (eX8_byteAt (RQ_eq (by rw [if_pos ⟨h1, h2⟩]; rfl)))
  show vp_in i 400
  rw [vp_in_iff]
  have g1 := Int32.le_iff_toInt_le.mp h1
  have g2 := Int32.lt_iff_toInt_lt.mp h2
  have e0 : (0 : Int32).toInt = 0 := rfl
  have e1 : (400 : Int32).toInt = 400 := rfl
  omega
end T17
end
section
/-! laws, the tape, sets, the two tellers -/
section T18
variable {cx : Cx} {d a : Nat} {h : Hp}
theorem wp_top {j d a pc : Nat} {Q : Option Value → Hp → Prop} {loc : Lc} {st : List Value} {r : List Ins} {v v' : Value} (e : v = v') (k : wp cx j d Q r pc a loc (v' :: st) h) : wp cx j d Q r pc a loc (v :: st) h := by rw [e]; exact k
theorem wp_hp {j d a pc : Nat} {Q : Option Value → Hp → Prop} {loc : Lc} {st : List Value} {r : List Ins} {g : Hp} (e : h = g) (k : wp cx j d Q r pc a loc st g) : wp cx j d Q r pc a loc st h := by rw [e]; exact k
theorem e_eq {j d a pc : Nat} {Q : Option Value → Hp → Prop} {loc loc' : Lc} {st st' : List Value} {g : Hp} (k : E cx j d a pc loc' st' g Q) (el : loc = loc') (es : st = st') (eg : h = g) : E cx j d a pc loc st h Q := by rw [el, es, eg]; exact k
/-- a law that stands: its arrays are not too long -/
def lawok (h : Hp) (o : Nat) : Prop := lawp h o ∧ hL h (o + 1) ≤ 400 ∧ hL h (o + 2) ≤ 25
theorem lawok_1 {o : Nat} (q : lawok h o) : lawa h (o + 1) := by
  obtain ⟨⟨h1, h2, h3⟩, -, -⟩ := q
  exact ⟨by omega, by omega, by omega⟩
theorem lawok_2 {o : Nat} (q : lawok h o) : lawa h (o + 1 + 1) := by
  obtain ⟨⟨h1, h2, h3⟩, -, -⟩ := q
  exact ⟨by omega, by omega, by omega⟩
theorem vp_len {i : Int32} {n : Nat} (hn : n ≤ 400) (h1 : 0 ≤ i) (h2 : i < Int32.ofNat n) : vp_in i n := by
  rw [vp_in_iff]
  have g1 := Int32.le_iff_toInt_le.mp h1
  have g2 := Int32.lt_iff_toInt_lt.mp h2
  have e0 : (0 : Int32).toInt = 0 := rfl
  have e1 : (Int32.ofNat n).toInt = n := nI_toInt (n := n) (by omega)
  omega
def fStep (h : Hp) (o : Nat) (i : Int32) : Int32 := if 0 ≤ i ∧ i < Int32.ofNat (hL h (o + 1)) then hI h (o + 1) i.toNatClampNeg else 0
theorem m_stepAt {o : Nat} {i : Int32} (q : lawok h o) : M cx jX3_stepAt d a [.ref o, .int i] h (RQ (.int (fStep h o i)) h) := by
  refine sX3_stepAt rfl ?_
  refine And.intro (fun q1 => eX3_stepAt (eX3_stepAt <| RQ_eq (by unfold fStep; rw [if_neg (fun z => absurd q1 (Int32.not_lt.mpr z.1))]))) (fun q1 => And.intro q.1 (And.intro (lawok_1 q) (And.intro (fun q2 => eX3_stepAt (eX3_stepAt <| RQ_eq (by unfold fStep; rw [if_neg (fun z => absurd q2 (Int32.not_le.mpr z.2))]))) (fun q2 => ?_))))
  have h1 := Int32.not_lt.mp q1
  have h2 := Int32.not_le.mp q2
  exact And.intro q.1 (And.intro (lawok_1 q) (And.intro (vp_len q.2.1 h1 h2) (eX3_stepAt (RQ_eq (by unfold fStep; rw [if_pos ⟨h1, h2⟩])))))
def fStart (h : Hp) (o : Nat) (i : Int32) : Int32 := if 0 ≤ i ∧ i < Int32.ofNat (hL h (o + 2)) then hI h (o + 2) i.toNatClampNeg else Int32.ofNat (hL h (o + 1))
theorem m_startOf {o : Nat} {i : Int32} (q : lawok h o) : M cx jX3_startOf d a [.ref o, .int i] h (RQ (.int (fStart h o i)) h) := by
  refine sX3_startOf rfl ?_
  have no : ¬ (0 ≤ i ∧ i < Int32.ofNat (hL h (o + 2))) → E cx jX3_startOf d a 22 [some (.ref o), some (.int i)] [] h (RQ (.int (fStart h o i)) h) := fun z => eX3_startOf (And.intro q.1 (And.intro (lawok_1 q) (eX3_startOf (RQ_eq (by unfold fStart; rw [if_neg z])))))
  refine And.intro (fun q1 => no fun z => absurd q1 (Int32.not_lt.mpr z.1)) (fun q1 => And.intro q.1 (And.intro (lawok_2 q) (And.intro (fun q2 => no fun z => absurd q2 (Int32.not_le.mpr z.2)) (fun q2 => ?_))))
  have h1 := Int32.not_lt.mp q1
  have h2 := Int32.not_le.mp q2
  have hl : hL h (o + 2) ≤ 400 := Nat.le_trans q.2.2 (by decide)
  exact And.intro q.1 (And.intro (lawok_2 q) (And.intro (vp_len hl h1 h2) (eX3_startOf (RQ_eq (by unfold fStart; rw [if_pos ⟨h1, h2⟩])))))
theorem m_isEmptyPart (hd : 1 ≤ d) {o : Nat} {i : Int32} (q : lawok h o) : M cx jX3_isEmptyPart d a [.ref o, .int i] h (RQ (.int (b2i (fStart h o (i + 1) ≤ fStart h o i))) h) := by
  refine sX3_isEmptyPart rfl ?_
  refine wcV (m_startOf q) (wcV (m_startOf q) (And.intro (fun z => eX3_isEmptyPart (eX3_isEmptyPart <| And.intro (Or.inl rfl) (RQ_eq (b2i_f (Int32.not_le.mpr z)).symm))) (fun z => eX3_isEmptyPart (And.intro (Or.inr rfl) (RQ_eq (b2i_t (Int32.not_lt.mp z)).symm)))) q.1) q.1
theorem m_lawInForce (hd : 1 ≤ d) {k o : Nat} (ef : hI h o_wall 7 = nI k) (hk : k < 6) (eo : hR h o_wall_laws k = some o) : M cx jX10_lawInForce d a [.ref o_wall] h (RQ (.ref o) h) := by
  refine sX10_lawInForce rfl ?_
  refine wcS m_isWithin (And.intro (fun z => absurd ?_ (b2i_0.mp z)) (fun _ => And.intro ?_ (wp_top (v' := .ref o) ?_ (eX10_lawInForce ⟨rfl, rfl⟩))))
  · rw [ef]; exact ⟨nI_pos' (by omega), nI_le (b := 5) (by omega) (by decide)⟩
  · rw [ef]; exact vp_in_nI hk (by decide)
  · show vr (hR h o_wall_laws (hI h o_wall 7).toNatClampNeg) = .ref o
    rw [ef, nI_clamp (by omega), eo]; rfl
theorem m_lawInForceN (hd : 1 ≤ d) (ef : hI h o_wall 7 = -1) : M cx jX10_lawInForce d a [.ref o_wall] h (RQ .null h) := by
  refine sX10_lawInForce rfl ?_
  refine wcS m_isWithin (And.intro (fun z => eX10_lawInForce (eX10_lawInForce ⟨rfl, rfl⟩)) (fun z => absurd (b2i_n z) ?_))
  rw [ef]; decide
theorem m_addLaw (hd : 1 ≤ d) {k o : Nat} (ek : hI h o_wall 6 = nI k) (hk : k < 6) (hl : lawp h o) : M cx jX10_addLaw d a [.ref o_wall, .ref o] h (RQ (.int (nI k)) (wI (wR h o_wall_laws k (some o)) o_wall 6 (nI (k + 1)))) := by
  refine sX10_addLaw rfl ?_
  refine wcS m_isWithin (And.intro (fun _ => eX10_addLaw (And.intro ?_ (And.intro hl (RQ_eq' ek ?_)))) (fun z => absurd ?_ (b2i_0.mp z)))
  · rw [ek]; exact vp_in_nI hk (by decide)
  · rw [ek, nI_clamp (by omega), nI_succ]
    show wI (wR h o_wall_laws k (some o)) o_wall 6 (hI h o_wall 6 + 1) = _
    rw [ek]
  · rw [ek]; exact ⟨nI_pos' (by omega), nI_le (b := 5) (by omega) (by decide)⟩
/-! the tape -/
def ub (v s : Int32) : Int32 := (v.toUInt32 >>> (s.toUInt32 &&& Int32.toUInt32 31)).toInt32 &&& 255
def putB (h : Hp) (n : Nat) (v s : Int32) : Hp := wI (wI h o_tape_bytes n (ub v s)) o_tape 1 (nI (n + 1))
theorem putB_len {n : Nat} {v s : Int32} : hI (putB h n v s) o_tape 1 = nI (n + 1) := rd_same
theorem m_tadd (hd : 1 ≤ d) {n : Nat} {v : Int32} (en : hI h o_tape 1 = nI n) (hn : n + 4 ≤ 400) : M cx jX8_add d a [.ref o_tape, .int v] h (RV (putB (putB (putB (putB h n v 24) (n + 1) v 16) (n + 2) v 8) (n + 3) v 0)) := by
  have step : ∀ (Q : Option Value → Hp → Prop) (g : Hp) (k : Nat) (s s' : Int32), hI g o_tape 1 = nI k → k < 400 → ¬ s < 0 → s + (-8) = s' → E cx jX8_add d a 3 [some (.ref o_tape), some (.int v), some (.int s')] [] (putB g k v s) Q → E cx jX8_add d a 3 [some (.ref o_tape), some (.int v), some (.int s)] [] g Q := by
    intro Q g k s s' eg hk hs es K
    refine eX8_add (And.intro (fun z => absurd z hs) (fun _ => wcS m_isWithin (And.intro (fun z => absurd ?_ (b2i_0.mp z)) (fun _ => And.intro ?_ (eX8_add (e_eq K ?_ rfl ?_))))))
    · rw [eg]; exact ⟨nI_pos' (by omega), nI_le (b := 399) (by omega) (by decide)⟩
    · rw [eg]; exact vp_in_nI hk (by decide)
    · rw [← es]; rfl
    · show wI (wI g o_tape_bytes (hI g o_tape 1).toNatClampNeg (ub v s)) o_tape 1 (hI (wI g o_tape_bytes (hI g o_tape 1).toNatClampNeg (ub v s)) o_tape 1 + 1) = _
      rw [rd_o (by decide), eg, nI_clamp (by omega), ← nI_succ]; rfl
  refine sX8_add rfl ?_
  refine step _ h n 24 16 en (by omega) (by decide) (by decide) (step _ _ (n + 1) 16 8 putB_len (by omega) (by decide) (by decide) (step _ _ (n + 2) 8 0 putB_len (by omega) (by decide) (by decide) (step _ _ (n + 3) 0 (-8) putB_len (by omega) (by decide) (by decide) ?_)))
  exact eX8_add (And.intro (fun _ => eX8_add ⟨rfl, rfl⟩) (fun z => absurd (by decide) z))
/-! counting bits as the JDK does -/
def ush (x k : Int32) : Int32 := (x.toUInt32 >>> (k.toUInt32 &&& Int32.toUInt32 31)).toInt32
def bc1 (v : Int32) : Int32 := v - (ush v 1 &&& 1431655765)
def bc2 (v : Int32) : Int32 := (v &&& 858993459) + (ush v 2 &&& 858993459)
def bc3 (v : Int32) : Int32 := (v + ush v 4) &&& 252645135
def bc4 (v : Int32) : Int32 := v + ush v 8
def bc5 (v : Int32) : Int32 := v + ush v 16
def bcw (v : Int32) : Int32 := bc5 (bc4 (bc3 (bc2 (bc1 v)))) &&& 63
theorem m_bitCount {v : Int32} : M cx jbitCount d a [.int v] h (RQ (.int (bcw v)) h) := sbitCount rfl ⟨rfl, rfl⟩
/-! a set of sets as bits of longs -/
def clrJ (h : Hp) (o n : Nat) : Hp := (h.1, (fun p k => if p = o ∧ k < n then 0 else h.2.1 p k), h.2.2)
theorem clrJ_0 {o : Nat} : clrJ h o 0 = h := by
  unfold clrJ
  have : (fun p k => if p = o ∧ k < 0 then (0 : Int64) else h.2.1 p k) = h.2.1 := by funext p k; simp
  rw [this]
theorem clrJ_step {o k : Nat} : wJ (clrJ h o k) o k 0 = clrJ h o (k + 1) := by
  unfold wJ clrJ
  have : up2 (fun p q => if p = o ∧ q < k then (0 : Int64) else h.2.1 p q) o k 0 = (fun p q => if p = o ∧ q < k + 1 then (0 : Int64) else h.2.1 p q) := by
    funext p q
    unfold up2
    by_cases h1 : p = o
    · by_cases h2 : q = k
      · subst h2; simp [h1]
      · by_cases h3 : q < k
        · simp [h1, h2, h3, Nat.lt_succ_of_lt h3]
        · have h4 : ¬ q < k + 1 := by omega
          simp [h1, h2, h3, h4]
    · simp [h1]
  simp only [this]
def inS (h : Hp) (o k : Nat) : Prop := ¬ ((hJ h o (k / 64) >>> ((nI (k % 64)).toInt64 &&& 63)) &&& 1) = 0
def inSI (h : Hp) (o : Nat) (s : Int32) : Prop := 0 ≤ s ∧ s ≤ 16383 ∧ inS h o s.toNatClampNeg
def addS (h : Hp) (o k : Nat) : Hp := wJ h o (k / 64) (hJ h o (k / 64) ||| ((1 : Int64) <<< ((nI (k % 64)).toInt64 &&& 63)))
theorem shr6 {k : Nat} (hk : k < 2 ^ 31) : nI k >>> ((6 : Int32) &&& 31) = nI (k / 64) := pk_shrN hk _ 6 (by decide)
theorem and63 {k : Nat} : nI k &&& 63 = nI (k % 64) := by
  by_cases hk : k < 2 ^ 32
  · exact pk_andN hk 6 (by decide)
  · have e : nI k = nI (k % 2 ^ 32) := by
      unfold nI; apply Int32.toBitVec_inj.mp; show BitVec.ofNat 32 k = BitVec.ofNat 32 (k % 2 ^ 32); apply BitVec.eq_of_toNat_eq; simp
    rw [e, pk_andN (Nat.mod_lt _ (by decide)) 6 (by decide)]
    congr 1; omega
theorem lg_cmp_0 {x : Int64} : ¬ lg_cmp x (kl 0 0) = 0 ↔ ¬ x = 0 := by
  have e : kl 0 0 = 0 := rfl
  rw [e]
  unfold lg_cmp
  by_cases h1 : x = 0
  · subst h1; simp
  · by_cases h2 : x > 0
    · simp [h1, h2]
    · simp [h1, h2]
/-! a set of sets: lawful -/
theorem m_clear_lawful : M cx jX7_clear d a [.ref o_lawful] h (RV (clrJ h o_lawful_words 256)) := by
  have loop : ∀ n k, n + k = 256 → E cx jX7_clear d a 2 [some (.ref o_lawful), some (.int (nI k))] [] (clrJ h o_lawful_words k) (RV (clrJ h o_lawful_words 256)) := by
    intro n
    induction n with
    | zero =>
      intro k hk
      obtain rfl : k = 256 := by omega
      exact eX7_clear (And.intro (fun _ => eX7_clear ⟨rfl, rfl⟩) (fun q => absurd (nI_le (a := 256) (b := 256) (Nat.le_refl _) (by decide)) q))
    | succ n ih =>
      intro k hk
      refine eX7_clear (And.intro (fun q => absurd q (nI_ge (a := k) (b := 256) (by omega) (by decide))) (fun _ => And.intro (vp_in_nI (N := 256) (by omega) (by decide)) (e_eq (ih (k + 1) (by omega)) ?_ rfl ?_)))
      · rw [nI_succ]; rfl
      · show wJ (clrJ h o_lawful_words k) o_lawful_words (nI k).toNatClampNeg 0 = _
        rw [nI_clamp (by omega), clrJ_step]
  have e0 : clrJ h o_lawful_words 0 = h := clrJ_0
  have := loop 256 0 rfl
  rw [e0] at this
  exact sX7_clear rfl this
theorem m_add_lawful (hd : 1 ≤ d) {k : Nat} {s : Int32} (es : s = nI k) (hk : k < 16384) : M cx jX7_add d a [.ref o_lawful, .int s] h (RV (addS h o_lawful_words k)) := by
  subst es
  refine sX7_add rfl ?_
  refine wcS m_isWithin (And.intro (fun z => absurd ⟨nI_pos' (by omega), nI_le (b := 16383) (by omega) (by decide)⟩ (b2i_0.mp z)) (fun _ => ?_))
  have e1 : nI k >>> ((6 : Int32) &&& 31) = nI (k / 64) := shr6 (by omega)
  have e2 : vp_in (nI k >>> ((6 : Int32) &&& 31)) 256 := by rw [e1]; exact vp_in_nI (by omega) (by decide)
  refine And.intro e2 (And.intro e2 (eX7_add ⟨rfl, ?_⟩))
  show wJ h o_lawful_words (nI k >>> ((6 : Int32) &&& 31)).toNatClampNeg _ = _
  rw [e1, nI_clamp (by omega)]
  show wJ h o_lawful_words (k / 64) (hJ h o_lawful_words (k / 64) ||| ((1 : Int64) <<< ((nI k &&& 63).toInt64 &&& 63))) = _
  unfold addS
  rw [and63]
theorem m_has_lawful (hd : 1 ≤ d) {s : Int32} : M cx jX7_has d a [.ref o_lawful, .int s] h (RQ (.int (b2i (inSI h o_lawful_words s))) h) := by
  refine sX7_has rfl ?_
  refine wcS m_isWithin (And.intro (fun z => eX7_has (eX7_has <| And.intro (Or.inl rfl) (RQ_eq (b2i_f (fun q => b2i_0.mp z ⟨q.1, q.2.1⟩)).symm))) (fun z => ?_))
  have z := b2i_n z
  obtain ⟨k, hk, rfl⟩ := nI_of2 (M := 16383) (n := 16383) (by decide) (Int32.not_lt.mpr z.1) z.2
  have e1 : nI k >>> ((6 : Int32) &&& 31) = nI (k / 64) := shr6 (by omega)
  have e2 : vp_in (nI k >>> ((6 : Int32) &&& 31)) 256 := by rw [e1]; exact vp_in_nI (by omega) (by decide)
  have e3 : inS h o_lawful_words k ↔ ¬ lg_cmp ((hJ h o_lawful_words (nI k >>> ((6 : Int32) &&& 31)).toNatClampNeg >>> ((nI k &&& 63).toInt64 &&& 63)) &&& kl 1 0) (kl 0 0) = 0 := by
    rw [e1, nI_clamp (by omega), and63, lg_cmp_0]; rfl
  refine And.intro e2 (And.intro (fun q => eX7_has (eX7_has <| And.intro (Or.inl rfl) (RQ_eq (b2i_f (fun y => ?_)).symm))) (fun q => eX7_has (And.intro (Or.inr rfl) (RQ_eq (b2i_t ⟨z.1, z.2, ?_⟩).symm))))
  · have y := y.2.2; rw [nI_clamp (by omega)] at y; exact e3.mp y q
  · rw [nI_clamp (by omega)]; exact e3.mpr q
def hwo_lawful (h : Hp) (s t : Int32) (n : Nat) : Prop := ∃ k, k < n ∧ ¬ (((1 : Int32) <<< (nI k &&& 31)) &&& t &&& s) = 0 ∧ inSI h o_lawful_words (s &&& ((((1 : Int32) <<< (nI k &&& 31)) &&& t &&& s) ^^^ -1))
theorem m_hasWithoutOne_lawful (hd : 2 ≤ d) {s t : Int32} : M cx jX7_hasWithoutOne d a [.ref o_lawful, .int s, .int t] h (RQ (.int (b2i (hwo_lawful h s t 14))) h) := by
  have loop : ∀ n k (w : Option Value), n + k = 14 → ¬ hwo_lawful h s t k → E cx jX7_hasWithoutOne d a 2 [some (.ref o_lawful), some (.int s), some (.int t), some (.int (nI k)), w] [] h (RQ (.int (b2i (hwo_lawful h s t 14))) h) := by
    intro n
    induction n with
    | zero =>
      intro k w hk hn
      obtain rfl : k = 14 := by omega
      exact eX7_hasWithoutOne (And.intro (fun _ => eX7_hasWithoutOne (And.intro (Or.inl rfl) (RQ_eq (b2i_f hn).symm))) (fun q => absurd (nI_le (a := 14) (b := 14) (Nat.le_refl _) (by decide)) q))
    | succ n ih =>
      intro k w hk hn
      have go : ¬ (¬ (((1 : Int32) <<< (nI k &&& 31)) &&& t &&& s) = 0 ∧ inSI h o_lawful_words (s &&& ((((1 : Int32) <<< (nI k &&& 31)) &&& t &&& s) ^^^ -1))) → E cx jX7_hasWithoutOne d a 37 [some (.ref o_lawful), some (.int s), some (.int t), some (.int (nI k)), some (.int (((1 : Int32) <<< (nI k &&& 31)) &&& t &&& s))] [] h (RQ (.int (b2i (hwo_lawful h s t 14))) h) := fun hk2 => by
        refine eX7_hasWithoutOne (e_eq (ih (k + 1) (some (.int (((1 : Int32) <<< (nI k &&& 31)) &&& t &&& s))) (by omega) ?_) ?_ rfl rfl)
        · rintro ⟨i, hi, hf⟩
          rcases Nat.lt_succ_iff_lt_or_eq.mp hi with hi | rfl
          · exact hn ⟨i, hi, hf⟩
          · exact hk2 hf
        · rw [nI_succ]; rfl
      cases w with
      | none =>
        refine eX7_hasWithoutOne (And.intro (fun q => absurd q (nI_ge (a := k) (b := 14) (by omega) (by decide))) (fun _ => And.intro (fun q => go (fun z => z.1 q)) (fun q => wcV (m_has_lawful (by omega)) (And.intro (fun q2 => go (fun z => b2i_0.mp q2 z.2)) (fun q2 => And.intro (Or.inr rfl) (RQ_eq (b2i_t ?_).symm))))))
        exact ⟨k, by omega, q, b2i_n q2⟩
      | some w =>
        refine eX7_hasWithoutOne (And.intro (fun q => absurd q (nI_ge (a := k) (b := 14) (by omega) (by decide))) (fun _ => And.intro (fun q => go (fun z => z.1 q)) (fun q => wcV (m_has_lawful (by omega)) (And.intro (fun q2 => go (fun z => b2i_0.mp q2 z.2)) (fun q2 => And.intro (Or.inr rfl) (RQ_eq (b2i_t ?_).symm))))))
        exact ⟨k, by omega, q, b2i_n q2⟩
  exact sX7_hasWithoutOne rfl (loop 14 0 none rfl (fun z => by obtain ⟨i, hi, _⟩ := z; omega))
def hw1_lawful (h : Hp) (s t : Int32) (n : Nat) : Prop := ∃ k, k < n ∧ ¬ (((1 : Int32) <<< (nI k &&& 31)) &&& t &&& (s ^^^ -1)) = 0 ∧ inSI h o_lawful_words (s ||| (((1 : Int32) <<< (nI k &&& 31)) &&& t &&& (s ^^^ -1)))
theorem m_hasWithOne_lawful (hd : 2 ≤ d) {s t : Int32} : M cx jX7_hasWithOne d a [.ref o_lawful, .int s, .int t] h (RQ (.int (b2i (hw1_lawful h s t 14))) h) := by
  have loop : ∀ n k (w : Option Value), n + k = 14 → ¬ hw1_lawful h s t k → E cx jX7_hasWithOne d a 2 [some (.ref o_lawful), some (.int s), some (.int t), some (.int (nI k)), w] [] h (RQ (.int (b2i (hw1_lawful h s t 14))) h) := by
    intro n
    induction n with
    | zero =>
      intro k w hk hn
      obtain rfl : k = 14 := by omega
      exact eX7_hasWithOne (And.intro (fun _ => eX7_hasWithOne (And.intro (Or.inl rfl) (RQ_eq (b2i_f hn).symm))) (fun q => absurd (nI_le (a := 14) (b := 14) (Nat.le_refl _) (by decide)) q))
    | succ n ih =>
      intro k w hk hn
      have go : ¬ (¬ (((1 : Int32) <<< (nI k &&& 31)) &&& t &&& (s ^^^ -1)) = 0 ∧ inSI h o_lawful_words (s ||| (((1 : Int32) <<< (nI k &&& 31)) &&& t &&& (s ^^^ -1)))) → E cx jX7_hasWithOne d a 37 [some (.ref o_lawful), some (.int s), some (.int t), some (.int (nI k)), some (.int (((1 : Int32) <<< (nI k &&& 31)) &&& t &&& (s ^^^ -1)))] [] h (RQ (.int (b2i (hw1_lawful h s t 14))) h) := fun hk2 => by
        refine eX7_hasWithOne (e_eq (ih (k + 1) (some (.int (((1 : Int32) <<< (nI k &&& 31)) &&& t &&& (s ^^^ -1)))) (by omega) ?_) ?_ rfl rfl)
        · rintro ⟨i, hi, hf⟩
          rcases Nat.lt_succ_iff_lt_or_eq.mp hi with hi | rfl
          · exact hn ⟨i, hi, hf⟩
          · exact hk2 hf
        · rw [nI_succ]; rfl
      cases w with
      | none =>
        refine eX7_hasWithOne (And.intro (fun q => absurd q (nI_ge (a := k) (b := 14) (by omega) (by decide))) (fun _ => And.intro (fun q => go (fun z => z.1 q)) (fun q => wcV (m_has_lawful (by omega)) (And.intro (fun q2 => go (fun z => b2i_0.mp q2 z.2)) (fun q2 => And.intro (Or.inr rfl) (RQ_eq (b2i_t ?_).symm))))))
        exact ⟨k, by omega, q, b2i_n q2⟩
      | some w =>
        refine eX7_hasWithOne (And.intro (fun q => absurd q (nI_ge (a := k) (b := 14) (by omega) (by decide))) (fun _ => And.intro (fun q => go (fun z => z.1 q)) (fun q => wcV (m_has_lawful (by omega)) (And.intro (fun q2 => go (fun z => b2i_0.mp q2 z.2)) (fun q2 => And.intro (Or.inr rfl) (RQ_eq (b2i_t ?_).symm))))))
        exact ⟨k, by omega, q, b2i_n q2⟩
  exact sX7_hasWithOne rfl (loop 14 0 none rfl (fun z => by obtain ⟨i, hi, _⟩ := z; omega))
/-! a set of sets: marked -/
theorem m_clear_marked : M cx jX7_clear d a [.ref o_marked] h (RV (clrJ h o_marked_words 256)) := by
  have loop : ∀ n k, n + k = 256 → E cx jX7_clear d a 2 [some (.ref o_marked), some (.int (nI k))] [] (clrJ h o_marked_words k) (RV (clrJ h o_marked_words 256)) := by
    intro n
    induction n with
    | zero =>
      intro k hk
      obtain rfl : k = 256 := by omega
      exact eX7_clear (And.intro (fun _ => eX7_clear ⟨rfl, rfl⟩) (fun q => absurd (nI_le (a := 256) (b := 256) (Nat.le_refl _) (by decide)) q))
    | succ n ih =>
      intro k hk
      refine eX7_clear (And.intro (fun q => absurd q (nI_ge (a := k) (b := 256) (by omega) (by decide))) (fun _ => And.intro (vp_in_nI (N := 256) (by omega) (by decide)) (e_eq (ih (k + 1) (by omega)) ?_ rfl ?_)))
      · rw [nI_succ]; rfl
      · show wJ (clrJ h o_marked_words k) o_marked_words (nI k).toNatClampNeg 0 = _
        rw [nI_clamp (by omega), clrJ_step]
  have e0 : clrJ h o_marked_words 0 = h := clrJ_0
  have := loop 256 0 rfl
  rw [e0] at this
  exact sX7_clear rfl this
theorem m_add_marked (hd : 1 ≤ d) {k : Nat} {s : Int32} (es : s = nI k) (hk : k < 16384) : M cx jX7_add d a [.ref o_marked, .int s] h (RV (addS h o_marked_words k)) := by
  subst es
  refine sX7_add rfl ?_
  refine wcS m_isWithin (And.intro (fun z => absurd ⟨nI_pos' (by omega), nI_le (b := 16383) (by omega) (by decide)⟩ (b2i_0.mp z)) (fun _ => ?_))
  have e1 : nI k >>> ((6 : Int32) &&& 31) = nI (k / 64) := shr6 (by omega)
  have e2 : vp_in (nI k >>> ((6 : Int32) &&& 31)) 256 := by rw [e1]; exact vp_in_nI (by omega) (by decide)
  refine And.intro e2 (And.intro e2 (eX7_add ⟨rfl, ?_⟩))
  show wJ h o_marked_words (nI k >>> ((6 : Int32) &&& 31)).toNatClampNeg _ = _
  rw [e1, nI_clamp (by omega)]
  show wJ h o_marked_words (k / 64) (hJ h o_marked_words (k / 64) ||| ((1 : Int64) <<< ((nI k &&& 63).toInt64 &&& 63))) = _
  unfold addS
  rw [and63]
theorem m_has_marked (hd : 1 ≤ d) {s : Int32} : M cx jX7_has d a [.ref o_marked, .int s] h (RQ (.int (b2i (inSI h o_marked_words s))) h) := by
  refine sX7_has rfl ?_
  refine wcS m_isWithin (And.intro (fun z => eX7_has (eX7_has <| And.intro (Or.inl rfl) (RQ_eq (b2i_f (fun q => b2i_0.mp z ⟨q.1, q.2.1⟩)).symm))) (fun z => ?_))
  have z := b2i_n z
  obtain ⟨k, hk, rfl⟩ := nI_of2 (M := 16383) (n := 16383) (by decide) (Int32.not_lt.mpr z.1) z.2
  have e1 : nI k >>> ((6 : Int32) &&& 31) = nI (k / 64) := shr6 (by omega)
  have e2 : vp_in (nI k >>> ((6 : Int32) &&& 31)) 256 := by rw [e1]; exact vp_in_nI (by omega) (by decide)
  have e3 : inS h o_marked_words k ↔ ¬ lg_cmp ((hJ h o_marked_words (nI k >>> ((6 : Int32) &&& 31)).toNatClampNeg >>> ((nI k &&& 63).toInt64 &&& 63)) &&& kl 1 0) (kl 0 0) = 0 := by
    rw [e1, nI_clamp (by omega), and63, lg_cmp_0]; rfl
  refine And.intro e2 (And.intro (fun q => eX7_has (eX7_has <| And.intro (Or.inl rfl) (RQ_eq (b2i_f (fun y => ?_)).symm))) (fun q => eX7_has (And.intro (Or.inr rfl) (RQ_eq (b2i_t ⟨z.1, z.2, ?_⟩).symm))))
  · have y := y.2.2; rw [nI_clamp (by omega)] at y; exact e3.mp y q
  · rw [nI_clamp (by omega)]; exact e3.mpr q
def hwo_marked (h : Hp) (s t : Int32) (n : Nat) : Prop := ∃ k, k < n ∧ ¬ (((1 : Int32) <<< (nI k &&& 31)) &&& t &&& s) = 0 ∧ inSI h o_marked_words (s &&& ((((1 : Int32) <<< (nI k &&& 31)) &&& t &&& s) ^^^ -1))
theorem m_hasWithoutOne_marked (hd : 2 ≤ d) {s t : Int32} : M cx jX7_hasWithoutOne d a [.ref o_marked, .int s, .int t] h (RQ (.int (b2i (hwo_marked h s t 14))) h) := by
  have loop : ∀ n k (w : Option Value), n + k = 14 → ¬ hwo_marked h s t k → E cx jX7_hasWithoutOne d a 2 [some (.ref o_marked), some (.int s), some (.int t), some (.int (nI k)), w] [] h (RQ (.int (b2i (hwo_marked h s t 14))) h) := by
    intro n
    induction n with
    | zero =>
      intro k w hk hn
      obtain rfl : k = 14 := by omega
      exact eX7_hasWithoutOne (And.intro (fun _ => eX7_hasWithoutOne (And.intro (Or.inl rfl) (RQ_eq (b2i_f hn).symm))) (fun q => absurd (nI_le (a := 14) (b := 14) (Nat.le_refl _) (by decide)) q))
    | succ n ih =>
      intro k w hk hn
      have go : ¬ (¬ (((1 : Int32) <<< (nI k &&& 31)) &&& t &&& s) = 0 ∧ inSI h o_marked_words (s &&& ((((1 : Int32) <<< (nI k &&& 31)) &&& t &&& s) ^^^ -1))) → E cx jX7_hasWithoutOne d a 37 [some (.ref o_marked), some (.int s), some (.int t), some (.int (nI k)), some (.int (((1 : Int32) <<< (nI k &&& 31)) &&& t &&& s))] [] h (RQ (.int (b2i (hwo_marked h s t 14))) h) := fun hk2 => by
        refine eX7_hasWithoutOne (e_eq (ih (k + 1) (some (.int (((1 : Int32) <<< (nI k &&& 31)) &&& t &&& s))) (by omega) ?_) ?_ rfl rfl)
        · rintro ⟨i, hi, hf⟩
          rcases Nat.lt_succ_iff_lt_or_eq.mp hi with hi | rfl
          · exact hn ⟨i, hi, hf⟩
          · exact hk2 hf
        · rw [nI_succ]; rfl
      cases w with
      | none =>
        refine eX7_hasWithoutOne (And.intro (fun q => absurd q (nI_ge (a := k) (b := 14) (by omega) (by decide))) (fun _ => And.intro (fun q => go (fun z => z.1 q)) (fun q => wcV (m_has_marked (by omega)) (And.intro (fun q2 => go (fun z => b2i_0.mp q2 z.2)) (fun q2 => And.intro (Or.inr rfl) (RQ_eq (b2i_t ?_).symm))))))
        exact ⟨k, by omega, q, b2i_n q2⟩
      | some w =>
        refine eX7_hasWithoutOne (And.intro (fun q => absurd q (nI_ge (a := k) (b := 14) (by omega) (by decide))) (fun _ => And.intro (fun q => go (fun z => z.1 q)) (fun q => wcV (m_has_marked (by omega)) (And.intro (fun q2 => go (fun z => b2i_0.mp q2 z.2)) (fun q2 => And.intro (Or.inr rfl) (RQ_eq (b2i_t ?_).symm))))))
        exact ⟨k, by omega, q, b2i_n q2⟩
  exact sX7_hasWithoutOne rfl (loop 14 0 none rfl (fun z => by obtain ⟨i, hi, _⟩ := z; omega))
def hw1_marked (h : Hp) (s t : Int32) (n : Nat) : Prop := ∃ k, k < n ∧ ¬ (((1 : Int32) <<< (nI k &&& 31)) &&& t &&& (s ^^^ -1)) = 0 ∧ inSI h o_marked_words (s ||| (((1 : Int32) <<< (nI k &&& 31)) &&& t &&& (s ^^^ -1)))
theorem m_hasWithOne_marked (hd : 2 ≤ d) {s t : Int32} : M cx jX7_hasWithOne d a [.ref o_marked, .int s, .int t] h (RQ (.int (b2i (hw1_marked h s t 14))) h) := by
  have loop : ∀ n k (w : Option Value), n + k = 14 → ¬ hw1_marked h s t k → E cx jX7_hasWithOne d a 2 [some (.ref o_marked), some (.int s), some (.int t), some (.int (nI k)), w] [] h (RQ (.int (b2i (hw1_marked h s t 14))) h) := by
    intro n
    induction n with
    | zero =>
      intro k w hk hn
      obtain rfl : k = 14 := by omega
      exact eX7_hasWithOne (And.intro (fun _ => eX7_hasWithOne (And.intro (Or.inl rfl) (RQ_eq (b2i_f hn).symm))) (fun q => absurd (nI_le (a := 14) (b := 14) (Nat.le_refl _) (by decide)) q))
    | succ n ih =>
      intro k w hk hn
      have go : ¬ (¬ (((1 : Int32) <<< (nI k &&& 31)) &&& t &&& (s ^^^ -1)) = 0 ∧ inSI h o_marked_words (s ||| (((1 : Int32) <<< (nI k &&& 31)) &&& t &&& (s ^^^ -1)))) → E cx jX7_hasWithOne d a 37 [some (.ref o_marked), some (.int s), some (.int t), some (.int (nI k)), some (.int (((1 : Int32) <<< (nI k &&& 31)) &&& t &&& (s ^^^ -1)))] [] h (RQ (.int (b2i (hw1_marked h s t 14))) h) := fun hk2 => by
        refine eX7_hasWithOne (e_eq (ih (k + 1) (some (.int (((1 : Int32) <<< (nI k &&& 31)) &&& t &&& (s ^^^ -1)))) (by omega) ?_) ?_ rfl rfl)
        · rintro ⟨i, hi, hf⟩
          rcases Nat.lt_succ_iff_lt_or_eq.mp hi with hi | rfl
          · exact hn ⟨i, hi, hf⟩
          · exact hk2 hf
        · rw [nI_succ]; rfl
      cases w with
      | none =>
        refine eX7_hasWithOne (And.intro (fun q => absurd q (nI_ge (a := k) (b := 14) (by omega) (by decide))) (fun _ => And.intro (fun q => go (fun z => z.1 q)) (fun q => wcV (m_has_marked (by omega)) (And.intro (fun q2 => go (fun z => b2i_0.mp q2 z.2)) (fun q2 => And.intro (Or.inr rfl) (RQ_eq (b2i_t ?_).symm))))))
        exact ⟨k, by omega, q, b2i_n q2⟩
      | some w =>
        refine eX7_hasWithOne (And.intro (fun q => absurd q (nI_ge (a := k) (b := 14) (by omega) (by decide))) (fun _ => And.intro (fun q => go (fun z => z.1 q)) (fun q => wcV (m_has_marked (by omega)) (And.intro (fun q2 => go (fun z => b2i_0.mp q2 z.2)) (fun q2 => And.intro (Or.inr rfl) (RQ_eq (b2i_t ?_).symm))))))
        exact ⟨k, by omega, q, b2i_n q2⟩
  exact sX7_hasWithOne rfl (loop 14 0 none rfl (fun z => by obtain ⟨i, hi, _⟩ := z; omega))
theorem fFact_cong {g : Hp} (e : ∀ k, hI g o_wall_facts k = hI h o_wall_facts k) (p w : Int32) : fFact g p w = fFact h p w := by unfold fFact; rw [e]
theorem wtR_cong {g : Hp} (e : ∀ k, hI g o_wall_facts k = hI h o_wall_facts k) {s : Int32} : ∀ {n : Nat}, wtR g s n = wtR h s n := by
  intro n
  induction n with
  | zero => rfl
  | succ n ih => unfold wtR; rw [ih, fFact_cong e]
theorem m_clear_onceFound : M cx jX4_clear d a [.ref o_onceFound] h (RV (wI (wI (wI (wI h o_onceFound 0 (-1)) o_onceFound 1 (-1)) o_onceFound 2 (-1)) o_onceFound 3 0)) := sX4_clear rfl ⟨rfl, rfl⟩
theorem m_told_onceFound {w : Int32} : M cx jX4_told d a [.ref o_onceFound, .int w] h (RQ (.int (if w = 0 then hI h o_onceFound 0 else if w = 1 then hI h o_onceFound 1 else if w = 2 then hI h o_onceFound 2 else if w = 3 then hI h o_onceFound 3 else -1)) h) := by
  refine sX4_told rfl (And.intro (fun q => eX4_told (And.intro (fun q1 => eX4_told (And.intro (fun q2 => eX4_told (And.intro (fun q3 => eX4_told (eX4_told (RQ_eq ?_))) (fun q3 => eX4_told (RQ_eq ?_)))) (fun q2 => eX4_told (RQ_eq ?_)))) (fun q1 => eX4_told (RQ_eq ?_)))) (fun q => eX4_told (RQ_eq ?_)))
  · simp [q, q1, q2, q3]
  · subst q3; simp
  · subst q2; simp
  · subst q1; simp
  · subst q; simp
noncomputable def offM_onceFound (h : Hp) (s : Int32) : Hp :=
  @ite _ (bcw s < hI h o_onceFound 0) (Classical.propDecidable _) (wI h o_onceFound 3 (hI h o_onceFound 3 + 1))
    (@ite _ (hI h o_onceFound 0 < bcw s ∨ hI h o_onceFound 1 < wtR h s 14 ∨ (wtR h s 14 = hI h o_onceFound 1 ∧ s < hI h o_onceFound 2)) (Classical.propDecidable _)
      (wI (wI (wI (wI h o_onceFound 3 (hI h o_onceFound 3 + 1)) o_onceFound 0 (bcw s)) o_onceFound 1 (wtR h s 14)) o_onceFound 2 s) (wI h o_onceFound 3 (hI h o_onceFound 3 + 1)))
theorem m_offer_onceFound (hd : 2 ≤ d) {s : Int32} : M cx jX4_offer d a [.ref o_onceFound, .int s, .ref o_wall] h (RV (offM_onceFound h s)) := by
  have e0 : ∀ k : Nat, k ≠ 3 → hI (wI h o_onceFound 3 (hI h o_onceFound 3 + 1)) o_onceFound k = hI h o_onceFound k := fun k hk => rd_k hk
  have ew : wtR (wI h o_onceFound 3 (hI h o_onceFound 3 + 1)) s 14 = wtR h s 14 := wtR_cong (fun k => rd_o (by decide))
  refine sX4_offer rfl ?_
  refine wcS m_bitCount (And.intro (fun q => eX4_offer (wcV (m_weightOf (by omega)) ?_)) (fun q => ⟨rfl, ?_⟩))
  · have q : hI h o_onceFound 0 ≤ bcw s := by have := q; rw [e0 0 (by decide)] at this; exact this
    have nq : ¬ bcw s < hI h o_onceFound 0 := Int32.not_lt.mpr q
    have yes : (hI h o_onceFound 0 < bcw s ∨ hI h o_onceFound 1 < wtR h s 14 ∨ (wtR h s 14 = hI h o_onceFound 1 ∧ s < hI h o_onceFound 2)) → wI (wI (wI (wI h o_onceFound 3 (hI h o_onceFound 3 + 1)) o_onceFound 0 (bcw s)) o_onceFound 1 (wtR (wI h o_onceFound 3 (hI h o_onceFound 3 + 1)) s 14)) o_onceFound 2 s = offM_onceFound h s := fun c => by
      rw [ew]; unfold offM_onceFound; rw [if_neg nq, if_pos c]
    have no : ¬ (hI h o_onceFound 0 < bcw s ∨ hI h o_onceFound 1 < wtR h s 14 ∨ (wtR h s 14 = hI h o_onceFound 1 ∧ s < hI h o_onceFound 2)) → wI h o_onceFound 3 (hI h o_onceFound 3 + 1) = offM_onceFound h s := fun c => by
      unfold offM_onceFound; rw [if_neg nq, if_neg c]
    refine And.intro (fun c1 => eX4_offer (eX4_offer ⟨rfl, yes ?_⟩)) (fun c1 => And.intro (fun c2 => eX4_offer (eX4_offer ⟨rfl, yes ?_⟩)) (fun c2 => And.intro (fun c3 => eX4_offer ⟨rfl, no ?_⟩) (fun c3 => And.intro (fun c4 => eX4_offer ⟨rfl, no ?_⟩) (fun c4 => eX4_offer (eX4_offer ⟨rfl, yes ?_⟩)))))
    · left; rw [e0 0 (by decide)] at c1; exact c1
    · right; left; rw [e0 1 (by decide), ew] at c2; exact c2
    · rw [e0 0 (by decide)] at c1; rw [e0 1 (by decide), ew] at c2 c3
      rintro (z | z | z)
      · exact c1 z
      · exact c2 z
      · exact c3 z.1
    · rw [e0 0 (by decide)] at c1; rw [e0 1 (by decide), ew] at c2; rw [e0 2 (by decide)] at c4
      rintro (z | z | z)
      · exact c1 z
      · exact c2 z
      · exact absurd z.2 (Int32.not_lt.mpr c4)
    · rw [e0 1 (by decide), ew] at c3; rw [e0 2 (by decide)] at c4
      right; right; exact ⟨c3, Int32.not_le.mp c4⟩
  · have q : bcw s < hI h o_onceFound 0 := by have := Int32.not_le.mp q; rw [e0 0 (by decide)] at this; exact this
    unfold offM_onceFound; rw [if_pos q]
theorem m_clear_stepsFound : M cx jX4_clear d a [.ref o_stepsFound] h (RV (wI (wI (wI (wI h o_stepsFound 0 (-1)) o_stepsFound 1 (-1)) o_stepsFound 2 (-1)) o_stepsFound 3 0)) := sX4_clear rfl ⟨rfl, rfl⟩
theorem m_told_stepsFound {w : Int32} : M cx jX4_told d a [.ref o_stepsFound, .int w] h (RQ (.int (if w = 0 then hI h o_stepsFound 0 else if w = 1 then hI h o_stepsFound 1 else if w = 2 then hI h o_stepsFound 2 else if w = 3 then hI h o_stepsFound 3 else -1)) h) := by
  refine sX4_told rfl (And.intro (fun q => eX4_told (And.intro (fun q1 => eX4_told (And.intro (fun q2 => eX4_told (And.intro (fun q3 => eX4_told (eX4_told (RQ_eq ?_))) (fun q3 => eX4_told (RQ_eq ?_)))) (fun q2 => eX4_told (RQ_eq ?_)))) (fun q1 => eX4_told (RQ_eq ?_)))) (fun q => eX4_told (RQ_eq ?_)))
  · simp [q, q1, q2, q3]
  · subst q3; simp
  · subst q2; simp
  · subst q1; simp
  · subst q; simp
noncomputable def offM_stepsFound (h : Hp) (s : Int32) : Hp :=
  @ite _ (bcw s < hI h o_stepsFound 0) (Classical.propDecidable _) (wI h o_stepsFound 3 (hI h o_stepsFound 3 + 1))
    (@ite _ (hI h o_stepsFound 0 < bcw s ∨ hI h o_stepsFound 1 < wtR h s 14 ∨ (wtR h s 14 = hI h o_stepsFound 1 ∧ s < hI h o_stepsFound 2)) (Classical.propDecidable _)
      (wI (wI (wI (wI h o_stepsFound 3 (hI h o_stepsFound 3 + 1)) o_stepsFound 0 (bcw s)) o_stepsFound 1 (wtR h s 14)) o_stepsFound 2 s) (wI h o_stepsFound 3 (hI h o_stepsFound 3 + 1)))
theorem m_offer_stepsFound (hd : 2 ≤ d) {s : Int32} : M cx jX4_offer d a [.ref o_stepsFound, .int s, .ref o_wall] h (RV (offM_stepsFound h s)) := by
  have e0 : ∀ k : Nat, k ≠ 3 → hI (wI h o_stepsFound 3 (hI h o_stepsFound 3 + 1)) o_stepsFound k = hI h o_stepsFound k := fun k hk => rd_k hk
  have ew : wtR (wI h o_stepsFound 3 (hI h o_stepsFound 3 + 1)) s 14 = wtR h s 14 := wtR_cong (fun k => rd_o (by decide))
  refine sX4_offer rfl ?_
  refine wcS m_bitCount (And.intro (fun q => eX4_offer (wcV (m_weightOf (by omega)) ?_)) (fun q => ⟨rfl, ?_⟩))
  · have q : hI h o_stepsFound 0 ≤ bcw s := by have := q; rw [e0 0 (by decide)] at this; exact this
    have nq : ¬ bcw s < hI h o_stepsFound 0 := Int32.not_lt.mpr q
    have yes : (hI h o_stepsFound 0 < bcw s ∨ hI h o_stepsFound 1 < wtR h s 14 ∨ (wtR h s 14 = hI h o_stepsFound 1 ∧ s < hI h o_stepsFound 2)) → wI (wI (wI (wI h o_stepsFound 3 (hI h o_stepsFound 3 + 1)) o_stepsFound 0 (bcw s)) o_stepsFound 1 (wtR (wI h o_stepsFound 3 (hI h o_stepsFound 3 + 1)) s 14)) o_stepsFound 2 s = offM_stepsFound h s := fun c => by
      rw [ew]; unfold offM_stepsFound; rw [if_neg nq, if_pos c]
    have no : ¬ (hI h o_stepsFound 0 < bcw s ∨ hI h o_stepsFound 1 < wtR h s 14 ∨ (wtR h s 14 = hI h o_stepsFound 1 ∧ s < hI h o_stepsFound 2)) → wI h o_stepsFound 3 (hI h o_stepsFound 3 + 1) = offM_stepsFound h s := fun c => by
      unfold offM_stepsFound; rw [if_neg nq, if_neg c]
    refine And.intro (fun c1 => eX4_offer (eX4_offer ⟨rfl, yes ?_⟩)) (fun c1 => And.intro (fun c2 => eX4_offer (eX4_offer ⟨rfl, yes ?_⟩)) (fun c2 => And.intro (fun c3 => eX4_offer ⟨rfl, no ?_⟩) (fun c3 => And.intro (fun c4 => eX4_offer ⟨rfl, no ?_⟩) (fun c4 => eX4_offer (eX4_offer ⟨rfl, yes ?_⟩)))))
    · left; rw [e0 0 (by decide)] at c1; exact c1
    · right; left; rw [e0 1 (by decide), ew] at c2; exact c2
    · rw [e0 0 (by decide)] at c1; rw [e0 1 (by decide), ew] at c2 c3
      rintro (z | z | z)
      · exact c1 z
      · exact c2 z
      · exact c3 z.1
    · rw [e0 0 (by decide)] at c1; rw [e0 1 (by decide), ew] at c2; rw [e0 2 (by decide)] at c4
      rintro (z | z | z)
      · exact c1 z
      · exact c2 z
      · exact absurd z.2 (Int32.not_lt.mpr c4)
    · rw [e0 1 (by decide), ew] at c3; rw [e0 2 (by decide)] at c4
      right; right; exact ⟨c3, Int32.not_le.mp c4⟩
  · have q : bcw s < hI h o_stepsFound 0 := by have := Int32.not_le.mp q; rw [e0 0 (by decide)] at this; exact this
    unfold offM_stepsFound; rw [if_pos q]
theorem m_clear_fellingFound : M cx jX1_clear d a [.ref o_fellingFound] h (RV (wI (wI (wI h o_fellingFound 0 (-1)) o_fellingFound 1 (-1)) o_fellingFound 2 0)) := sX1_clear rfl ⟨rfl, rfl⟩
theorem m_told_fellingFound {w : Int32} : M cx jX1_told d a [.ref o_fellingFound, .int w] h (RQ (.int (if w = 0 then hI h o_fellingFound 0 else if w = 1 then hI h o_fellingFound 1 else if w = 2 then hI h o_fellingFound 2 else -1)) h) := by
  refine sX1_told rfl (And.intro (fun q => eX1_told (And.intro (fun q1 => eX1_told (And.intro (fun q2 => eX1_told (eX1_told (RQ_eq ?_))) (fun q2 => eX1_told (RQ_eq ?_)))) (fun q1 => eX1_told (RQ_eq ?_)))) (fun q => eX1_told (RQ_eq ?_)))
  · simp [q, q1, q2]
  · subst q2; simp
  · subst q1; simp
  · subst q; simp
noncomputable def offF_fellingFound (h : Hp) (s : Int32) : Hp :=
  @ite _ (hI h o_fellingFound 0 = -1 ∨ bcw s < hI h o_fellingFound 0) (Classical.propDecidable _) (wI (wI (wI h o_fellingFound 0 (bcw s)) o_fellingFound 1 s) o_fellingFound 2 1)
    (@ite _ (bcw s = hI h o_fellingFound 0) (Classical.propDecidable _) (wI (wI h o_fellingFound 1 (if s < hI h o_fellingFound 1 then s else hI h o_fellingFound 1)) o_fellingFound 2 (hI h o_fellingFound 2 + 1)) h)
theorem m_offer_fellingFound (hd : 1 ≤ d) {s : Int32} : M cx jX1_offer d a [.ref o_fellingFound, .int s] h (RV (offF_fellingFound h s)) := by
  refine sX1_offer rfl ?_
  have yes : (hI h o_fellingFound 0 = -1 ∨ bcw s < hI h o_fellingFound 0) → wI (wI (wI h o_fellingFound 0 (bcw s)) o_fellingFound 1 s) o_fellingFound 2 1 = offF_fellingFound h s := fun c => by unfold offF_fellingFound; rw [if_pos c]
  refine wcS m_bitCount (And.intro (fun q => eX1_offer (eX1_offer ⟨rfl, yes (Or.inl q)⟩)) (fun q => And.intro (fun q2 => eX1_offer (And.intro (fun q3 => eX1_offer ⟨rfl, ?_⟩) (fun q3 => And.intro ⟨Nat.le_of_ble_eq_true rfl, by omega⟩ (eX1_offer ⟨rfl, ?_⟩)))) (fun q2 => eX1_offer (eX1_offer ⟨rfl, yes (Or.inr (Int32.not_le.mp q2))⟩))))
  · have n1 : ¬ (hI h o_fellingFound 0 = -1 ∨ bcw s < hI h o_fellingFound 0) := fun z => z.elim q (Int32.not_lt.mpr q2)
    unfold offF_fellingFound; rw [if_neg n1, if_neg q3]
  · have n1 : ¬ (hI h o_fellingFound 0 = -1 ∨ bcw s < hI h o_fellingFound 0) := fun z => z.elim q (Int32.not_lt.mpr q2)
    unfold offF_fellingFound; rw [if_neg n1, if_pos q3]
    show wI (wI h o_fellingFound 1 _) o_fellingFound 2 (hI (wI h o_fellingFound 1 _) o_fellingFound 2 + 1) = _
    rw [rd_k (by decide)]
theorem m_clear_mendingFound : M cx jX1_clear d a [.ref o_mendingFound] h (RV (wI (wI (wI h o_mendingFound 0 (-1)) o_mendingFound 1 (-1)) o_mendingFound 2 0)) := sX1_clear rfl ⟨rfl, rfl⟩
theorem m_told_mendingFound {w : Int32} : M cx jX1_told d a [.ref o_mendingFound, .int w] h (RQ (.int (if w = 0 then hI h o_mendingFound 0 else if w = 1 then hI h o_mendingFound 1 else if w = 2 then hI h o_mendingFound 2 else -1)) h) := by
  refine sX1_told rfl (And.intro (fun q => eX1_told (And.intro (fun q1 => eX1_told (And.intro (fun q2 => eX1_told (eX1_told (RQ_eq ?_))) (fun q2 => eX1_told (RQ_eq ?_)))) (fun q1 => eX1_told (RQ_eq ?_)))) (fun q => eX1_told (RQ_eq ?_)))
  · simp [q, q1, q2]
  · subst q2; simp
  · subst q1; simp
  · subst q; simp
noncomputable def offF_mendingFound (h : Hp) (s : Int32) : Hp :=
  @ite _ (hI h o_mendingFound 0 = -1 ∨ bcw s < hI h o_mendingFound 0) (Classical.propDecidable _) (wI (wI (wI h o_mendingFound 0 (bcw s)) o_mendingFound 1 s) o_mendingFound 2 1)
    (@ite _ (bcw s = hI h o_mendingFound 0) (Classical.propDecidable _) (wI (wI h o_mendingFound 1 (if s < hI h o_mendingFound 1 then s else hI h o_mendingFound 1)) o_mendingFound 2 (hI h o_mendingFound 2 + 1)) h)
theorem m_offer_mendingFound (hd : 1 ≤ d) {s : Int32} : M cx jX1_offer d a [.ref o_mendingFound, .int s] h (RV (offF_mendingFound h s)) := by
  refine sX1_offer rfl ?_
  have yes : (hI h o_mendingFound 0 = -1 ∨ bcw s < hI h o_mendingFound 0) → wI (wI (wI h o_mendingFound 0 (bcw s)) o_mendingFound 1 s) o_mendingFound 2 1 = offF_mendingFound h s := fun c => by unfold offF_mendingFound; rw [if_pos c]
  refine wcS m_bitCount (And.intro (fun q => eX1_offer (eX1_offer ⟨rfl, yes (Or.inl q)⟩)) (fun q => And.intro (fun q2 => eX1_offer (And.intro (fun q3 => eX1_offer ⟨rfl, ?_⟩) (fun q3 => And.intro ⟨Nat.le_of_ble_eq_true rfl, by omega⟩ (eX1_offer ⟨rfl, ?_⟩)))) (fun q2 => eX1_offer (eX1_offer ⟨rfl, yes (Or.inr (Int32.not_le.mp q2))⟩))))
  · have n1 : ¬ (hI h o_mendingFound 0 = -1 ∨ bcw s < hI h o_mendingFound 0) := fun z => z.elim q (Int32.not_lt.mpr q2)
    unfold offF_mendingFound; rw [if_neg n1, if_neg q3]
  · have n1 : ¬ (hI h o_mendingFound 0 = -1 ∨ bcw s < hI h o_mendingFound 0) := fun z => z.elim q (Int32.not_lt.mpr q2)
    unfold offF_mendingFound; rw [if_neg n1, if_pos q3]
    show wI (wI h o_mendingFound 1 _) o_mendingFound 2 (hI (wI h o_mendingFound 1 _) o_mendingFound 2 + 1) = _
    rw [rd_k (by decide)]
end T18
end
section
/-! the frame: what stands, what falls -/
def lclr : Lc → Nat → Lc
  | [], _ => []
  | _ :: t, 0 => none :: t
  | x :: t, n + 1 => x :: lclr t n
theorem lnth_clr : ∀ (loc : Lc) (i k : Nat) (v : Value), lnth (lclr loc i) k = some v → lnth loc k = some v
  | [], _, _, _, h => h
  | x :: t, 0, 0, v, h => by simp [lclr, lnth] at h
  | x :: t, 0, k + 1, v, h => by simpa [lclr, lnth] using h
  | x :: t, i + 1, 0, v, h => by simpa [lclr, lnth] using h
  | x :: t, i + 1, k + 1, v, h => by
    have := lnth_clr t i k v (by simpa [lclr, lnth] using h)
    simpa [lnth] using this
section T19
variable {cx : Cx} {d a : Nat} {h : Hp}
/-- what a slot holds is forgotten -/
theorem e_clr {j pc : Nat} {loc : Lc} {st : List Value} {Q : Option Value → Hp → Prop} (i : Nat) (k : E cx j d a pc (lclr loc i) st h Q) : E cx j d a pc loc st h Q := by
  intro p l e s m args below meth c h0 ad0 ad ls H locs nc ns mc ms hc h1 h2
  exact k p l e s m args below meth c h0 ad0 ad ls H locs nc ns mc ms ⟨hc.1, hc.2.1, hc.2.2.1, hc.2.2.2.1, hc.2.2.2.2.1, fun q v hv => hc.2.2.2.2.2 q v (lnth_clr _ _ _ _ hv)⟩ h1 h2
theorem shr_toInt {s : Int32} {k : Nat} (hk : k < 32) : (s >>> (nI k &&& 31)).toInt = s.toInt >>> k := pk_shr s _ k (s_l k hk)
/-- behind the highest bit there is none -/
theorem shr_zero {s : Int32} {k j : Nat} (hs : s >>> (nI k &&& 31) = 0) (hkj : k ≤ j) (hj : j < 32) : s >>> (nI j &&& 31) = 0 := by
  have e1 : s.toInt >>> k = 0 := by rw [← shr_toInt (by omega), hs]; rfl
  have e2 : s.toInt >>> j = 0 := by
    rw [show j = k + (j - k) by omega, Int.shiftRight_add, e1]; simp
  apply Int32.toInt_inj.mp
  rw [shr_toInt hj, e2]; rfl
/-- place k of the set s does not stand in it -/
def lo (h : Hp) (s : Int32) (k : Nat) : Prop := ¬ (s >>> (nI k &&& 31)) &&& 1 = 0 ∧ bcw (hI h o_fr_beside k &&& s) < hI h o_fr_lack k
noncomputable def unsR (h : Hp) (s : Int32) : Nat → Int32
  | 0 => 0
  | k + 1 => @ite _ (lo h s k) (Classical.propDecidable _) (unsR h s k ||| ((1 : Int32) <<< (nI k &&& 31))) (unsR h s k)
noncomputable def uns (h : Hp) (s : Int32) : Int32 := unsR h s 22
theorem unsR_t {s : Int32} {k : Nat} (q : lo h s k) : unsR h s (k + 1) = unsR h s k ||| ((1 : Int32) <<< (nI k &&& 31)) := if_pos q
theorem unsR_f {s : Int32} {k : Nat} (q : ¬ lo h s k) : unsR h s (k + 1) = unsR h s k := if_neg q
theorem unsR_end {s : Int32} {k : Nat} (hs : s >>> (nI k &&& 31) = 0) : ∀ n, k + n < 32 → unsR h s (k + n) = unsR h s k := by
  intro n
  induction n with
  | zero => intro _; rfl
  | succ n ih =>
    intro hn
    rw [← Nat.add_assoc, unsR_f (fun q => q.1 (by rw [shr_zero hs (by omega) (by omega)]; rfl)), ih (by omega)]
theorem m_unsteady (hd : 1 ≤ d) {s : Int32} : M cx jX2_unsteady d a [.ref o_frame, .int s] h (RQ (.int (uns h s)) h) := by
  have loop : ∀ n k, n + k = 22 → E cx jX2_unsteady d a 4 [some (.ref o_frame), some (.int s), some (.int (unsR h s k)), some (.int (nI k))] [] h (RQ (.int (uns h s)) h) := by
    intro n
    induction n with
    | zero =>
      intro k hk
      obtain rfl : k = 22 := by omega
      exact eX2_unsteady (And.intro (fun _ => eX2_unsteady (RQ_eq rfl)) (fun q => absurd (nI_le (a := 22) (b := 22) (Nat.le_refl _) (by decide)) q))
    | succ n ih =>
      intro k hk
      have go : ¬ lo h s k → E cx jX2_unsteady d a 50 [some (.ref o_frame), some (.int s), some (.int (unsR h s k)), some (.int (nI k))] [] h (RQ (.int (uns h s)) h) := fun q => by
        refine eX2_unsteady (e_eq (ih (k + 1) (by omega)) ?_ rfl rfl)
        rw [unsR_f q, nI_succ]; rfl
      have i1 : vp_in (nI k) 22 := vp_in_nI (by omega) (by decide)
      have c1 : (nI k).toNatClampNeg = k := nI_clamp (by omega)
      refine eX2_unsteady (And.intro (fun q => absurd q (nI_ge (a := k) (b := 22) (by omega) (by decide))) (fun _ => And.intro (fun q => eX2_unsteady (RQ_eq ?_)) (fun _ => And.intro (fun q => go (fun z => z.1 q)) (fun q => And.intro i1 (wcS m_bitCount (And.intro i1 (And.intro (fun q2 => go (fun z => ?_)) (fun q2 => eX2_unsteady (e_eq (ih (k + 1) (by omega)) ?_ rfl rfl)))))))))
      · have := unsR_end (h := h) q (22 - k) (by omega)
        rw [show k + (22 - k) = 22 by omega] at this
        exact this.symm
      · have q2 : hI h o_fr_lack (nI k).toNatClampNeg ≤ bcw (hI h o_fr_beside (nI k).toNatClampNeg &&& s) := q2
        rw [c1] at q2
        exact absurd z.2 (Int32.not_lt.mpr q2)
      · have q2 : ¬ hI h o_fr_lack (nI k).toNatClampNeg ≤ bcw (hI h o_fr_beside (nI k).toNatClampNeg &&& s) := q2
        rw [c1] at q2
        rw [unsR_t ⟨q, Int32.not_le.mp q2⟩, nI_succ]; rfl
  exact sX2_unsteady rfl (loop 22 0 rfl)
def lawfulS (h : Hp) (s : Int32) : Prop := ¬ s = 0 ∧ ∀ k, k < 22 → ¬ lo h s k
theorem m_isLawful (hd : 1 ≤ d) {s : Int32} : M cx jX2_isLawful d a [.ref o_frame, .int s] h (RQ (.int (b2i (lawfulS h s))) h) := by
  have fin : (∀ k, k < 22 → ¬ lo h s k) → ∀ w, E cx jX2_isLawful d a 50 [some (.ref o_frame), some (.int s), some (.int w)] [] h (RQ (.int (b2i (lawfulS h s))) h) := fun q w =>
    eX2_isLawful (And.intro (fun z => eX2_isLawful (eX2_isLawful <| And.intro (Or.inl rfl) (RQ_eq (b2i_f (fun y => y.1 z)).symm))) (fun z => eX2_isLawful (And.intro (Or.inr rfl) (RQ_eq (b2i_t ⟨z, q⟩).symm))))
  have loop : ∀ n k, n + k = 22 → (∀ i, i < k → ¬ lo h s i) → E cx jX2_isLawful d a 2 [some (.ref o_frame), some (.int s), some (.int (nI k))] [] h (RQ (.int (b2i (lawfulS h s))) h) := by
    intro n
    induction n with
    | zero =>
      intro k hk hn
      obtain rfl : k = 22 := by omega
      exact eX2_isLawful (And.intro (fun _ => fin hn _) (fun q => absurd (nI_le (a := 22) (b := 22) (Nat.le_refl _) (by decide)) q))
    | succ n ih =>
      intro k hk hn
      have go : ¬ lo h s k → E cx jX2_isLawful d a 44 [some (.ref o_frame), some (.int s), some (.int (nI k))] [] h (RQ (.int (b2i (lawfulS h s))) h) := fun q => by
        refine eX2_isLawful (e_eq (ih (k + 1) (by omega) (fun i hi => ?_)) ?_ rfl rfl)
        · rcases Nat.lt_succ_iff_lt_or_eq.mp hi with hi | rfl
          · exact hn i hi
          · exact q
        · rw [nI_succ]; rfl
      have i1 : vp_in (nI k) 22 := vp_in_nI (by omega) (by decide)
      have c1 : (nI k).toNatClampNeg = k := nI_clamp (by omega)
      refine eX2_isLawful (And.intro (fun q => absurd q (nI_ge (a := k) (b := 22) (by omega) (by decide))) (fun _ => And.intro (fun q => fin ?_ _) (fun _ => And.intro (fun q => go (fun z => z.1 q)) (fun q => And.intro i1 (wcS m_bitCount (And.intro i1 (And.intro (fun q2 => go (fun z => ?_)) (fun q2 => And.intro (Or.inl rfl) (RQ_eq (b2i_f ?_).symm)))))))))
      · intro i hi z
        by_cases hik : i < k
        · exact hn i hik z
        · exact z.1 (by rw [shr_zero q (by omega) (by omega)]; rfl)
      · have q2 : hI h o_fr_lack (nI k).toNatClampNeg ≤ bcw (hI h o_fr_beside (nI k).toNatClampNeg &&& s) := q2
        rw [c1] at q2
        exact absurd z.2 (Int32.not_lt.mpr q2)
      · have q2 : ¬ hI h o_fr_lack (nI k).toNatClampNeg ≤ bcw (hI h o_fr_beside (nI k).toNatClampNeg &&& s) := q2
        rw [c1] at q2
        exact fun y => y.2 k (by omega) ⟨q, Int32.not_le.mp q2⟩
  exact sX2_isLawful rfl (loop 22 0 rfl (fun i hi => absurd hi (Nat.not_lt_zero i)))
/-- a fall, so many rounds at most -/
noncomputable def setR (h : Hp) : Nat → Int32 → Int32
  | 0, s => s
  | n + 1, s => if uns h s = 0 then s else setR h n (s &&& (uns h s ^^^ -1))
theorem setR_0 {s : Int32} {n : Nat} (q : uns h s = 0) : setR h n s = s := by
  cases n with
  | zero => rfl
  | succ n => unfold setR; rw [if_pos q]
theorem setR_s {s : Int32} {n : Nat} (q : ¬ uns h s = 0) : setR h (n + 1) s = setR h n (s &&& (uns h s ^^^ -1)) := by
  rw [setR, if_neg q]
theorem m_settled (hd : 2 ≤ d) {s : Int32} : M cx jX2_settled d a [.ref o_frame, .int s] h (RQ (.int (setR h 22 s)) h) := by
  have loop : ∀ n k t, n + k = 22 → setR h n t = setR h 22 s → E cx jX2_settled d a 11 [some (.ref o_frame), some (.int s), some (.int t), some (.int (uns h t)), some (.int (nI k))] [] h (RQ (.int (setR h 22 s)) h) := by
    intro n
    induction n with
    | zero =>
      intro k t hk ht
      obtain rfl : k = 22 := by omega
      exact eX2_settled (And.intro (fun _ => eX2_settled (RQ_eq ht)) (fun q => absurd (nI_le (a := 22) (b := 22) (Nat.le_refl _) (by decide)) q))
    | succ n ih =>
      intro k t hk ht
      refine eX2_settled (And.intro (fun q => absurd q (nI_ge (a := k) (b := 22) (by omega) (by decide))) (fun _ => And.intro (fun q => eX2_settled (RQ_eq ?_)) (fun q => wcV (m_unsteady (by omega)) (e_eq (ih (k + 1) (t &&& (uns h t ^^^ -1)) (by omega) ?_) ?_ rfl rfl))))
      · rw [← ht, setR_0 q]
      · rw [← ht, setR_s q]
      · rw [nI_succ]; rfl
  exact sX2_settled rfl (wcV (m_unsteady (by omega)) (loop 22 0 s rfl rfl))
noncomputable def rndR (h : Hp) : Nat → Int32 → Nat
  | 0, _ => 0
  | n + 1, s => if uns h s = 0 then 0 else rndR h n (s &&& (uns h s ^^^ -1)) + 1
theorem rndR_0 {s : Int32} {n : Nat} (q : uns h s = 0) : rndR h n s = 0 := by
  cases n with
  | zero => rfl
  | succ n => unfold rndR; rw [if_pos q]
theorem rndR_s {s : Int32} {n : Nat} (q : ¬ uns h s = 0) : rndR h (n + 1) s = rndR h n (s &&& (uns h s ^^^ -1)) + 1 := by
  rw [rndR, if_neg q]
theorem m_rounds (hd : 2 ≤ d) {s : Int32} : M cx jX2_rounds d a [.ref o_frame, .int s] h (RQ (.int (nI (rndR h 22 s))) h) := by
  have loop : ∀ n k t m, n + k = 22 → m + rndR h n t = rndR h 22 s → E cx jX2_rounds d a 14 [some (.ref o_frame), some (.int s), some (.int t), some (.int (uns h t)), some (.int (nI m)), some (.int (nI k))] [] h (RQ (.int (nI (rndR h 22 s))) h) := by
    intro n
    induction n with
    | zero =>
      intro k t m hk ht
      obtain rfl : k = 22 := by omega
      exact eX2_rounds (And.intro (fun _ => eX2_rounds (RQ_eq (by rw [← ht]; rfl))) (fun q => absurd (nI_le (a := 22) (b := 22) (Nat.le_refl _) (by decide)) q))
    | succ n ih =>
      intro k t m hk ht
      refine eX2_rounds (And.intro (fun q => absurd q (nI_ge (a := k) (b := 22) (by omega) (by decide))) (fun _ => And.intro (fun q => eX2_rounds (RQ_eq ?_)) (fun q => wcV (m_unsteady (by omega)) (e_eq (ih (k + 1) (t &&& (uns h t ^^^ -1)) (m + 1) (by omega) ?_) ?_ rfl rfl))))
      · rw [← ht, rndR_0 q]; rfl
      · rw [← ht, rndR_s q]; omega
      · rw [nI_succ k, nI_succ m]; rfl
  exact sX2_rounds rfl (wcV (m_unsteady (by omega)) (loop 22 0 s 0 rfl (Nat.zero_add _)))
noncomputable def roR (h : Hp) (p : Int32) : Nat → Nat → Int32 → Int32
  | 0, _, _ => -1
  | n + 1, i, s => if (s >>> (p &&& 31)) &&& 1 = 0 then nI i else roR h p n (i + 1) (s &&& (uns h s ^^^ -1))
theorem rndR_le {n : Nat} : ∀ {s : Int32}, rndR h n s ≤ n := by
  induction n with
  | zero => intro s; exact Nat.le_refl _
  | succ n ih =>
    intro s
    by_cases q : uns h s = 0
    · rw [rndR_0 q]; omega
    · rw [rndR_s q]; have := ih (s := s &&& (uns h s ^^^ -1)); omega
theorem m_roundOf (hd : 3 ≤ d) {s p : Int32} : M cx jX2_roundOf d a [.ref o_frame, .int s, .int p] h (RQ (.int (roR h p (rndR h 22 s + 1) 0 s)) h) := by
  have hr := rndR_le (h := h) (n := 22) (s := s)
  have loop : ∀ n k t, n + k = rndR h 22 s + 1 → roR h p n k t = roR h p (rndR h 22 s + 1) 0 s → E cx jX2_roundOf d a 12 [some (.ref o_frame), some (.int s), some (.int p), some (.int t), some (.int (nI (rndR h 22 s))), some (.int (nI k))] [] h (RQ (.int (roR h p (rndR h 22 s + 1) 0 s)) h) := by
    intro n
    induction n with
    | zero =>
      intro k t hk ht
      exact eX2_roundOf (And.intro (fun _ => eX2_roundOf (RQ_eq ht)) (fun q => absurd (nI_lt (a := rndR h 22 s) (b := k) (by omega) (by omega)) q))
    | succ n ih =>
      intro k t hk ht
      refine eX2_roundOf (And.intro (fun q => absurd q (nI_nlt (a := rndR h 22 s) (b := k) (by omega) (by omega))) (fun _ => And.intro (fun q => eX2_roundOf (wcV (m_unsteady (by omega)) (e_eq (ih (k + 1) (t &&& (uns h t ^^^ -1)) (by omega) ?_) ?_ rfl rfl))) (fun q => RQ_eq ?_)))
      · rw [← ht, roR, if_neg q]
      · rw [nI_succ]; rfl
      · rw [← ht, roR, if_pos q]
  exact sX2_roundOf rfl (wcV (m_rounds (by omega)) (loop (rndR h 22 s + 1) 0 s (by omega) rfl))
end T19
end
section
/-! the frame: questions, singles, pairs, neighbours -/
section T20
variable {cx : Cx} {d a : Nat} {h : Hp}
theorem ix_22 {w : Int32} (q : 0 ≤ w ∧ w ≤ 21) : vp_in w 22 := by
  rw [vp_in_iff]
  have h1 := Int32.le_iff_toInt_le.mp q.1
  have h2 := Int32.le_iff_toInt_le.mp q.2
  have e0 : (0 : Int32).toInt = 0 := rfl
  have e1 : (21 : Int32).toInt = 21 := rfl
  omega
theorem m_needOf (hd : 1 ≤ d) {p : Int32} : M cx jX2_needOf d a [.ref o_frame, .int p] h (RQ (.int (if 0 ≤ p ∧ p ≤ 21 then hI h o_fr_needs p.toNatClampNeg else -1)) h) := by
  refine sX2_needOf rfl (wcS m_isWithin (And.intro (fun z => eX2_needOf (eX2_needOf (RQ_eq ?_))) (fun z => And.intro (ix_22 (b2i_n z)) (eX2_needOf (RQ_eq ?_)))))
  · rw [if_neg (b2i_0.mp z)]
  · rw [if_pos (b2i_n z)]; rfl
theorem m_besideOf (hd : 1 ≤ d) {p : Int32} : M cx jX2_besideOf d a [.ref o_frame, .int p] h (RQ (.int (if 0 ≤ p ∧ p ≤ 21 then hI h o_fr_beside p.toNatClampNeg else 0)) h) := by
  refine sX2_besideOf rfl (wcS m_isWithin (And.intro (fun z => eX2_besideOf (eX2_besideOf (RQ_eq ?_))) (fun z => And.intro (ix_22 (b2i_n z)) (eX2_besideOf (RQ_eq ?_)))))
  · rw [if_neg (b2i_0.mp z)]
  · rw [if_pos (b2i_n z)]; rfl
def fBnd (h : Hp) (p : Int32) : Prop := (0 ≤ p ∧ p ≤ 21) ∧ ¬ (hI h o_frame 5 >>> (p &&& 31)) &&& 1 = 0
theorem m_isBoundF (hd : 1 ≤ d) {p : Int32} : M cx jX2_isBound d a [.ref o_frame, .int p] h (RQ (.int (b2i (fBnd h p))) h) := by
  refine sX2_isBound rfl (wcS m_isWithin (And.intro (fun z => eX2_isBound (eX2_isBound <| And.intro (Or.inl rfl) (RQ_eq (b2i_f (fun y => b2i_0.mp z y.1)).symm))) (fun z => And.intro (fun q => eX2_isBound (eX2_isBound <| And.intro (Or.inl rfl) (RQ_eq (b2i_f (fun y => y.2 q)).symm))) (fun q => eX2_isBound (And.intro (Or.inr rfl) (RQ_eq (b2i_t ⟨b2i_n z, q⟩).symm))))))
theorem m_touchesOf (hd : 1 ≤ d) {p s : Int32} : M cx jX2_touchesOf d a [.ref o_frame, .int p, .int s] h (RQ (.int (if 0 ≤ p ∧ p ≤ 21 then bcw (hI h o_fr_beside p.toNatClampNeg &&& s) + hI h o_fr_held p.toNatClampNeg else -1)) h) := by
  refine sX2_touchesOf rfl (wcS m_isWithin (And.intro (fun z => eX2_touchesOf (And.intro (ix_22 (b2i_n z)) (wcS m_bitCount (And.intro (ix_22 (b2i_n z)) (RQ_eq ?_))))) (fun z => RQ_eq ?_)))
  · rw [if_pos (b2i_n z)]; rfl
  · rw [if_neg (b2i_0.mp z)]
/-- taking the one stone k of a set leaves that -/
def sgP (h : Hp) (s t : Int32) (k : Nat) : Prop := ¬ (((1 : Int32) <<< (nI k &&& 31)) &&& s) = 0 ∧ setR h 22 (s &&& ((((1 : Int32) <<< (nI k &&& 31)) &&& s) ^^^ -1)) = t
noncomputable def cnt (P : Nat → Prop) : Nat → Nat
  | 0 => 0
  | k + 1 => @ite _ (P k) (Classical.propDecidable _) (cnt P k + 1) (cnt P k)
theorem cnt_t {P : Nat → Prop} {k : Nat} (q : P k) : cnt P (k + 1) = cnt P k + 1 := if_pos q
theorem cnt_f {P : Nat → Prop} {k : Nat} (q : ¬ P k) : cnt P (k + 1) = cnt P k := if_neg q
theorem m_singlesC (hd : 3 ≤ d) {s t : Int32} : M cx jX2_singles d a [.ref o_frame, .int s, .int t, .int 0] h (RQ (.int (nI (cnt (sgP h s t) 14))) h) := by
  have loop : ∀ n k, n + k = 14 → E cx jX2_singles d a 6 [some (.ref o_frame), some (.int s), some (.int t), some (.int 0), some (.int (nI (cnt (sgP h s t) k))), some (.int (nI k)), none] [] h (RQ (.int (nI (cnt (sgP h s t) 14))) h) := by
    intro n
    induction n with
    | zero =>
      intro k hk
      obtain rfl : k = 14 := by omega
      exact eX2_singles (And.intro (fun _ => eX2_singles (And.intro (fun _ => eX2_singles (eX2_singles (RQ_eq rfl))) (fun q => absurd rfl q))) (fun q => absurd (nI_le (a := 14) (b := 14) (Nat.le_refl _) (by decide)) q))
    | succ n ih =>
      intro k hk
      have go : ¬ sgP h s t k → ∀ w, E cx jX2_singles d a 50 [some (.ref o_frame), some (.int s), some (.int t), some (.int 0), some (.int (nI (cnt (sgP h s t) k))), some (.int (nI k)), w] [] h (RQ (.int (nI (cnt (sgP h s t) 14))) h) := fun q w => by
        refine e_clr 6 (eX2_singles (e_eq (ih (k + 1) (by omega)) ?_ rfl rfl))
        rw [cnt_f q, nI_succ]; rfl
      refine eX2_singles (And.intro (fun q => absurd q (nI_ge (a := k) (b := 14) (by omega) (by decide))) (fun _ => And.intro (fun q => go (fun z => z.1 q) _) (fun q => wcV (m_settled (by omega)) (And.intro (fun q2 => go (fun z => q2 z.2) _) (fun q2 => And.intro (fun _ => e_clr 6 (eX2_singles (eX2_singles (e_eq (ih (k + 1) (by omega)) ?_ rfl rfl)))) (fun q3 => absurd rfl q3))))))
      rw [cnt_t ⟨q, q2⟩, nI_succ k, nI_succ (cnt (sgP h s t) k)]; rfl
  exact sX2_singles rfl (loop 14 0 rfl)
/-- the first of those below n, or none -/
noncomputable def fst (P : Nat → Prop) : Nat → Nat → Int32
  | 0, _ => -1
  | n + 1, k => @ite _ (P k) (Classical.propDecidable _) (nI k) (fst P n (k + 1))
theorem fst_t {P : Nat → Prop} {n k : Nat} (q : P k) : fst P (n + 1) k = nI k := if_pos q
theorem fst_f {P : Nat → Prop} {n k : Nat} (q : ¬ P k) : fst P (n + 1) k = fst P n (k + 1) := if_neg q
theorem m_singlesL (hd : 3 ≤ d) {s t : Int32} : M cx jX2_singles d a [.ref o_frame, .int s, .int t, .int 1] h (RQ (.int (fst (sgP h s t) 14 0)) h) := by
  have loop : ∀ n k, n + k = 14 → fst (sgP h s t) n k = fst (sgP h s t) 14 0 → E cx jX2_singles d a 6 [some (.ref o_frame), some (.int s), some (.int t), some (.int 1), some (.int 0), some (.int (nI k)), none] [] h (RQ (.int (fst (sgP h s t) 14 0)) h) := by
    intro n
    induction n with
    | zero =>
      intro k hk hf
      obtain rfl : k = 14 := by omega
      exact eX2_singles (And.intro (fun _ => eX2_singles (And.intro (fun q => absurd q (by decide)) (fun _ => eX2_singles (RQ_eq hf)))) (fun q => absurd (nI_le (a := 14) (b := 14) (Nat.le_refl _) (by decide)) q))
    | succ n ih =>
      intro k hk hf
      have go : ¬ sgP h s t k → ∀ w, E cx jX2_singles d a 50 [some (.ref o_frame), some (.int s), some (.int t), some (.int 1), some (.int 0), some (.int (nI k)), w] [] h (RQ (.int (fst (sgP h s t) 14 0)) h) := fun q w => by
        refine e_clr 6 (eX2_singles (e_eq (ih (k + 1) (by omega) (by rw [← hf, fst_f q])) ?_ rfl rfl))
        rw [nI_succ]; rfl
      refine eX2_singles (And.intro (fun q => absurd q (nI_ge (a := k) (b := 14) (by omega) (by decide))) (fun _ => And.intro (fun q => go (fun z => z.1 q) _) (fun q => wcV (m_settled (by omega)) (And.intro (fun q2 => go (fun z => q2 z.2) _) (fun q2 => And.intro (fun q3 => absurd q3 (by decide)) (fun _ => RQ_eq ?_))))))
      rw [← hf, fst_t ⟨q, q2⟩]
  exact sX2_singles rfl (loop 14 0 rfl rfl)
def prB (i k : Nat) : Int32 := ((1 : Int32) <<< (nI i &&& 31)) ||| ((1 : Int32) <<< (nI k &&& 31))
def prP (h : Hp) (s t : Int32) (i k : Nat) : Prop := (prB i k &&& s) = prB i k ∧ setR h 22 (s &&& (prB i k ^^^ -1)) = t
/-- how many k from i+1 on, added to what was counted -/
noncomputable def prC (h : Hp) (s t : Int32) (i : Nat) : Nat → Nat → Nat → Nat
  | 0, _, m => m
  | n + 1, k, m => @ite _ (prP h s t i k) (Classical.propDecidable _) (prC h s t i n (k + 1) (m + 1)) (prC h s t i n (k + 1) m)
noncomputable def prCC (h : Hp) (s t : Int32) : Nat → Nat → Nat → Nat
  | 0, _, m => m
  | n + 1, i, m => prCC h s t n (i + 1) (prC h s t i (13 - i) (i + 1) m)
theorem m_pairsC (hd : 3 ≤ d) {s t : Int32} : M cx jX2_pairs d a [.ref o_frame, .int s, .int t, .int 0] h (RQ (.int (nI (prCC h s t 14 0 0))) h) := by
  have inner : ∀ (Q : Option Value → Hp → Prop) (i : Nat), i < 14 → ∀ n k m, n + k = 14 → (E cx jX2_pairs d a 76 [some (.ref o_frame), some (.int s), some (.int t), some (.int 0), some (.int (nI (prC h s t i n k m))), some (.int (nI i)), none, none] [] h Q) → E cx jX2_pairs d a 19 [some (.ref o_frame), some (.int s), some (.int t), some (.int 0), some (.int (nI m)), some (.int (nI i)), some (.int (nI k)), none] [] h Q := by
    intro Q i hi n
    induction n with
    | zero =>
      intro k m hk K
      obtain rfl : k = 14 := by omega
      exact eX2_pairs (And.intro (fun _ => e_clr 6 K) (fun q => absurd (nI_le (a := 14) (b := 14) (Nat.le_refl _) (by decide)) q))
    | succ n ih =>
      intro k m hk K
      have go : ¬ prP h s t i k → ∀ w, E cx jX2_pairs d a 70 [some (.ref o_frame), some (.int s), some (.int t), some (.int 0), some (.int (nI m)), some (.int (nI i)), some (.int (nI k)), w] [] h Q := fun q w => by
        refine e_clr 7 (eX2_pairs (e_eq (ih (k + 1) m (by omega) ?_) ?_ rfl rfl))
        · rw [prC, if_neg q] at K; exact K
        · rw [nI_succ]; rfl
      refine eX2_pairs (And.intro (fun q => absurd q (nI_ge (a := k) (b := 14) (by omega) (by decide))) (fun _ => And.intro (fun q => go (fun z => q z.1) _) (fun q => wcV (m_settled (by omega)) (And.intro (fun q2 => go (fun z => q2 z.2) _) (fun q2 => And.intro (fun _ => eX2_pairs (eX2_pairs (e_clr 7 (e_eq (ih (k + 1) (m + 1) (by omega) ?_) ?_ rfl rfl)))) (fun q3 => absurd rfl q3))))))
      · rw [prC, if_pos ⟨q, q2⟩] at K; exact K
      · rw [nI_succ k, nI_succ m]; rfl
  have loop : ∀ n i m, n + i = 14 → prCC h s t n i m = prCC h s t 14 0 0 → E cx jX2_pairs d a 6 [some (.ref o_frame), some (.int s), some (.int t), some (.int 0), some (.int (nI m)), some (.int (nI i)), none, none] [] h (RQ (.int (nI (prCC h s t 14 0 0))) h) := by
    intro n
    induction n with
    | zero =>
      intro i m hi hm
      obtain rfl : i = 14 := by omega
      exact eX2_pairs (And.intro (fun _ => eX2_pairs (And.intro (fun _ => eX2_pairs (eX2_pairs (RQ_eq (by rw [← hm]; rfl)))) (fun q => absurd rfl q))) (fun q => absurd (nI_le (a := 14) (b := 14) (Nat.le_refl _) (by decide)) q))
    | succ n ih =>
      intro i m hi hm
      refine eX2_pairs (And.intro (fun q => absurd q (nI_ge (a := i) (b := 14) (by omega) (by decide))) (fun _ => e_eq (inner _ i (by omega) (13 - i) (i + 1) m (by omega) (eX2_pairs (e_eq (ih (i + 1) _ (by omega) (by rw [← hm, prCC])) ?_ rfl rfl))) ?_ rfl rfl))
      · rw [nI_succ]; rfl
      · rw [nI_succ]; rfl
  exact sX2_pairs rfl (loop 14 0 0 rfl rfl)
noncomputable def prF (h : Hp) (s t : Int32) (i : Nat) : Nat → Nat → Option Int32
  | 0, _ => none
  | n + 1, k => @ite _ (prP h s t i k) (Classical.propDecidable _) (some (prB i k)) (prF h s t i n (k + 1))
noncomputable def prFF (h : Hp) (s t : Int32) : Nat → Nat → Int32
  | 0, _ => -1
  | n + 1, i => match prF h s t i (13 - i) (i + 1) with
    | some v => v
    | none => prFF h s t n (i + 1)
theorem m_pairsL (hd : 3 ≤ d) {s t : Int32} : M cx jX2_pairs d a [.ref o_frame, .int s, .int t, .int 1] h (RQ (.int (prFF h s t 14 0)) h) := by
  have inner : ∀ (R : Int32) (i : Nat), i < 14 → ∀ n k, n + k = 14 → (∀ v, prF h s t i n k = some v → v = R) → (prF h s t i n k = none → E cx jX2_pairs d a 76 [some (.ref o_frame), some (.int s), some (.int t), some (.int 1), some (.int 0), some (.int (nI i)), none, none] [] h (RQ (.int R) h)) → E cx jX2_pairs d a 19 [some (.ref o_frame), some (.int s), some (.int t), some (.int 1), some (.int 0), some (.int (nI i)), some (.int (nI k)), none] [] h (RQ (.int R) h) := by
    intro R i hi n
    induction n with
    | zero =>
      intro k hk _ K
      obtain rfl : k = 14 := by omega
      exact eX2_pairs (And.intro (fun _ => e_clr 6 (K rfl)) (fun q => absurd (nI_le (a := 14) (b := 14) (Nat.le_refl _) (by decide)) q))
    | succ n ih =>
      intro k hk hv K
      have go : ¬ prP h s t i k → ∀ w, E cx jX2_pairs d a 70 [some (.ref o_frame), some (.int s), some (.int t), some (.int 1), some (.int 0), some (.int (nI i)), some (.int (nI k)), w] [] h (RQ (.int R) h) := fun q w => by
        refine e_clr 7 (eX2_pairs (e_eq (ih (k + 1) (by omega) ?_ ?_) ?_ rfl rfl))
        · intro v e; exact hv v (by rw [prF, if_neg q]; exact e)
        · intro e; exact K (by rw [prF, if_neg q]; exact e)
        · rw [nI_succ]; rfl
      refine eX2_pairs (And.intro (fun q => absurd q (nI_ge (a := k) (b := 14) (by omega) (by decide))) (fun _ => And.intro (fun q => go (fun z => q z.1) _) (fun q => wcV (m_settled (by omega)) (And.intro (fun q2 => go (fun z => q2 z.2) _) (fun q2 => And.intro (fun q3 => absurd q3 (by decide)) (fun _ => RQ_eq ?_))))))
      exact hv _ (by rw [prF, if_pos ⟨q, q2⟩]; rfl)
  have loop : ∀ n i, n + i = 14 → prFF h s t n i = prFF h s t 14 0 → E cx jX2_pairs d a 6 [some (.ref o_frame), some (.int s), some (.int t), some (.int 1), some (.int 0), some (.int (nI i)), none, none] [] h (RQ (.int (prFF h s t 14 0)) h) := by
    intro n
    induction n with
    | zero =>
      intro i hi hm
      obtain rfl : i = 14 := by omega
      exact eX2_pairs (And.intro (fun _ => eX2_pairs (And.intro (fun q => absurd q (by decide)) (fun _ => eX2_pairs (RQ_eq (by rw [← hm]; rfl))))) (fun q => absurd (nI_le (a := 14) (b := 14) (Nat.le_refl _) (by decide)) q))
    | succ n ih =>
      intro i hi hm
      refine eX2_pairs (And.intro (fun q => absurd q (nI_ge (a := i) (b := 14) (by omega) (by decide))) (fun _ => e_eq (inner _ i (by omega) (13 - i) (i + 1) (by omega) ?_ (fun e => eX2_pairs (e_eq (ih (i + 1) (by omega) ?_) ?_ rfl rfl))) ?_ rfl rfl))
      · intro v e; rw [← hm, prFF, e]
      · rw [← hm, prFF, e]
      · rw [nI_succ]; rfl
      · rw [nI_succ]; rfl
  exact sX2_pairs rfl (loop 14 0 rfl rfl)
def fHeld (h : Hp) (p : Int32) : Int32 :=
  let b := if fFact h p 1 = 0 then fTerm h 1 else 0
  let c := if fFact h p 0 = 0 then b + fTerm h 2 else b
  if fFact h p 0 + fFact h p 2 = 12 then c + fTerm h 2 else c
theorem m_heldOf (hd : 2 ≤ d) {p : Int32} : M cx jX2_heldOf d a [.ref o_wall, .int p] h (RQ (.int (fHeld h p)) h) := by
  have third : ∀ c, c = (if fFact h p 0 = 0 then (if fFact h p 1 = 0 then fTerm h 1 else 0) + fTerm h 2 else (if fFact h p 1 = 0 then fTerm h 1 else 0)) → E cx jX2_heldOf d a 36 [some (.ref o_wall), some (.int p), some (.int c)] [] h (RQ (.int (fHeld h p)) h) := fun c ec => by
    refine eX2_heldOf (wcV m_fact (wcV m_fact (And.intro (fun q => eX2_heldOf (RQ_eq ?_)) (fun q => wcV (m_term (by omega)) (eX2_heldOf (RQ_eq ?_))))))
    · subst ec; unfold fHeld; rw [if_neg q]
    · subst ec; unfold fHeld; rw [if_pos q]
  have second : ∀ b, b = (if fFact h p 1 = 0 then fTerm h 1 else 0) → E cx jX2_heldOf d a 18 [some (.ref o_wall), some (.int p), none] [.int b] h (RQ (.int (fHeld h p)) h) := fun b eb => by
    refine eX2_heldOf (wcV m_fact (And.intro (fun q => third b ?_) (fun q => wcV (m_term (by omega)) (third _ ?_))))
    · rw [if_neg q]; exact eb
    · rw [if_pos q, eb]
  refine sX2_heldOf rfl (wcV m_fact (And.intro (fun q => eX2_heldOf (second 0 ?_)) (fun q => wcV (m_term (by omega)) (second _ ?_))))
  · rw [if_neg q]
  · rw [if_pos q]
def nbP (h : Hp) (p : Int32) (k : Nat) : Prop := ¬ nI k = p ∧ sPlace h (nI k) ∧ (fCov h (nI k) (fFact h p 0 - 1) (fFact h p 1) (fFact h p 2 + 2) (fFact h p 3) ∨ fCov h (nI k) (fFact h p 0) (fFact h p 1 - 1) (fFact h p 2) (fFact h p 3 + 2))
noncomputable def bitsR (P : Nat → Prop) : Nat → Int32
  | 0 => 0
  | k + 1 => @ite _ (P k) (Classical.propDecidable _) (bitsR P k ||| ((1 : Int32) <<< (nI k &&& 31))) (bitsR P k)
theorem bitsR_t {P : Nat → Prop} {k : Nat} (q : P k) : bitsR P (k + 1) = bitsR P k ||| ((1 : Int32) <<< (nI k &&& 31)) := if_pos q
theorem bitsR_f {P : Nat → Prop} {k : Nat} (q : ¬ P k) : bitsR P (k + 1) = bitsR P k := if_neg q
theorem m_neighbours (hd : 3 ≤ d) {p : Int32} : M cx jX2_neighbours d a [.ref o_wall, .int p] h (RQ (.int (bitsR (nbP h p) 22)) h) := by
  have loop : ∀ n k, n + k = 22 → E cx jX2_neighbours d a 36 [some (.ref o_wall), some (.int p), some (.int (fFact h p 0)), some (.int (fFact h p 1)), some (.int (fFact h p 2)), some (.int (fFact h p 3)), some (.int (bitsR (nbP h p) k)), some (.int (nI k)), none] [] h (RQ (.int (bitsR (nbP h p) 22)) h) := by
    intro n
    induction n with
    | zero =>
      intro k hk
      obtain rfl : k = 22 := by omega
      exact eX2_neighbours (And.intro (fun _ => eX2_neighbours (RQ_eq rfl)) (fun q => absurd (nI_le (a := 22) (b := 22) (Nat.le_refl _) (by decide)) q))
    | succ n ih =>
      intro k hk
      have fin : ∀ w, (w = 0 → ¬ nbP h p k) → (¬ w = 0 → nbP h p k) → E cx jX2_neighbours d a 101 [some (.ref o_wall), some (.int p), some (.int (fFact h p 0)), some (.int (fFact h p 1)), some (.int (fFact h p 2)), some (.int (fFact h p 3)), some (.int (bitsR (nbP h p) k)), some (.int (nI k)), none] [.int w] h (RQ (.int (bitsR (nbP h p) 22)) h) := fun w z0 z1 => by
        refine eX2_neighbours (And.intro (fun q => eX2_neighbours (e_clr 8 (e_eq (ih (k + 1) (by omega)) ?_ rfl rfl))) (fun q => eX2_neighbours (e_clr 8 (e_eq (ih (k + 1) (by omega)) ?_ rfl rfl))))
        · rw [bitsR_f (z0 q), nI_succ]; rfl
        · rw [bitsR_t (z1 q), nI_succ]; rfl
      have no : ¬ nbP h p k → E cx jX2_neighbours d a 100 [some (.ref o_wall), some (.int p), some (.int (fFact h p 0)), some (.int (fFact h p 1)), some (.int (fFact h p 2)), some (.int (fFact h p 3)), some (.int (bitsR (nbP h p) k)), some (.int (nI k)), none] [] h (RQ (.int (bitsR (nbP h p) 22)) h) := fun q => eX2_neighbours (fin 0 (fun _ => q) (fun z => absurd rfl z))
      have yes : nbP h p k → E cx jX2_neighbours d a 96 [some (.ref o_wall), some (.int p), some (.int (fFact h p 0)), some (.int (fFact h p 1)), some (.int (fFact h p 2)), some (.int (fFact h p 3)), some (.int (bitsR (nbP h p) k)), some (.int (nI k)), none] [] h (RQ (.int (bitsR (nbP h p) 22)) h) := fun q => eX2_neighbours (fin 1 (fun z => absurd z (by decide)) (fun _ => q))
      refine eX2_neighbours (And.intro (fun q => absurd q (nI_ge (a := k) (b := 22) (by omega) (by decide))) (fun _ => And.intro (fun q => no (fun z => z.1 q)) (fun q1 => wcV (m_isPlace (by omega)) (And.intro (fun q => no (fun z => b2i_0.mp q z.2.1)) (fun q2 => wcV (m_covers (by omega)) (And.intro (fun q3 => yes ⟨q1, b2i_n q2, Or.inl (b2i_n q3)⟩) (fun q3 => wcV (m_covers (by omega)) (And.intro (fun q4 => no (fun z => z.2.2.elim (b2i_0.mp q3) (b2i_0.mp q4))) (fun q4 => yes ⟨q1, b2i_n q2, Or.inr (b2i_n q4)⟩)))))))))
  exact sX2_neighbours rfl (wcV m_fact (wcV m_fact (wcV m_fact (wcV m_fact (loop 22 0 rfl)))))
end T20
end
section
/-! a law is asked: the stack machine -/
section T21
variable {cx : Cx} {d a : Nat} {h : Hp}
theorem wI_wI {o k : Nat} {v w : Int32} : wI (wI h o k v) o k w = wI h o k w := by
  unfold wI
  have : up2 (up2 h.1 o k v) o k w = up2 h.1 o k w := by
    funext p q
    unfold up2
    by_cases h1 : p = o <;> by_cases h2 : q = k <;> simp [h1, h2]
  simp only [this]
def pushH (h : Hp) (v : Int64) : Hp := if 0 ≤ hI h o_asker 1 ∧ hI h o_asker 1 < 64 then wI (wJ h o_asker_stack (hI h o_asker 1).toNatClampNeg v) o_asker 1 (hI h o_asker 1 + 1) else h
theorem m_push {v : Int64} : M cx jX0_push d a [.ref o_asker, .long v] h (RV (pushH h v)) := by
  refine sX0_push rfl (And.intro (fun q => eX0_push ⟨rfl, ?_⟩) (fun q => And.intro (fun q2 => eX0_push ⟨rfl, ?_⟩) (fun q2 => And.intro ?_ (eX0_push ⟨rfl, ?_⟩))))
  · unfold pushH; rw [if_neg (fun z => absurd q (Int32.not_lt.mpr z.1))]
  · unfold pushH; rw [if_neg (fun z => absurd q2 (Int32.not_le.mpr z.2))]
  · exact vp_len (n := 64) (by decide) (Int32.not_lt.mp q) (Int32.not_le.mp q2)
  · unfold pushH; rw [if_pos ⟨Int32.not_lt.mp q, Int32.not_le.mp q2⟩]; rfl
def popE (h : Hp) : Prop := hI h o_asker 1 < 1 ∨ 64 < hI h o_asker 1
noncomputable def popV (h : Hp) : Int64 := @ite _ (popE h) (Classical.propDecidable _) 0 (hJ h o_asker_stack (hI h o_asker 1 - 1).toNatClampNeg)
noncomputable def popH (h : Hp) : Hp := @ite _ (popE h) (Classical.propDecidable _) h (wI h o_asker 1 (hI h o_asker 1 - 1))
theorem vp_pop {i : Int32} (h1 : ¬ i < 1) (h2 : i ≤ 64) : vp_in (i - 1) 64 := by
  rw [vp_in_iff]
  have g1 := Int32.le_iff_toInt_le.mp (Int32.not_lt.mp h1)
  have g2 := Int32.le_iff_toInt_le.mp h2
  have e0 : (1 : Int32).toInt = 1 := rfl
  have e1 : (64 : Int32).toInt = 64 := rfl
  have e2 : (i - 1).toInt = i.toInt - 1 := by
    rw [Int32.toInt_sub, e0]; apply Int.bmod_eq_of_le <;> omega
  omega
theorem m_pop : M cx jX0_pop d a [.ref o_asker] h (RQ (.long (popV h)) (popH h)) := by
  refine sX0_pop rfl (And.intro (fun q => eX0_pop ⟨?_, ?_⟩) (fun q => And.intro (fun q2 => eX0_pop (And.intro ?_ ⟨?_, ?_⟩)) (fun q2 => eX0_pop ⟨?_, ?_⟩)))
  · unfold popV; rw [if_pos (show popE h from Or.inl q)]; rfl
  · unfold popH; rw [if_pos (show popE h from Or.inl q)]
  · have : hI (wI h o_asker 1 (hI h o_asker 1 - 1)) o_asker 1 = hI h o_asker 1 - 1 := rd_same
    show vp_in (hI (wI h o_asker 1 (hI h o_asker 1 - 1)) o_asker 1) 64
    rw [this]; exact vp_pop q q2
  · have n : ¬ popE h := fun z => z.elim q (Int32.not_lt.mpr q2)
    have : hI (wI h o_asker 1 (hI h o_asker 1 - 1)) o_asker 1 = hI h o_asker 1 - 1 := rd_same
    show some (Value.long (hJ (wI h o_asker 1 (hI h o_asker 1 - 1)) o_asker_stack (hI (wI h o_asker 1 (hI h o_asker 1 - 1)) o_asker 1).toNatClampNeg)) = _
    unfold popV; rw [if_neg n, this]; rfl
  · have n : ¬ popE h := fun z => z.elim q (Int32.not_lt.mpr q2)
    unfold popH; rw [if_neg n]
  · unfold popV; rw [if_pos (show popE h from Or.inr (Int32.not_le.mp q2))]; rfl
  · unfold popH; rw [if_pos (show popE h from Or.inr (Int32.not_le.mp q2))]
def jnV (k : Int32) (x y : Int64) : Int64 := if k = 6 then (if x < y then 1 else 0) else if k = 7 then (if y < x then 1 else 0) else if k = 8 then (if x = y then 1 else 0) else if k = 2 then x + y else if k = 3 then x - y else if k = 4 then x * y else if y = 0 then 0 else x / y
def jnC (k : Int32) : Prop := k = 6 ∨ k = 7 ∨ k = 8
def jnF (h : Hp) (k : Int32) (x y : Int64) : Prop := (¬ hI h o_asker 2 = 0 ∨ (¬ k = 2 ∧ ¬ k = 3 ∧ ¬ k = 4 ∧ y = 0)) ∨ 1000000000 < jnV k x y ∨ jnV k x y < -1000000000
noncomputable def jnH (h : Hp) (k : Int32) (x y : Int64) : Hp := @ite _ (jnC k) (Classical.propDecidable _) h (wI h o_asker 2 (b2i (jnF h k x y)))
theorem m_joined {k : Int32} {x y : Int64} : M cx jX0_joined d a [.ref o_asker, .int k, .long x, .long y] h (RQ (.long (jnV k x y)) (jnH h k x y)) := by
  have L1 : kl 1 0 = 1 := rfl
  have L0 : kl 0 0 = 0 := rfl
  have tail : ∀ (g : Hp) (v : Int64), ¬ jnC k → v = jnV k x y → (∀ w, wI g o_asker 2 w = wI h o_asker 2 w) → (¬ hI g o_asker 2 = 0 ↔ (¬ hI h o_asker 2 = 0 ∨ (¬ k = 2 ∧ ¬ k = 3 ∧ ¬ k = 4 ∧ y = 0))) → E cx jX0_joined d a 123 [some (.ref o_asker), some (.int k), some (.long x), none, some (.long y), none, some (.long v), none] [] g (RQ (.long (jnV k x y)) (jnH h k x y)) := by
    intro g v nc ev eg eb
    have fin : ∀ w, w = b2i (jnF h k x y) → isB w → E cx jX0_joined d a 154 [some (.ref o_asker), some (.int k), some (.long x), none, some (.long y), none, some (.long v), none] [.int w, .ref o_asker] g (RQ (.long (jnV k x y)) (jnH h k x y)) := fun w ew hw => by
      refine eX0_joined (And.intro hw ⟨by rw [ev], ?_⟩)
      unfold jnH; rw [if_neg nc, ← ew]; exact eg w
    have yes : jnF h k x y → E cx jX0_joined d a 149 [some (.ref o_asker), some (.int k), some (.long x), none, some (.long y), none, some (.long v), none] [.ref o_asker] g (RQ (.long (jnV k x y)) (jnH h k x y)) := fun z => eX0_joined (fin 1 (b2i_t z).symm (Or.inr rfl))
    refine eX0_joined (And.intro (fun q => yes (Or.inl (eb.mp q))) (fun q => And.intro (fun q2 => yes (Or.inr (Or.inl ?_))) (fun q2 => And.intro (fun q3 => eX0_joined (fin 0 (b2i_f ?_).symm (Or.inl rfl))) (fun q3 => yes (Or.inr (Or.inr ?_))))))
    · rw [← ev]; exact (lg_cmp_gt _ _).mp q2
    · rintro (z | z | z)
      · exact absurd (eb.mpr z) (fun n => n q)
      · rw [← ev] at z; exact q2 ((lg_cmp_gt _ _).mpr z)
      · rw [← ev] at z; exact absurd z (Int64.not_lt.mpr ((lg_cmp_ge _ _).mp q3))
    · rw [← ev]; exact Int64.not_le.mp (fun z => q3 ((lg_cmp_ge _ _).mpr z))
  have cmp : ∀ (c : Prop) (w : Int64), jnC k → w = jnV k x y → RQ (.long (jnV k x y)) (jnH h k x y) (some (.long w)) h := fun c w hc ew => ⟨by rw [ew], by unfold jnH; rw [if_pos hc]⟩
  refine sX0_joined rfl (And.intro (fun q6 => eX0_joined (And.intro (fun q7 => eX0_joined (And.intro (fun q8 => eX0_joined (And.intro (fun q2 => eX0_joined (And.intro (fun q3 => eX0_joined (And.intro (fun q4 => eX0_joined (And.intro (fun q0 => eX0_joined (And.intro ?_ ?_)) (fun q0 => And.intro (Or.inr rfl) ?_))) (fun q4 => ?_))) (fun q3 => ?_))) (fun q2 => ?_))) (fun q8 => And.intro (fun z => eX0_joined (eX0_joined ?_)) (fun z => eX0_joined ?_)))) (fun q7 => And.intro (fun z => eX0_joined (eX0_joined ?_)) (fun z => eX0_joined ?_)))) (fun q6 => And.intro (fun z => eX0_joined (eX0_joined ?_)) (fun z => eX0_joined ?_)))
  · exact fun z => q0 (by rw [z, L0]; exact (lg_cmp_eq _ _).mpr rfl)
  · have ny : ¬ y = 0 := fun z => q0 (by rw [z, L0]; exact (lg_cmp_eq _ _).mpr rfl)
    refine tail h _ (fun z => z.elim q6 (fun z => z.elim q7 q8)) ?_ (fun _ => rfl) ⟨fun z => Or.inl z, fun z => z.elim id (fun z => absurd z.2.2.2 ny)⟩
    simp [jnV, q6, q7, q8, q2, q3, q4, ny]
  · have y0 : y = 0 := (lg_cmp_eq _ _).mp q0
    refine tail _ _ (fun z => z.elim q6 (fun z => z.elim q7 q8)) ?_ (fun _ => wI_wI) ⟨fun _ => Or.inr ⟨q2, q3, q4, y0⟩, fun _ => ?_⟩
    · simp [jnV, q6, q7, q8, q2, q3, q4, y0, L0]
    · show ¬ hI (wI h o_asker 2 1) o_asker 2 = 0
      rw [rd_same]; decide
  · refine tail h _ (fun z => z.elim q6 (fun z => z.elim q7 q8)) ?_ (fun _ => rfl) ⟨fun z => Or.inl z, fun z => z.elim id (fun z => absurd q4 z.2.2.1)⟩
    simp [jnV, q6, q7, q8, q2, q3, q4]
  · refine tail h _ (fun z => z.elim q6 (fun z => z.elim q7 q8)) ?_ (fun _ => rfl) ⟨fun z => Or.inl z, fun z => z.elim id (fun z => absurd q3 z.2.1)⟩
    simp [jnV, q6, q7, q8, q2, q3]
  · refine tail h _ (fun z => z.elim q6 (fun z => z.elim q7 q8)) ?_ (fun _ => rfl) ⟨fun z => Or.inl z, fun z => z.elim id (fun z => absurd q2 z.1)⟩
    simp [jnV, q6, q7, q8, q2]
  · refine cmp True _ (Or.inr (Or.inr q8)) ?_
    subst q8
    have : ¬ x = y := fun w => z ((lg_cmp_eq _ _).mpr w)
    simp [jnV, this, L0]
  · refine cmp True _ (Or.inr (Or.inr q8)) ?_
    subst q8
    have : x = y := (lg_cmp_eq _ _).mp z
    simp [jnV, this, L1]
  · refine cmp True _ (Or.inr (Or.inl q7)) ?_
    subst q7
    have : ¬ y < x := Int64.not_lt.mpr ((lg_cmp_le _ _).mp z)
    simp [jnV, this, L0]
  · refine cmp True _ (Or.inr (Or.inl q7)) ?_
    subst q7
    have : y < x := Int64.not_le.mp (fun w => z ((lg_cmp_le _ _).mpr w))
    simp [jnV, this, L1]
  · refine cmp True _ (Or.inl q6) ?_
    subst q6
    have : ¬ x < y := Int64.not_lt.mpr ((lg_cmp_ge _ _).mp z)
    simp [jnV, this, L0]
  · refine cmp True _ (Or.inl q6) ?_
    subst q6
    have : x < y := Int64.not_le.mp (fun w => z ((lg_cmp_ge _ _).mpr w))
    simp [jnV, this, L1]
/-! one step of a law's code -/
theorem lawok_push {o : Nat} {v : Int64} (q : lawok h o) : lawok (pushH h v) o := by
  unfold pushH; split <;> exact q
theorem lawok_pop {o : Nat} (q : lawok h o) : lawok (popH h) o := by
  unfold popH; split <;> exact q
theorem lawok_jn {o : Nat} {k : Int32} {x y : Int64} (q : lawok h o) : lawok (jnH h k x y) o := by
  unfold jnH; split <;> exact q
def stK (h : Hp) (o : Nat) (i : Int32) : Int32 := fStep h o i >>> ((10 : Int32) &&& 31)
def stN (h : Hp) (o : Nat) (i : Int32) : Int32 := fStep h o i &&& 1023
def jmp (k : Int32) (v : Int64) : Prop := (¬ v = 0 ↔ k = 11)
noncomputable def vst (h : Hp) (o : Nat) (p i : Int32) : Hp × Int32 :=
  if stK h o i = 0 then (pushH h (stN h o i).toInt64, i)
  else if stK h o i = 1 then (pushH h (if stN h o i = 7 then p.toInt64 else (fFact h p (stN h o i)).toInt64), i)
  else if stK h o i = 9 then (pushH (popH h) (if popV h = 0 then 1 else 0), i)
  else if stK h o i = 10 ∨ stK h o i = 11 then @ite _ (jmp (stK h o i) (popV h)) (Classical.propDecidable _) (pushH (popH h) (popV h), if i < stN h o i - 1 then stN h o i - 1 else i) (popH h, i)
  else (pushH (jnH (popH (popH h)) (stK h o i) (popV (popH h)) (popV h)) (jnV (stK h o i) (popV (popH h)) (popV h)), i)
noncomputable def valR (o : Nat) (p T : Int32) : Nat → Int32 → Hp → Hp
  | 0, _, g => g
  | n + 1, i, g => if T ≤ i then g else if ¬ hI g o_asker 2 = 0 then g else valR o p T n ((vst g o p i).2 + 1) (vst g o p i).1
theorem lawok_vst {o : Nat} {p i : Int32} (q : lawok h o) : lawok (vst h o p i).1 o := by
  unfold vst
  split
  · exact lawok_push q
  split
  · exact lawok_push q
  split
  · exact lawok_push (lawok_pop q)
  split
  · split
    · exact lawok_push (lawok_pop q)
    · exact lawok_pop q
  · exact lawok_push (lawok_jn (lawok_pop (lawok_pop q)))
theorem hN_push {v : Int64} : hN (pushH h v) = hN h := by unfold pushH; split <;> rfl
theorem hN_pop : hN (popH h) = hN h := by unfold popH; split <;> rfl
theorem hN_jn {k : Int32} {x y : Int64} : hN (jnH h k x y) = hN h := by unfold jnH; split <;> rfl
theorem hN_vst {o : Nat} {p i : Int32} : hN (vst h o p i).1 = hN h := by
  unfold vst
  split
  · exact hN_push
  split
  · exact hN_push
  split
  · rw [hN_push, hN_pop]
  split
  · split
    · rw [hN_push, hN_pop]
    · exact hN_pop
  · rw [hN_push, hN_jn, hN_pop, hN_pop]
/-- a number of ten bits -/
theorem and1023 (x : Int32) : ∃ n : Nat, n < 1024 ∧ x &&& 1023 = nI n := pk_andE x 10 (by decide)
theorem vst_i {o m : Nat} {p : Int32} (hm : m < 2000) : ∃ m', m ≤ m' ∧ m' < 2000 ∧ (vst h o p (nI m)).2 = nI m' := by
  unfold vst
  split
  · exact ⟨m, Nat.le_refl _, hm, rfl⟩
  split
  · exact ⟨m, Nat.le_refl _, hm, rfl⟩
  split
  · exact ⟨m, Nat.le_refl _, hm, rfl⟩
  split
  · split
    · show ∃ m', m ≤ m' ∧ m' < 2000 ∧ (if nI m < stN h o (nI m) - 1 then stN h o (nI m) - 1 else nI m) = nI m'
      obtain ⟨n, hn, en⟩ := and1023 (fStep h o (nI m))
      have en : stN h o (nI m) = nI n := en
      rw [en]
      split
      · rename_i hlt
        match n, hn with
        | 0, _ => exfalso; have h1 : (nI 0 - 1 : Int32) = -1 := by decide
                  rw [h1] at hlt; have := nI_pos (n := m) (by omega); exact this (Int32.lt_trans hlt (by decide))
        | n + 1, hn =>
          rw [nI_pred] at hlt ⊢
          have := (nI_ltI (a := m) (b := n) (by omega) (by omega)).mp hlt
          exact ⟨n, by omega, by omega, rfl⟩
      · exact ⟨m, Nat.le_refl _, hm, rfl⟩
    · exact ⟨m, Nat.le_refl _, hm, rfl⟩
  · exact ⟨m, Nat.le_refl _, hm, rfl⟩
theorem e_valueStep (hd : 2 ≤ d) {o : Nat} {i p T S : Int32} {g : Hp} {Q : Option Value → Hp → Prop} (q : lawok g o) (hlt : ¬ T ≤ i) (hbr : hI g o_asker 2 = 0)
    (K : E cx jX0_value d a 26 [some (.ref o_asker), some (.ref o), some (.int S), some (.ref o_wall), some (.int p), some (.int T), some (.int ((vst g o p i).2 + 1)), none, none, none, none] [] (vst g o p i).1 Q) :
    E cx jX0_value d a 26 [some (.ref o_asker), some (.ref o), some (.int S), some (.ref o_wall), some (.int p), some (.int T), some (.int i), none, none, none, none] [] g Q := by
  have L1 : kl 1 0 = 1 := rfl
  have L0 : kl 0 0 = 0 := rfl
  have fin : ∀ (i' : Int32) (g' : Hp) (w9 : Option Value), vst g o p i = (g', i') → E cx jX0_value d a 230 [some (.ref o_asker), some (.ref o), some (.int S), some (.ref o_wall), some (.int p), some (.int T), some (.int i'), some (.int (stK g o i)), some (.int (stN g o i)), w9, none] [] g' Q := fun i' g' w9 e => by
    rw [e] at K
    exact e_clr 7 (e_clr 8 (e_clr 9 (eX0_value K)))
  have lf := lawok_vst (p := p) (i := i) q
  refine eX0_value (And.intro (fun z => absurd z hlt) (fun _ => And.intro (fun z => absurd hbr z) (fun _ => wcV (m_stepAt q) (wcV (m_stepAt q) ?_ q.1) q.1)))
  have E205 : ∀ (i' : Int32) (g' : Hp), vst g o p i = (g', i') → E cx jX0_value d a 205 [some (.ref o_asker), some (.ref o), some (.int S), some (.ref o_wall), some (.int p), some (.int T), some (.int i'), some (.int (stK g o i)), some (.int (stN g o i)), some (.long (popV g)), none] [] g' Q := fun i' g' e => eX0_value (fin _ _ _ e)
  have E155 : ¬ stK g o i = 0 → ¬ stK g o i = 1 → ¬ stK g o i = 9 → (stK g o i = 10 ∨ stK g o i = 11) → E cx jX0_value d a 155 [some (.ref o_asker), some (.ref o), some (.int S), some (.ref o_wall), some (.int p), some (.int T), some (.int i), some (.int (stK g o i)), some (.int (stN g o i)), none, none] [] g Q := fun n0 n1 n9 k1 => by
    have ev1 : jmp (stK g o i) (popV g) → vst g o p i = (pushH (popH g) (popV g), if i < stN g o i - 1 then stN g o i - 1 else i) := fun z => by
      unfold vst; rw [if_neg n0, if_neg n1, if_neg n9, if_pos k1, if_pos z]
    have ev2 : ¬ jmp (stK g o i) (popV g) → vst g o p i = (popH g, i) := fun z => by
      unfold vst; rw [if_neg n0, if_neg n1, if_neg n9, if_pos k1, if_neg z]
    have E185 : ∀ u v : Int32, (u = v ↔ jmp (stK g o i) (popV g)) → E cx jX0_value d a 185 [some (.ref o_asker), some (.ref o), some (.int S), some (.ref o_wall), some (.int p), some (.int T), some (.int i), some (.int (stK g o i)), some (.int (stN g o i)), some (.long (popV g)), none] [.int v, .int u] (popH g) Q := fun u v e => by
      refine eX0_value (And.intro (fun z => E205 _ _ (ev2 (fun y => z (e.mpr y)))) (fun z => wcV0 m_push (And.intro ⟨Nat.le_of_ble_eq_true rfl, by omega⟩ (E205 _ _ (ev1 (e.mp z)))) (hok := Or.inr hN_push)))
    have E173 : ∀ u : Int32, (u = 0 ∨ u = 1) → (u = 1 ↔ ¬ popV g = 0) → E cx jX0_value d a 173 [some (.ref o_asker), some (.ref o), some (.int S), some (.ref o_wall), some (.int p), some (.int T), some (.int i), some (.int (stK g o i)), some (.int (stN g o i)), some (.long (popV g)), none] [.int u] (popH g) Q := fun u hu eu => by
      refine eX0_value (And.intro (fun z => eX0_value (E185 u 0 ?_)) (fun z => E185 u 1 ?_))
      · unfold jmp
        rw [← eu]
        rcases hu with rfl | rfl
        · simp [z]
        · simp [z]
      · unfold jmp
        rw [← eu]
        simp [z]
    refine eX0_value (wcV m_pop (And.intro (fun z => eX0_value (E173 0 (Or.inl rfl) ?_)) (fun z => E173 1 (Or.inr rfl) ?_)) (hok := Or.inr hN_pop))
    · have : popV g = 0 := (lg_cmp_eq _ _).mp z
      simp [this]
    · have : ¬ popV g = 0 := fun y => z ((lg_cmp_eq _ _).mpr y)
      simp [this]
  refine And.intro (fun k0 => eX0_value (And.intro (fun k1 => eX0_value (And.intro (fun k9 => eX0_value (And.intro (fun ka => E155 k0 k1 k9 (Or.inl ka)) (fun ka => And.intro (fun kb => eX0_value ?_) (fun kb => E155 k0 k1 k9 (Or.inr kb))))) (fun k9 => wcV m_pop (And.intro (fun z => eX0_value (eX0_value ?_)) (fun z => eX0_value ?_)) (hok := Or.inr hN_pop)))) (fun k1 => And.intro (fun k7 => eX0_value (wcV m_fact (eX0_value ?_))) (fun k7 => eX0_value ?_)))) (fun k0 => wcV0 m_push (fin _ _ _ ?_) (hok := Or.inr hN_push))
  · refine wcV m_pop (wcV m_pop (wcV m_joined (wcV0 m_push ?_ (hok := Or.inr hN_push)) (hok := Or.inr hN_jn)) (hok := Or.inr hN_pop)) (hok := Or.inr hN_pop)
    refine fin _ _ _ ?_
    unfold vst stK stN; rw [if_neg k0, if_neg k1, if_neg k9, if_neg (fun z => z.elim ka kb)]
  · have z : ¬ popV g = 0 := fun y => z ((lg_cmp_eq _ _).mpr y)
    refine wcV0 m_push (fin _ _ _ ?_) (hok := Or.inr hN_push)
    unfold vst stK stN; rw [if_neg k0, if_neg k1, if_pos k9, if_neg z]; rfl
  · have z : popV g = 0 := (lg_cmp_eq _ _).mp z
    refine wcV0 m_push (fin _ _ _ ?_) (hok := Or.inr hN_push)
    unfold vst stK stN; rw [if_neg k0, if_neg k1, if_pos k9, if_pos z]; rfl
  · refine wcV0 m_push (fin _ _ _ ?_) (hok := Or.inr hN_push)
    unfold vst stK stN; rw [if_neg k0, if_pos k1, if_neg k7]
  · refine wcV0 m_push (fin _ _ _ ?_) (hok := Or.inr hN_push)
    unfold vst stK stN; rw [if_neg k0, if_pos k1, if_pos k7]
  · unfold vst stK stN; rw [if_pos k0]
theorem fStart_as {o k : Nat} {v i : Int32} (q : 126 ≤ o) : fStart (wI h o_asker k v) o i = fStart h o i := by
  have e : hI (wI h o_asker k v) (o + 2) i.toNatClampNeg = hI h (o + 2) i.toNatClampNeg := rd_o (by show o + 2 ≠ 85; omega)
  unfold fStart; rw [e]; rfl
/-- the asker made ready -/
def as0 (h : Hp) : Hp := wI (wI h o_asker 1 0) o_asker 2 0
noncomputable def vlG (h : Hp) (o : Nat) (part p : Int32) : Hp := valR o p (fStart h o (part + 1)) 401 (fStart h o part) (as0 h)
noncomputable def vlV (h : Hp) (o : Nat) (part p : Int32) : Int64 := popV (vlG h o part p)
noncomputable def vlH (h : Hp) (o : Nat) (part p : Int32) : Hp := popH (vlG h o part p)
theorem lawok_valR {o : Nat} {p T : Int32} : ∀ (n : Nat) (i : Int32) (g : Hp), lawok g o → lawok (valR o p T n i g) o := by
  intro n
  induction n with
  | zero => intro i g q; exact q
  | succ n ih =>
    intro i g q
    unfold valR
    split
    · exact q
    split
    · exact q
    · exact ih _ _ (lawok_vst q)
theorem lawok_vlH {o : Nat} {part p : Int32} (q : lawok h o) : lawok (vlH h o part p) o := lawok_pop (lawok_valR _ _ _ q)
theorem hN_valR {o : Nat} {p T : Int32} : ∀ (n : Nat) (i : Int32) (g : Hp), hN (valR o p T n i g) = hN g := by
  intro n
  induction n with
  | zero => intro i g; rfl
  | succ n ih =>
    intro i g
    unfold valR
    split
    · rfl
    split
    · rfl
    · rw [ih, hN_vst]
theorem hN_vlH {o : Nat} {part p : Int32} : hN (vlH h o part p) = hN h := by
  unfold vlH vlG; rw [hN_pop, hN_valR]; rfl
/-- the starts of a part lie within the code -/
def vok (h : Hp) (o : Nat) (part : Int32) : Prop := ∃ S T : Nat, S ≤ 400 ∧ T ≤ 400 ∧ fStart h o part = nI S ∧ fStart h o (part + 1) = nI T
theorem m_value (hd : 2 ≤ d) {o : Nat} {part p : Int32} (q : lawok h o) (hv : vok h o part) : M cx jX0_value d a [.ref o_asker, .ref o, .int part, .ref o_wall, .int p] h (RQ (.long (vlV h o part p)) (vlH h o part p)) := by
  obtain ⟨S, T, hS, hT, eS, eT⟩ := hv
  have loop : ∀ n m g, T < n + m → m < 2000 → lawok g o → hN g = hN h → valR o p (nI T) n (nI m) g = vlG h o part p → E cx jX0_value d a 26 [some (.ref o_asker), some (.ref o), some (.int part), some (.ref o_wall), some (.int p), some (.int (nI T)), some (.int (nI m)), none, none, none, none] [] g (RQ (.long (vlV h o part p)) (vlH h o part p)) := by
    intro n
    induction n with
    | zero =>
      intro m g hm h2 qg en e
      refine eX0_value (And.intro (fun _ => eX0_value (wcV m_pop ?_ (hok := Or.inr hN_pop))) (fun z => absurd (nI_le (by omega) (by omega)) z))
      have e : g = vlG h o part p := e
      exact ⟨by rw [e]; rfl, by rw [e]; rfl⟩
    | succ n ih =>
      intro m g hm h2 qg en e
      have stop : g = vlG h o part p → E cx jX0_value d a 236 [some (.ref o_asker), some (.ref o), some (.int part), some (.ref o_wall), some (.int p), some (.int (nI T)), some (.int (nI m)), none, none, none, none] [] g (RQ (.long (vlV h o part p)) (vlH h o part p)) := fun e => eX0_value (wcV m_pop ⟨by rw [e]; rfl, by rw [e]; rfl⟩ (hok := Or.inr hN_pop))
      by_cases c1 : nI T ≤ nI m
      · rw [valR, if_pos c1] at e
        exact eX0_value (And.intro (fun _ => stop e) (fun z => absurd c1 z))
      · rw [valR, if_neg c1] at e
        by_cases c2 : hI g o_asker 2 = 0
        · rw [if_neg (fun z => z c2)] at e
          obtain ⟨m', l1, l2, em⟩ := vst_i (h := g) (o := o) (p := p) h2
          have c3 : m < T := (nI_ltI (by omega) (by omega)).mp (Int32.not_le.mp c1)
          refine e_valueStep hd qg c1 c2 ?_
          rw [em, ← nI_succ] at e
          rw [em, ← nI_succ]
          by_cases c4 : m' + 1 < 2000
          · exact ih (m' + 1) _ (by omega) c4 (lawok_vst qg) (hN_vst.trans en) e
          · -- beyond the code: the next look ends it
            have c5 : nI T ≤ nI (m' + 1) := nI_le (by omega) (by omega)
            have e6 : (vst g o p (nI m)).1 = vlG h o part p := by
              rw [← e]
              cases n with
              | zero => rfl
              | succ n => rw [valR, if_pos c5]
            exact eX0_value (And.intro (fun _ => eX0_value (wcV m_pop ⟨by rw [e6]; rfl, by rw [e6]; rfl⟩ (hok := Or.inr hN_pop))) (fun z => absurd c5 z))
        · rw [if_pos c2] at e
          exact eX0_value (And.intro (fun z => absurd z c1) (fun _ => And.intro (fun _ => stop e) (fun z => absurd z c2)))
  have s1 : ∀ i, fStart (as0 h) o i = fStart h o i := fun i => by unfold as0; rw [fStart_as q.1.1, fStart_as q.1.1]
  refine sX0_value rfl (And.intro (Or.inl rfl) (wcV (m_startOf (h := as0 h) q) (wcV (m_startOf (h := as0 h) q) ?_ q.1) q.1))
  have := loop 401 S (as0 h) (by omega) (by omega) q rfl (by unfold vlG; rw [eS, eT])
  refine e_eq this ?_ rfl rfl
  rw [s1, s1, eS, eT]; rfl
def sEmp (h : Hp) (o : Nat) (part : Int32) : Prop := fStart h o (part + 1) ≤ fStart h o part
/-- a part is so: it is empty, or its value is not 0 and nothing broke -/
def isSoP (h : Hp) (o : Nat) (part p : Int32) : Prop := sEmp h o part ∨ (¬ vlV h o part p = 0 ∧ hI (vlH h o part p) o_asker 2 = 0)
noncomputable def isSoH (h : Hp) (o : Nat) (part p : Int32) : Hp := @ite _ (sEmp h o part) (Classical.propDecidable _) h (vlH h o part p)
theorem m_isSo (hd : 3 ≤ d) {o : Nat} {part p : Int32} (q : lawok h o) (hv : vok h o part) : M cx jX0_isSo d a [.ref o_asker, .ref o, .int part, .ref o_wall, .int p] h (RQ (.int (b2i (isSoP h o part p))) (isSoH h o part p)) := by
  have e1 : sEmp h o part → isSoH h o part p = h := fun z => if_pos z
  have e2 : ¬ sEmp h o part → isSoH h o part p = vlH h o part p := fun z => if_neg z
  refine sX0_isSo rfl (wcV (m_isEmptyPart (by omega) q) (And.intro (fun z => eX0_isSo (eX0_isSo (And.intro (Or.inr rfl) (RQ_eq' (b2i_t (Or.inl (b2i_n z))).symm (e1 (b2i_n z)).symm)))) (fun z => wcV (m_value (by omega) q hv) (And.intro (fun y => eX0_isSo (eX0_isSo (And.intro (Or.inl rfl) (RQ_eq' (b2i_f ?_).symm (e2 (b2i_0.mp z)).symm)))) (fun y => And.intro (fun x => eX0_isSo (eX0_isSo (And.intro (Or.inl rfl) (RQ_eq' (b2i_f ?_).symm (e2 (b2i_0.mp z)).symm)))) (fun x => eX0_isSo (eX0_isSo (And.intro (Or.inr rfl) (RQ_eq' (b2i_t ?_).symm (e2 (b2i_0.mp z)).symm)))))) (hok := Or.inr hN_vlH))) q.1)
  · rintro (w | w)
    · exact b2i_0.mp z w
    · exact w.1 ((lg_cmp_eq _ _).mp y)
  · rintro (w | w)
    · exact b2i_0.mp z w
    · exact x w.2
  · exact Or.inr ⟨fun w => y ((lg_cmp_eq _ _).mpr w), x⟩
end T21
end
section
/-! the asker changes nothing but itself; clause by clause -/
section T22
variable {cx : Cx} {d a : Nat} {h : Hp}
/-- g is h but for the asker -/
def sameA (h g : Hp) : Prop := (∀ o k, o ≠ o_asker → hI g o k = hI h o k) ∧ (∀ o k, o ≠ o_asker_stack → hJ g o k = hJ h o k) ∧ g.2.2 = h.2.2
theorem sameA_r : sameA h h := ⟨fun _ _ _ => rfl, fun _ _ _ => rfl, rfl⟩
theorem sameA_t {g f : Hp} (x : sameA h g) (y : sameA g f) : sameA h f := ⟨fun o k n => (y.1 o k n).trans (x.1 o k n), fun o k n => (y.2.1 o k n).trans (x.2.1 o k n), y.2.2.trans x.2.2⟩
theorem sameA_wI {k : Nat} {v : Int32} : sameA h (wI h o_asker k v) := ⟨fun o k n => rd_o n, fun _ _ _ => rfl, rfl⟩
theorem sameA_push {v : Int64} : sameA h (pushH h v) := by
  unfold pushH; split
  · refine ⟨fun o k n => ?_, fun o k n => ?_, rfl⟩
    · exact rd_o n
    · show up2 h.2.1 o_asker_stack _ v o k = h.2.1 o k
      simp [up2, n]
  · exact sameA_r
theorem sameA_pop : sameA h (popH h) := by
  unfold popH; split
  · exact sameA_r
  · exact sameA_wI
theorem sameA_jn {k : Int32} {x y : Int64} : sameA h (jnH h k x y) := by
  unfold jnH; split
  · exact sameA_r
  · exact sameA_wI
theorem sameA_vst {o : Nat} {p i : Int32} : sameA h (vst h o p i).1 := by
  unfold vst
  split
  · exact sameA_push
  split
  · exact sameA_push
  split
  · exact sameA_t sameA_pop sameA_push
  split
  · split
    · exact sameA_t sameA_pop sameA_push
    · exact sameA_pop
  · exact sameA_t (sameA_t (sameA_t sameA_pop sameA_pop) sameA_jn) sameA_push
theorem sameA_valR {o : Nat} {p T : Int32} : ∀ (n : Nat) (i : Int32) (g : Hp), sameA g (valR o p T n i g) := by
  intro n
  induction n with
  | zero => intro i g; exact sameA_r
  | succ n ih =>
    intro i g
    unfold valR
    split
    · exact sameA_r
    split
    · exact sameA_r
    · exact sameA_t sameA_vst (ih _ _)
theorem sameA_as0 : sameA h (as0 h) := sameA_t sameA_wI sameA_wI
theorem sameA_vlH {o : Nat} {part p : Int32} : sameA h (vlH h o part p) := sameA_t sameA_as0 (sameA_t (sameA_valR _ _ _) sameA_pop)
theorem sameA_isSoH {o : Nat} {part p : Int32} : sameA h (isSoH h o part p) := by
  unfold isSoH; split
  · exact sameA_r
  · exact sameA_vlH
theorem sameA_N {g : Hp} (x : sameA h g) : hN g = hN h := congrArg (fun z => z.2.2) x.2.2
theorem sameA_L {g : Hp} (x : sameA h g) (o : Nat) : hL g o = hL h o := congrArg (fun z => z.2.1 o) x.2.2
theorem lawok_same {g : Hp} {o : Nat} (x : sameA h g) (q : lawok h o) : lawok g o := by
  unfold lawok lawp at *
  rw [sameA_N x, sameA_L x, sameA_L x]; exact q
theorem fStart_same {g : Hp} {o : Nat} {i : Int32} (x : sameA h g) (q : 126 ≤ o) : fStart g o i = fStart h o i := by
  unfold fStart; rw [sameA_L x, sameA_L x, x.1 (o + 2) _ (by show o + 2 ≠ 85; omega)]
/-- a law as it stands: so many clauses, its starts within its code -/
def lawC (h : Hp) (o C : Nat) : Prop := lawok h o ∧ C ≤ 12 ∧ hI h o 2 = nI C ∧ ∀ k, k ≤ 2 * C → ∃ m, m ≤ 400 ∧ fStart h o (nI k) = nI m
theorem lawC_same {g : Hp} {o C : Nat} (x : sameA h g) (q : lawC h o C) : lawC g o C := ⟨lawok_same x q.1, q.2.1, by rw [x.1 o 2 (by have := q.1.1.1; show o ≠ 85; omega)]; exact q.2.2.1, fun k hk => by rw [fStart_same x q.1.1.1]; exact q.2.2.2 k hk⟩
theorem lawC_vok {o C k : Nat} (q : lawC h o C) (hk : k < 2 * C) : vok h o (nI k) := by
  obtain ⟨S, hS, eS⟩ := q.2.2.2 k (by omega)
  obtain ⟨T, hT, eT⟩ := q.2.2.2 (k + 1) (by omega)
  exact ⟨S, T, hS, hT, eS, by rw [← nI_succ]; exact eT⟩
theorem two_c (c : Nat) : (2 : Int32) * nI c = nI (2 * c) := by rw [show (2 : Int32) = nI 2 from rfl, pk_mul]
theorem two_c1 (c : Nat) : (2 : Int32) * nI c + 1 = nI (2 * c + 1) := by rw [two_c, nI_succ]
/-- clause c binds the place p -/
def bdQ (g : Hp) (o : Nat) (p : Int32) (c : Nat) : Prop := sEmp g o (nI (2 * c)) ∧ isSoP g o (nI (2 * c + 1)) p
noncomputable def bdN (g : Hp) (o : Nat) (p : Int32) (c : Nat) : Hp := @ite _ (sEmp g o (nI (2 * c))) (Classical.propDecidable _) (isSoH g o (nI (2 * c + 1)) p) g
noncomputable def bdR (o : Nat) (p : Int32) : Nat → Nat → Hp → Prop × Hp
  | 0, _, g => (False, g)
  | n + 1, c, g => @ite _ (bdQ g o p c) (Classical.propDecidable _) (True, bdN g o p c) (bdR o p n (c + 1) (bdN g o p c))
theorem sameA_bdN {o : Nat} {p : Int32} {c : Nat} : sameA h (bdN h o p c) := by
  unfold bdN; split
  · exact sameA_isSoH
  · exact sameA_r
theorem sameA_bdR {o : Nat} {p : Int32} : ∀ (n c : Nat) (g : Hp), sameA g (bdR o p n c g).2 := by
  intro n
  induction n with
  | zero => intro c g; exact sameA_r
  | succ n ih =>
    intro c g
    unfold bdR
    split
    · exact sameA_bdN
    · exact sameA_t sameA_bdN (ih _ _)
theorem m_isBoundA (hd : 4 ≤ d) {o C : Nat} {p : Int32} (q : lawC h o C) : M cx jX0_isBound d a [.ref o_asker, .ref o, .ref o_wall, .int p] h (RQ (.int (b2i (bdR o p C 0 h).1)) (bdR o p C 0 h).2) := by
  have loop : ∀ n c g, n + c = C → lawC g o C → hN g = hN h → bdR o p n c g = bdR o p C 0 h → E cx jX0_isBound d a 3 [some (.ref o_asker), some (.ref o), some (.ref o_wall), some (.int p), some (.int (nI c))] [] g (RQ (.int (b2i (bdR o p C 0 h).1)) (bdR o p C 0 h).2) := by
    intro n
    induction n with
    | zero =>
      intro c g hc qg en e
      have hC := qg.2.1
      have qc : hI g o 2 = nI C := qg.2.2.1
      refine eX0_isBound (And.intro qg.1.1 (And.intro (fun _ => eX0_isBound (And.intro (Or.inl rfl) (RQ_eq' ?_ ?_))) (fun z => absurd ?_ z)))
      · rw [← e]; exact (b2i_f id).symm
      · rw [← e]; rfl
      · rw [qc]; exact nI_le (by omega) (by omega)
    | succ n ih =>
      intro c g hc qg en e
      have hC := qg.2.1
      have qc : hI g o 2 = nI C := qg.2.2.1
      have go : ∀ g', bdN g o p c = g' → ¬ bdQ g o p c → E cx jX0_isBound d a 41 [some (.ref o_asker), some (.ref o), some (.ref o_wall), some (.int p), some (.int (nI c))] [] g' (RQ (.int (b2i (bdR o p C 0 h).1)) (bdR o p C 0 h).2) := fun g' eg nq => by
        subst eg
        refine eX0_isBound (e_eq (ih (c + 1) _ (by omega) (lawC_same sameA_bdN qg) ((sameA_N sameA_bdN).trans en) ?_) ?_ rfl rfl)
        · rw [← e, bdR, if_neg nq]
        · rw [nI_succ]; rfl
      refine eX0_isBound (And.intro qg.1.1 (And.intro (fun z => absurd z ?_) (fun _ => wcV (m_isEmptyPart (by omega) qg.1) (And.intro (fun z => go g ?_ ?_) (fun z => wcV (m_isSo (by omega) qg.1 ?_) (And.intro (fun y => go _ ?_ ?_) (fun y => And.intro (Or.inr rfl) (RQ_eq' ?_ ?_))) (hok := Or.inr (sameA_N sameA_isSoH)))) qg.1.1)))
      · rw [qc]; exact nI_ge (by omega) (by omega)
      · have z : ¬ sEmp g o (nI (2 * c)) := by have := b2i_0.mp z; rw [two_c] at this; exact this
        unfold bdN; rw [if_neg z]
      · have z : ¬ sEmp g o (nI (2 * c)) := by have := b2i_0.mp z; rw [two_c] at this; exact this
        exact fun y => z y.1
      · rw [two_c1]; exact lawC_vok qg (by omega)
      · have z : sEmp g o (nI (2 * c)) := by have := b2i_n z; rw [two_c] at this; exact this
        unfold bdN; rw [if_pos z, two_c1]
      · have y := b2i_0.mp y
        rw [two_c1] at y
        exact fun x => y x.2
      · have z : sEmp g o (nI (2 * c)) := by have := b2i_n z; rw [two_c] at this; exact this
        have y := b2i_n y
        rw [two_c1] at y
        rw [← e, bdR, if_pos ⟨z, y⟩]; exact (b2i_t trivial).symm
      · have z : sEmp g o (nI (2 * c)) := by have := b2i_n z; rw [two_c] at this; exact this
        have y := b2i_n y
        rw [two_c1] at y ⊢
        rw [← e, bdR, if_pos ⟨z, y⟩]
        show _ = bdN g o p c
        unfold bdN; rw [if_pos z]
  exact sX0_isBound rfl (loop C 0 h (by omega) q rfl rfl)
def clampL (v : Int64) : Int32 := (if (if v < 12 then v else 12) < 0 then 0 else (if v < 12 then v else 12)).toInt32
/-- clause c, as it changes what is needed -/
noncomputable def ndS (g : Hp) (o : Nat) (p : Int32) (c : Nat) (nd : Int32) : Int32 × Hp :=
  @ite _ (sEmp g o (nI (2 * c))) (Classical.propDecidable _) (nd, g)
    (@ite _ (isSoP g o (nI (2 * c + 1)) p) (Classical.propDecidable _)
      (if hI (vlH (isSoH g o (nI (2 * c + 1)) p) o (nI (2 * c)) p) o_asker 2 = 0 then clampL (vlV (isSoH g o (nI (2 * c + 1)) p) o (nI (2 * c)) p) else nd, vlH (isSoH g o (nI (2 * c + 1)) p) o (nI (2 * c)) p)
      (nd, isSoH g o (nI (2 * c + 1)) p))
noncomputable def ndR (o : Nat) (p : Int32) : Nat → Nat → Int32 → Hp → Int32 × Hp
  | 0, _, nd, g => (nd, g)
  | n + 1, c, nd, g => ndR o p n (c + 1) (ndS g o p c nd).1 (ndS g o p c nd).2
theorem sameA_ndS {o : Nat} {p : Int32} {c : Nat} {nd : Int32} : sameA h (ndS h o p c nd).2 := by
  unfold ndS; split
  · exact sameA_r
  split
  · exact sameA_t sameA_isSoH sameA_vlH
  · exact sameA_isSoH
theorem sameA_ndR {o : Nat} {p : Int32} : ∀ (n c : Nat) (nd : Int32) (g : Hp), sameA g (ndR o p n c nd g).2 := by
  intro n
  induction n with
  | zero => intro c nd g; exact sameA_r
  | succ n ih => intro c nd g; exact sameA_t sameA_ndS (ih _ _ _)
theorem m_need (hd : 4 ≤ d) {o C : Nat} {p nd0 : Int32} (q : lawC h o C) : M cx jX0_need d a [.ref o_asker, .ref o, .ref o_wall, .int p, .int nd0] h (RQ (.int (ndR o p C 0 nd0 h).1) (ndR o p C 0 nd0 h).2) := by
  have loop : ∀ n c nd g, n + c = C → lawC g o C → hN g = hN h → ndR o p n c nd g = ndR o p C 0 nd0 h → E cx jX0_need d a 7 [some (.ref o_asker), some (.ref o), some (.ref o_wall), some (.int p), some (.int nd0), some (.int nd), some (.int (nI c)), none, none] [] g (RQ (.int (ndR o p C 0 nd0 h).1) (ndR o p C 0 nd0 h).2) := by
    intro n
    induction n with
    | zero =>
      intro c nd g hc qg en e
      have hC := qg.2.1
      have qc : hI g o 2 = nI C := qg.2.2.1
      refine eX0_need (And.intro qg.1.1 (And.intro (fun _ => eX0_need (RQ_eq' ?_ ?_)) (fun z => absurd ?_ z)))
      · rw [← e]; rfl
      · rw [← e]; rfl
      · rw [qc]; exact nI_le (by omega) (by omega)
    | succ n ih =>
      intro c nd g hc qg en e
      have hC := qg.2.1
      have qc : hI g o 2 = nI C := qg.2.2.1
      have go : ∀ g' nd' w, ndS g o p c nd = (nd', g') → E cx jX0_need d a 83 [some (.ref o_asker), some (.ref o), some (.ref o_wall), some (.int p), some (.int nd0), some (.int nd'), some (.int (nI c)), w, none] [] g' (RQ (.int (ndR o p C 0 nd0 h).1) (ndR o p C 0 nd0 h).2) := fun g' nd' w es => by
        have i1 := ih (c + 1) (ndS g o p c nd).1 (ndS g o p c nd).2 (by omega) (lawC_same sameA_ndS qg) ((sameA_N sameA_ndS).trans en) (by rw [← e, ndR])
        rw [es] at i1
        refine e_clr 7 (eX0_need (e_eq i1 ?_ rfl rfl))
        rw [nI_succ]; rfl
      refine eX0_need (And.intro qg.1.1 (And.intro (fun z => absurd z ?_) (fun _ => wcV (m_isEmptyPart (by omega) qg.1) (And.intro (fun z => go g nd _ ?_) (fun z => wcV (m_isSo (by omega) qg.1 ?_) (And.intro (fun y => go _ nd _ ?_) (fun y => wcV (m_value (by omega) (lawok_same sameA_isSoH qg.1) ?_) (And.intro (fun x => eX0_need (And.intro ⟨Nat.le_of_ble_eq_true rfl, by omega⟩ (And.intro ⟨Nat.le_of_ble_eq_true rfl, by omega⟩ (eX0_need (go _ _ _ ?_))))) (fun x => eX0_need (go _ _ _ ?_))) (hok := Or.inr (sameA_N sameA_vlH)))) (hok := Or.inr (sameA_N sameA_isSoH)))) qg.1.1)))
      · rw [qc]; exact nI_ge (by omega) (by omega)
      · have z : sEmp g o (nI (2 * c)) := by have := b2i_n z; rw [two_c] at this; exact this
        unfold ndS; rw [if_pos z]
      · rw [two_c1]; exact lawC_vok qg (by omega)
      · have z : ¬ sEmp g o (nI (2 * c)) := by have := b2i_0.mp z; rw [two_c] at this; exact this
        have y := b2i_0.mp y
        rw [two_c1] at y ⊢
        unfold ndS; rw [if_neg z, if_neg y]
      · rw [two_c]; exact lawC_vok (lawC_same sameA_isSoH qg) (by omega)
      · have z : ¬ sEmp g o (nI (2 * c)) := by have := b2i_0.mp z; rw [two_c] at this; exact this
        have y := b2i_n y
        rw [two_c1, two_c] at *
        unfold ndS; rw [if_neg z, if_pos y, if_pos x]; rfl
      · have z : ¬ sEmp g o (nI (2 * c)) := by have := b2i_0.mp z; rw [two_c] at this; exact this
        have y := b2i_n y
        rw [two_c1, two_c] at *
        unfold ndS; rw [if_neg z, if_pos y, if_neg x]
  exact sX0_need rfl (loop C 0 nd0 h (by omega) q rfl rfl)
end T22
end
section
/-! the stack machine without a heap -/
abbrev AS : Type := List Int64 × Int32
def apush (x : AS) (v : Int64) : AS := if x.1.length < 64 then (v :: x.1, x.2) else x
def apopV (x : AS) : Int64 := match x.1 with | [] => 0 | v :: _ => v
def apopS (x : AS) : AS := match x.1 with | [] => x | _ :: t => (t, x.2)
def ajF (br : Int32) (k : Int32) (x y : Int64) : Prop := (¬ br = 0 ∨ (¬ k = 2 ∧ ¬ k = 3 ∧ ¬ k = 4 ∧ y = 0)) ∨ 1000000000 < jnV k x y ∨ jnV k x y < -1000000000
noncomputable def ajn (x : AS) (k : Int32) (u v : Int64) : AS := @ite _ (jnC k) (Classical.propDecidable _) x (x.1, b2i (ajF x.2 k u v))
noncomputable def astp (F S : Int32 → Int32) (p i : Int32) (x : AS) : AS × Int32 :=
  if S i >>> ((10 : Int32) &&& 31) = 0 then (apush x (S i &&& 1023).toInt64, i)
  else if S i >>> ((10 : Int32) &&& 31) = 1 then (apush x (if S i &&& 1023 = 7 then p.toInt64 else (F (S i &&& 1023)).toInt64), i)
  else if S i >>> ((10 : Int32) &&& 31) = 9 then (apush (apopS x) (if apopV x = 0 then 1 else 0), i)
  else if S i >>> ((10 : Int32) &&& 31) = 10 ∨ S i >>> ((10 : Int32) &&& 31) = 11 then @ite _ (jmp (S i >>> ((10 : Int32) &&& 31)) (apopV x)) (Classical.propDecidable _) (apush (apopS x) (apopV x), if i < (S i &&& 1023) - 1 then (S i &&& 1023) - 1 else i) (apopS x, i)
  else (apush (ajn (apopS (apopS x)) (S i >>> ((10 : Int32) &&& 31)) (apopV (apopS x)) (apopV x)) (jnV (S i >>> ((10 : Int32) &&& 31)) (apopV (apopS x)) (apopV x)), i)
noncomputable def aval (F S : Int32 → Int32) (p T : Int32) : Nat → Int32 → AS → AS
  | 0, _, x => x
  | n + 1, i, x => if T ≤ i then x else if ¬ x.2 = 0 then x else aval F S p T n ((astp F S p i x).2 + 1) (astp F S p i x).1
/-- the asker's heap holds that stack -/
def aRel (g : Hp) (x : AS) : Prop := hI g o_asker 1 = nI x.1.length ∧ x.1.length ≤ 64 ∧ (∀ i, i < x.1.length → hJ g o_asker_stack i = x.1.reverse.getD i 0) ∧ hI g o_asker 2 = x.2
section T23
variable {h g : Hp}
theorem rel_push {x : AS} {v : Int64} (q : aRel g x) : aRel (pushH g v) (apush x v) := by
  obtain ⟨q1, q2, q3, q4⟩ := q
  unfold pushH apush
  by_cases hl : x.1.length < 64
  · rw [if_pos hl, if_pos ⟨by rw [q1]; exact nI_pos' (by omega), by rw [q1]; exact nI_lt (b := 64) hl (by decide)⟩]
    refine ⟨?_, by simp; omega, fun i hi => ?_, ?_⟩
    · rw [rd_same, q1, List.length_cons, nI_succ]
    · have e1 : hJ (wI (wJ g o_asker_stack (hI g o_asker 1).toNatClampNeg v) o_asker 1 (hI g o_asker 1 + 1)) o_asker_stack i = if i = x.1.length then v else hJ g o_asker_stack i := by
        show up2 g.2.1 o_asker_stack _ v o_asker_stack i = _
        rw [q1, nI_clamp (by omega)]
        by_cases hi2 : i = x.1.length <;> simp [up2, hi2]
      rw [e1]
      simp only [List.length_cons] at hi
      by_cases hi2 : i = x.1.length
      · subst hi2; simp
      · have hi3 : i < x.1.length := by omega
        simp [hi2, q3 i hi3, List.getElem?_append, hi3]
    · rw [rd_k (by decide)]; exact q4
  · rw [if_neg hl, if_neg (fun z => ?_)]
    · exact ⟨q1, q2, q3, q4⟩
    · have : x.1.length = 64 := by omega
      rw [q1, this] at z; exact absurd z.2 (by decide)
theorem rel_popV {x : AS} (q : aRel g x) : popV g = apopV x := by
  obtain ⟨q1, q2, q3, q4⟩ := q
  unfold popV apopV
  match hx : x.1, q1, q2, q3 with
  | [], q1, q2, q3 =>
    have z : popE g := Or.inl (by rw [q1]; decide)
    rw [if_pos z]
  | v :: t, q1, q2, q3 =>
    simp only [List.length_cons] at q1 q2 q3
    have n : ¬ popE g := by
      rintro (z | z)
      · rw [q1] at z; exact absurd z (nI_nlt (a := t.length + 1) (b := 1) (by omega) (by omega))
      · rw [q1] at z; exact absurd z (nI_nlt (a := 64) (b := t.length + 1) (by omega) (by decide))
    rw [if_neg n, q1, nI_pred, nI_clamp (by omega), q3 t.length (by omega)]
    simp
theorem rel_popS {x : AS} (q : aRel g x) : aRel (popH g) (apopS x) := by
  obtain ⟨q1, q2, q3, q4⟩ := q
  obtain ⟨l, b⟩ := x
  unfold popH apopS
  match l, q1, q2, q3, q4 with
  | [], q1, q2, q3, q4 =>
    have z : popE g := Or.inl (by rw [q1]; show nI 0 < 1; decide)
    rw [if_pos z]; exact ⟨q1, q2, q3, q4⟩
  | v :: t, q1, q2, q3, q4 =>
    simp only [List.length_cons] at q1 q2 q3
    have n : ¬ popE g := by
      rintro (z | z)
      · rw [q1] at z; exact absurd z (nI_nlt (a := t.length + 1) (b := 1) (by omega) (by omega))
      · rw [q1] at z; exact absurd z (nI_nlt (a := 64) (b := t.length + 1) (by omega) (by decide))
    rw [if_neg n]
    refine ⟨?_, by show t.length ≤ 64; omega, fun i hi => ?_, ?_⟩
    · rw [rd_same, q1, nI_pred]
    · have hi : i < t.length := hi
      have := q3 i (by omega)
      show hJ g o_asker_stack i = _
      rw [this]
      simp [List.getElem?_append, hi]
    · rw [rd_k (by decide)]; exact q4
theorem rel_jn {x : AS} {k : Int32} {u v : Int64} (q : aRel g x) : aRel (jnH g k u v) (ajn x k u v) := by
  unfold jnH ajn
  by_cases c : jnC k
  · rw [if_pos c, if_pos c]; exact q
  · rw [if_neg c, if_neg c]
    obtain ⟨q1, q2, q3, q4⟩ := q
    refine ⟨?_, q2, q3, ?_⟩
    · rw [rd_k (by decide)]; exact q1
    · rw [rd_same]
      show b2i (jnF g k u v) = b2i (ajF x.2 k u v)
      unfold jnF ajF; rw [q4]
theorem rel_vst {x : AS} {o : Nat} {p i : Int32} (q : aRel g x) : aRel (vst g o p i).1 (astp (fFact g p) (fStep g o) p i x).1 ∧ (vst g o p i).2 = (astp (fFact g p) (fStep g o) p i x).2 := by
  have v1 := rel_popV q
  have s1 := rel_popS q
  have v2 := rel_popV s1
  have s2 := rel_popS s1
  unfold vst astp stK stN
  rw [v1, v2]
  split
  · exact ⟨rel_push q, rfl⟩
  split
  · exact ⟨rel_push q, rfl⟩
  split
  · exact ⟨rel_push s1, rfl⟩
  split
  · split
    · exact ⟨rel_push s1, rfl⟩
    · exact ⟨s1, rfl⟩
  · exact ⟨rel_push (rel_jn s2), rfl⟩
theorem fFact_A {p w : Int32} (x : sameA h g) : fFact g p w = fFact h p w := fFact_cong (fun k => x.1 o_wall_facts k (by decide)) p w
theorem fStep_A {o : Nat} {i : Int32} (x : sameA h g) (q : 126 ≤ o) : fStep g o i = fStep h o i := by
  unfold fStep; rw [sameA_L x, x.1 (o + 1) _ (by show o + 1 ≠ 85; omega)]
theorem rel_val {o : Nat} {p T : Int32} (q : 126 ≤ o) : ∀ (n : Nat) (i : Int32) (g : Hp) (x : AS), sameA h g → aRel g x → aRel (valR o p T n i g) (aval (fFact h p) (fStep h o) p T n i x) := by
  intro n
  induction n with
  | zero => intro i g x _ r; exact r
  | succ n ih =>
    intro i g x sa r
    have e1 : fFact g p = fFact h p := funext fun w => fFact_A sa
    have e2 : fStep g o = fStep h o := funext fun w => fStep_A sa q
    have rv := rel_vst (o := o) (p := p) (i := i) r
    rw [e1, e2] at rv
    unfold valR aval
    split
    · exact r
    rw [r.2.2.2]
    split
    · exact r
    · rw [rv.2]; exact ih _ _ _ (sameA_t sa sameA_vst) rv.1
/-- the value of a part, and whether it broke, without a heap -/
noncomputable def pvS (h : Hp) (o : Nat) (part p : Int32) : AS := aval (fFact h p) (fStep h o) p (fStart h o (part + 1)) 401 (fStart h o part) ([], 0)
noncomputable def pvV (h : Hp) (o : Nat) (part p : Int32) : Int64 := apopV (pvS h o part p)
noncomputable def pvB (h : Hp) (o : Nat) (part p : Int32) : Int32 := (pvS h o part p).2
theorem vl_pv {o : Nat} {part p : Int32} (q : 126 ≤ o) (sa : sameA h g) : vlV g o part p = pvV h o part p ∧ hI (vlH g o part p) o_asker 2 = pvB h o part p := by
  have r0 : aRel (as0 g) ([], 0) := ⟨by show hI (wI (wI g o_asker 1 0) o_asker 2 0) o_asker 1 = 0; rw [rd_k (by decide), rd_same], by decide, fun i hi => by simp at hi, rd_same⟩
  have r := rel_val (h := h) (p := p) (T := fStart h o (part + 1)) q 401 (fStart h o part) (as0 g) ([], 0) (sameA_t sa sameA_as0) r0
  have e : vlG g o part p = valR o p (fStart h o (part + 1)) 401 (fStart h o part) (as0 g) := by unfold vlG; rw [fStart_same sa q, fStart_same sa q]
  unfold vlV vlH pvV pvB
  rw [e]
  refine ⟨rel_popV r, ?_⟩
  have := (rel_popS r).2.2.2
  rw [this]
  unfold apopS pvS
  split <;> rfl
def pSo (h : Hp) (o : Nat) (part p : Int32) : Prop := sEmp h o part ∨ (¬ pvV h o part p = 0 ∧ pvB h o part p = 0)
theorem isSo_p {o : Nat} {part p : Int32} (q : 126 ≤ o) (sa : sameA h g) : isSoP g o part p ↔ pSo h o part p := by
  unfold isSoP pSo sEmp
  rw [fStart_same sa q, fStart_same sa q, (vl_pv q sa).1, (vl_pv q sa).2]
theorem sEmp_A {o : Nat} {part : Int32} (q : 126 ≤ o) (sa : sameA h g) : sEmp g o part ↔ sEmp h o part := by
  unfold sEmp; rw [fStart_same sa q, fStart_same sa q]
/-- bound by one of the first clauses -/
def pBd (h : Hp) (o C : Nat) (p : Int32) : Prop := ∃ c, c < C ∧ sEmp h o (nI (2 * c)) ∧ pSo h o (nI (2 * c + 1)) p
theorem bd_p {o : Nat} {p : Int32} (q : 126 ≤ o) : ∀ (n c : Nat) (g : Hp), sameA h g → ((bdR o p n c g).1 ↔ ∃ e, c ≤ e ∧ e < c + n ∧ sEmp h o (nI (2 * e)) ∧ pSo h o (nI (2 * e + 1)) p) := by
  intro n
  induction n with
  | zero => intro c g _; simp [bdR]; intro e h1 h2; omega
  | succ n ih =>
    intro c g sa
    have hb : bdQ g o p c ↔ sEmp h o (nI (2 * c)) ∧ pSo h o (nI (2 * c + 1)) p := by
      unfold bdQ; rw [sEmp_A q sa, isSo_p q sa]
    unfold bdR
    split
    · rename_i z
      exact ⟨fun _ => ⟨c, Nat.le_refl _, by omega, hb.mp z⟩, fun _ => trivial⟩
    · rename_i z
      rw [ih (c + 1) _ (sameA_t sa sameA_bdN)]
      constructor
      · rintro ⟨e, h1, h2, h3⟩; exact ⟨e, by omega, by omega, h3⟩
      · rintro ⟨e, h1, h2, h3⟩
        by_cases he : e = c
        · subst he; exact absurd (hb.mpr h3) z
        · exact ⟨e, by omega, by omega, h3⟩
theorem bd_pBd {o C : Nat} {p : Int32} (q : 126 ≤ o) (sa : sameA h g) : (bdR o p C 0 g).1 ↔ pBd h o C p := by
  rw [bd_p q C 0 g sa]; unfold pBd; simp
/-- what is needed behind the clauses from c on -/
noncomputable def pNs (h : Hp) (o : Nat) (p : Int32) (c : Nat) (nd : Int32) : Int32 :=
  @ite _ (¬ sEmp h o (nI (2 * c)) ∧ pSo h o (nI (2 * c + 1)) p ∧ pvB h o (nI (2 * c)) p = 0) (Classical.propDecidable _) (clampL (pvV h o (nI (2 * c)) p)) nd
noncomputable def pNd (h : Hp) (o : Nat) (p : Int32) : Nat → Nat → Int32 → Int32
  | 0, _, nd => nd
  | n + 1, c, nd => pNd h o p n (c + 1) (pNs h o p c nd)
theorem nd_s {o c : Nat} {p nd : Int32} (q : 126 ≤ o) (sa : sameA h g) : (ndS g o p c nd).1 = pNs h o p c nd := by
  unfold ndS pNs
  by_cases c1 : sEmp g o (nI (2 * c))
  · rw [if_pos c1, if_neg (fun z => z.1 ((sEmp_A q sa).mp c1))]
  · rw [if_neg c1]
    by_cases c2 : isSoP g o (nI (2 * c + 1)) p
    · have v := vl_pv (part := nI (2 * c)) (p := p) q (sameA_t sa (sameA_isSoH (o := o) (part := nI (2 * c + 1)) (p := p)))
      rw [if_pos c2]
      by_cases c3 : pvB h o (nI (2 * c)) p = 0
      · have A : ¬ sEmp h o (nI (2 * c)) ∧ pSo h o (nI (2 * c + 1)) p ∧ pvB h o (nI (2 * c)) p = 0 := ⟨fun z => c1 ((sEmp_A q sa).mpr z), (isSo_p q sa).mp c2, c3⟩
        rw [if_pos A]
        show (if hI (vlH (isSoH g o (nI (2 * c + 1)) p) o (nI (2 * c)) p) o_asker 2 = 0 then _ else nd) = _
        rw [v.2, if_pos c3, v.1]
      · have A : ¬ (¬ sEmp h o (nI (2 * c)) ∧ pSo h o (nI (2 * c + 1)) p ∧ pvB h o (nI (2 * c)) p = 0) := fun z => c3 z.2.2
        rw [if_neg A]
        show (if hI (vlH (isSoH g o (nI (2 * c + 1)) p) o (nI (2 * c)) p) o_asker 2 = 0 then _ else nd) = _
        rw [v.2, if_neg c3]
    · rw [if_neg c2, if_neg (fun z => c2 ((isSo_p q sa).mpr z.2.1))]
theorem nd_p {o : Nat} {p : Int32} (q : 126 ≤ o) : ∀ (n c : Nat) (nd : Int32) (g : Hp), sameA h g → (ndR o p n c nd g).1 = pNd h o p n c nd := by
  intro n
  induction n with
  | zero => intro c nd g _; rfl
  | succ n ih =>
    intro c nd g sa
    rw [ndR, pNd, ih _ _ _ (sameA_t sa sameA_ndS), nd_s q sa]
end T23
end
section
/-! the frame made anew -/
/-- the same wall and laws -/
def sameW (h g : Hp) : Prop := (∀ k, hI g o_wall k = hI h o_wall k) ∧ (∀ k, hI g o_wall_facts k = hI h o_wall_facts k) ∧ (∀ k, hI g o_wall_terms k = hI h o_wall_terms k) ∧ (∀ o k, 126 ≤ o → hI g o k = hI h o k) ∧ g.2.2 = h.2.2
/-- all but the frame and its asker -/
def sameF (h g : Hp) : Prop := (∀ o k, ¬ (84 ≤ o ∧ o ≤ 90) → hI g o k = hI h o k) ∧ (∀ o k, ¬ (84 ≤ o ∧ o ≤ 90) → hJ g o k = hJ h o k) ∧ g.2.2 = h.2.2
section T24
variable {cx : Cx} {d a : Nat} {h g : Hp}
theorem sameF_W (x : sameF h g) : sameW h g := ⟨fun k => x.1 _ k (by decide), fun k => x.1 _ k (by decide), fun k => x.1 _ k (by decide), fun o k ho => x.1 o k (by omega), x.2.2⟩
theorem sameF_r : sameF h h := ⟨fun _ _ _ => rfl, fun _ _ _ => rfl, rfl⟩
theorem sameF_t {f : Hp} (x : sameF h g) (y : sameF g f) : sameF h f := ⟨fun o k n => (y.1 o k n).trans (x.1 o k n), fun o k n => (y.2.1 o k n).trans (x.2.1 o k n), y.2.2.trans x.2.2⟩
theorem sameF_wI {o k : Nat} {v : Int32} (ho : 84 ≤ o ∧ o ≤ 90) : sameF h (wI h o k v) := ⟨fun p q n => rd_o (fun e => n (by rw [e]; exact ho)), fun _ _ _ => rfl, rfl⟩
theorem sameA_F (x : sameA h g) : sameF h g := ⟨fun o k n => x.1 o k (fun e => n (by rw [e]; decide)), fun o k n => x.2.1 o k (fun e => n (by rw [e]; decide)), x.2.2⟩
theorem fFact_W (x : sameW h g) {p w : Int32} : fFact g p w = fFact h p w := fFact_cong x.2.1 p w
theorem fTerm_W (x : sameW h g) {w : Int32} : fTerm g w = fTerm h w := by unfold fTerm; rw [x.2.2.1]
theorem sPlace_W (x : sameW h g) {p : Int32} : sPlace g p ↔ sPlace h p := by unfold sPlace; rw [x.1, x.1]
theorem fCov_W (x : sameW h g) {p q r s t : Int32} : fCov g p q r s t ↔ fCov h p q r s t := by unfold fCov; simp only [fFact_W x]
theorem nbP_W (x : sameW h g) {p : Int32} {k : Nat} : nbP g p k ↔ nbP h p k := by unfold nbP; simp only [fFact_W x, sPlace_W x, fCov_W x]
theorem bitsR_cong {P R : Nat → Prop} (e : ∀ k, P k ↔ R k) : ∀ n, bitsR P n = bitsR R n := by
  intro n
  induction n with
  | zero => rfl
  | succ n ih =>
    rcases Classical.em (P n) with c | c
    · rw [bitsR_t c, bitsR_t ((e n).mp c), ih]
    · rw [bitsR_f c, bitsR_f (fun z => c ((e n).mpr z)), ih]
theorem fHeld_W (x : sameW h g) {p : Int32} : fHeld g p = fHeld h p := by unfold fHeld; simp only [fFact_W x, fTerm_W x]
theorem W_N (x : sameW h g) : hN g = hN h := congrArg (fun z => z.2.2) x.2.2.2.2
theorem W_L (x : sameW h g) (o : Nat) : hL g o = hL h o := congrArg (fun z => z.2.1 o) x.2.2.2.2
theorem W_R (x : sameW h g) (o k : Nat) : hR g o k = hR h o k := congrArg (fun z => z.1 o k) x.2.2.2.2
theorem fStart_W (x : sameW h g) {o : Nat} {i : Int32} (q : 126 ≤ o) : fStart g o i = fStart h o i := by
  unfold fStart; rw [W_L x, W_L x, x.2.2.2.1 (o + 2) _ (by omega)]
theorem fStep_W (x : sameW h g) {o : Nat} {i : Int32} (q : 126 ≤ o) : fStep g o i = fStep h o i := by
  unfold fStep; rw [W_L x, x.2.2.2.1 (o + 1) _ (by omega)]
theorem lawok_W (x : sameW h g) {o : Nat} (q : lawok h o) : lawok g o := by
  unfold lawok lawp at *; rw [W_N x, W_L x, W_L x]; exact q
theorem lawC_W (x : sameW h g) {o C : Nat} (q : lawC h o C) : lawC g o C := ⟨lawok_W x q.1, q.2.1, by rw [x.2.2.2.1 o 2 q.1.1.1]; exact q.2.2.1, fun k hk => by rw [fStart_W x q.1.1.1]; exact q.2.2.2 k hk⟩
theorem pvS_W (x : sameW h g) {o : Nat} {part p : Int32} (q : 126 ≤ o) : pvS g o part p = pvS h o part p := by
  have e1 : fFact g p = fFact h p := funext fun w => fFact_W x
  have e2 : fStep g o = fStep h o := funext fun w => fStep_W x q
  unfold pvS; rw [e1, e2, fStart_W x q, fStart_W x q]
theorem sEmp_W (x : sameW h g) {o : Nat} {part : Int32} (q : 126 ≤ o) : sEmp g o part ↔ sEmp h o part := by unfold sEmp; rw [fStart_W x q, fStart_W x q]
theorem pSo_W (x : sameW h g) {o : Nat} {part p : Int32} (q : 126 ≤ o) : pSo g o part p ↔ pSo h o part p := by unfold pSo pvV pvB; rw [sEmp_W x q, pvS_W x q]
theorem pBd_W (x : sameW h g) {o C : Nat} {p : Int32} (q : 126 ≤ o) : pBd g o C p ↔ pBd h o C p := by unfold pBd; simp only [sEmp_W x q, pSo_W x q]
theorem pNs_W (x : sameW h g) {o c : Nat} {p nd : Int32} (q : 126 ≤ o) : pNs g o p c nd = pNs h o p c nd := by
  have e : (¬ sEmp g o (nI (2 * c)) ∧ pSo g o (nI (2 * c + 1)) p ∧ pvB g o (nI (2 * c)) p = 0) ↔ (¬ sEmp h o (nI (2 * c)) ∧ pSo h o (nI (2 * c + 1)) p ∧ pvB h o (nI (2 * c)) p = 0) := by
    unfold pvB; rw [sEmp_W x q, pSo_W x q, pvS_W x q]
  unfold pNs pvV
  rcases Classical.em (¬ sEmp h o (nI (2 * c)) ∧ pSo h o (nI (2 * c + 1)) p ∧ pvB h o (nI (2 * c)) p = 0) with z | z
  · rw [if_pos z, if_pos (e.mpr z), pvS_W x q]
  · rw [if_neg z, if_neg (fun y => z (e.mp y))]
theorem pNd_W (x : sameW h g) {o : Nat} {p : Int32} (q : 126 ≤ o) : ∀ (n c : Nat) (nd : Int32), pNd g o p n c nd = pNd h o p n c nd := by
  intro n
  induction n with
  | zero => intro c nd; rfl
  | succ n ih => intro c nd; rw [pNd, pNd, pNs_W x q, ih]
/-- the law in force, its cell and clauses, or none -/
def inF (h : Hp) (L : Option (Nat × Nat)) : Prop := match L with
  | none => hI h o_wall 7 = -1
  | some q => ∃ k, k < 6 ∧ hI h o_wall 7 = nI k ∧ hR h o_wall_laws k = some q.1 ∧ lawC h q.1 q.2
noncomputable def dNeed (h : Hp) (L : Option (Nat × Nat)) (p : Int32) : Int32 := match L with
  | none => fTerm h 0
  | some q => pNd h q.1 p q.2 0 (fTerm h 0)
def dBnd (h : Hp) (L : Option (Nat × Nat)) (p : Int32) : Prop := match L with
  | none => False
  | some q => pBd h q.1 q.2 p
noncomputable def dLack (h : Hp) (L : Option (Nat × Nat)) (p : Int32) : Int32 := @ite _ (dBnd h L p) (Classical.propDecidable _) 0 (dNeed h L p - fHeld h p)
/-- the frame's tables for the first n places -/
def frOk (h : Hp) (L : Option (Nat × Nat)) (n : Nat) (g : Hp) : Prop :=
  (∀ k, k < n → (sPlace h (nI k) → hI g o_fr_beside k = bitsR (nbP h (nI k)) 22 ∧ hI g o_fr_held k = fHeld h (nI k) ∧ hI g o_fr_needs k = dNeed h L (nI k) ∧ hI g o_fr_lack k = dLack h L (nI k)) ∧ (¬ sPlace h (nI k) → hI g o_fr_beside k = 0)) ∧
  hI g o_frame 5 = bitsR (fun k => sPlace h (nI k) ∧ dBnd h L (nI k)) n
def renQ (h : Hp) (L : Option (Nat × Nat)) : Option Value → Hp → Prop := fun r g => r = none ∧ sameF h g ∧ frOk h L 22 g
theorem bit_of_bitsR {P : Nat → Prop} : ∀ (n i : Nat), n ≤ 32 → i < 32 → (bt (bitsR P n) i = true ↔ i < n ∧ P i) := by
  intro n
  induction n with
  | zero => intro i _ _; simp [bitsR, b_0]
  | succ n ih =>
    intro i hn hi
    have e1 : bt ((1 : Int32) <<< (nI n &&& 31)) i = decide (i = n) := by
      rw [b_shl n (by omega) 1 hi]
      by_cases c : n ≤ i
      · by_cases c2 : i = n
        · subst c2; simp; decide
        · have : bt 1 (i - n) = false := by
            have : ∀ m, m < 32 → m ≠ 0 → bt 1 m = false := by decide +kernel
            exact this (i - n) (by omega) (by omega)
          simp [c, c2, this]
      · have : ¬ i = n := by omega
        simp [c, this]
    rcases Classical.em (P n) with c | c
    · rw [bitsR_t c, b_or, e1, Bool.or_eq_true, ih i (by omega) hi, decide_eq_true_eq]
      constructor
      · rintro (z | z)
        · exact ⟨by omega, z.2⟩
        · subst z; exact ⟨by omega, c⟩
      · rintro ⟨z1, z2⟩
        by_cases c2 : i = n
        · exact Or.inr c2
        · exact Or.inl ⟨by omega, z2⟩
    · rw [bitsR_f c, ih i (by omega) hi]
      constructor
      · rintro ⟨z1, z2⟩; exact ⟨by omega, z2⟩
      · rintro ⟨z1, z2⟩
        by_cases c2 : i = n
        · subst c2; exact absurd z2 c
        · exact ⟨by omega, z2⟩
/-- the test of a bit by a shift -/
theorem shr_bt {s : Int32} {k : Nat} (hk : k < 32) : ¬ (s >>> (nI k &&& 31)) &&& 1 = 0 ↔ bt s k = true := by
  have e1 : ∀ i, i < 32 → bt ((s >>> (nI k &&& 31)) &&& 1) i = (decide (i = 0) && bt s k) := fun i hi => by
    rw [b_and, b_sshr k hk s hi]
    by_cases c : i = 0
    · subst c
      have : bt 1 0 = true := by decide
      simp [this, hk]
    · have : bt 1 i = false := by
        have : ∀ m, m < 32 → m ≠ 0 → bt 1 m = false := by decide +kernel
        exact this i hi c
      simp [this, c]
  constructor
  · intro z
    by_cases c : bt s k = true
    · exact c
    · exfalso; apply z
      apply b_ext
      intro i hi
      rw [e1 i hi, b_0]
      simp at c; simp [c]
  · intro c z
    have := e1 0 (by decide)
    rw [z, b_0, c] at this
    simp at this
/-- one place's row of the tables -/
def rowOk (h : Hp) (L : Option (Nat × Nat)) (g : Hp) (k : Nat) : Prop := (sPlace h (nI k) → hI g o_fr_beside k = bitsR (nbP h (nI k)) 22 ∧ hI g o_fr_held k = fHeld h (nI k) ∧ hI g o_fr_needs k = dNeed h L (nI k) ∧ hI g o_fr_lack k = dLack h L (nI k)) ∧ (¬ sPlace h (nI k) → hI g o_fr_beside k = 0)
theorem row_same {L : Option (Nat × Nat)} {g f : Hp} {k : Nat} (q : rowOk h L g k) (e : ∀ o, 87 ≤ o → o ≤ 90 → hI f o k = hI g o k) : rowOk h L f k := by
  unfold rowOk at *
  rw [e o_fr_beside (by decide) (by decide), e o_fr_held (by decide) (by decide), e o_fr_needs (by decide) (by decide), e o_fr_lack (by decide) (by decide)]
  exact q
theorem row_k {L : Option (Nat × Nat)} {g : Hp} {i k o : Nat} {v : Int32} (q : rowOk h L g i) (n : i ≠ k) : rowOk h L (wI g o k v) i := row_same q (fun _ _ _ => rd_k n)
theorem row_o {L : Option (Nat × Nat)} {g : Hp} {i k o : Nat} {v : Int32} (q : rowOk h L g i) (n : o < 87) : rowOk h L (wI g o k v) i := row_same q (fun p h1 _ => rd_o (by omega))
theorem row_A {L : Option (Nat × Nat)} {g f : Hp} {i : Nat} (q : rowOk h L g i) (x : sameA g f) : rowOk h L f i := row_same q (fun p h1 _ => x.1 p i (by show p ≠ 85; omega))
noncomputable abbrev bdB (h : Hp) (L : Option (Nat × Nat)) : Nat → Prop := fun k => sPlace h (nI k) ∧ dBnd h L (nI k)
theorem wIc {g : Hp} {o i k : Nat} {v : Int32} (e : i = k) : wI g o i v = wI g o k v := by rw [e]
theorem e_renewTail (hd : 2 ≤ d) {L : Option (Nat × Nat)} {k : Nat} {lv : Value} {G : Hp} (hk : k < 22) (sf : sameF h G) (rows : ∀ i, i < k → rowOk h L G i) (pl : sPlace h (nI k)) (f1 : hI G o_fr_beside k = bitsR (nbP h (nI k)) 22) (f2 : hI G o_fr_held k = fHeld h (nI k)) (f3 : hI G o_fr_needs k = dNeed h L (nI k)) (f4 : hI G o_frame 5 = bitsR (bdB h L) (k + 1))
    (K : ∀ g, sameF h g → frOk h L (k + 1) g → E cx jX2_renew d a 151 [some (.ref o_frame), some (.ref o_wall), some lv, some (.int (nI k))] [] g (renQ h L)) :
    E cx jX2_renew d a 120 [some (.ref o_frame), some (.ref o_wall), some lv, some (.int (nI k))] [] G (renQ h L) := by
  have i1 : vp_in (nI k) 22 := vp_in_nI hk (by decide)
  have c1 : (nI k).toNatClampNeg = k := nI_clamp (by omega)
  have bnd : fBnd G (nI k) ↔ dBnd h L (nI k) := by
    unfold fBnd
    rw [f4, shr_bt (by omega), bit_of_bitsR _ _ (by omega) (by omega)]
    have : (0 : Int32) ≤ nI k ∧ nI k ≤ 21 := ⟨nI_pos' (by omega), nI_le (b := 21) (by omega) (by decide)⟩
    constructor
    · exact fun z => z.2.2.2
    · exact fun z => ⟨this, by omega, pl, z⟩
  have fin : ∀ v, v = dLack h L (nI k) → E cx jX2_renew d a 150 [some (.ref o_frame), some (.ref o_wall), some lv, some (.int (nI k))] [.int v, .int (nI k), .ref o_fr_lack] G (renQ h L) := fun v ev => by
    refine eX2_renew (And.intro i1 ?_)
    have e : wI G o_fr_lack (nI k).toNatClampNeg v = wI G o_fr_lack k v := by rw [c1]
    refine wp_hp e (K _ (sameF_t sf (sameF_wI (by decide))) ⟨fun i hi => ?_, ?_⟩)
    · rcases Nat.lt_succ_iff_lt_or_eq.mp hi with hi | rfl
      · exact row_k (rows i hi) (by omega)
      · exact ⟨fun _ => ⟨by rw [rd_o (by decide)]; exact f1, by rw [rd_o (by decide)]; exact f2, by rw [rd_o (by decide)]; exact f3, by rw [rd_same]; exact ev⟩, fun z => absurd pl z⟩
    · rw [rd_o (by decide)]; exact f4
  refine eX2_renew (wcV (m_isBoundF (by omega)) (And.intro (fun z => eX2_renew (And.intro i1 (And.intro i1 (fin _ ?_)))) (fun z => fin 0 ?_)))
  · show hI G o_fr_needs (nI k).toNatClampNeg - hI G o_fr_held (nI k).toNatClampNeg = _
    rw [c1, f2, f3]
    unfold dLack; rw [if_neg (fun y => b2i_0.mp z (bnd.mpr y))]
  · unfold dLack; rw [if_pos (bnd.mp (b2i_n z))]
theorem m_renewN (hd : 6 ≤ d) (hL : hI h o_wall 7 = -1) : M cx jX2_renew d a [.ref o_frame, .ref o_wall] h (renQ h (none)) := by
  have loop : ∀ n k g, n + k = 22 → sameF h g → frOk h (none) k g → E cx jX2_renew d a 12 [some (.ref o_frame), some (.ref o_wall), some .null, some (.int (nI k))] [] g (renQ h (none)) := by
    intro n
    induction n with
    | zero =>
      intro k g hk sf fo
      obtain rfl : k = 22 := by omega
      exact eX2_renew (And.intro (fun _ => eX2_renew ⟨rfl, sf, fo⟩) (fun q => absurd (nI_le (a := 22) (b := 22) (Nat.le_refl _) (by decide)) q))
    | succ n ih =>
      intro k g hk sf fo
      have i1 : vp_in (nI k) 22 := vp_in_nI (by omega) (by decide)
      have c1 : (nI k).toNatClampNeg = k := nI_clamp (by omega)
      have K : ∀ g, sameF h g → frOk h (none) (k + 1) g → E cx jX2_renew d a 151 [some (.ref o_frame), some (.ref o_wall), some .null, some (.int (nI k))] [] g (renQ h (none)) := fun g sg fg => by
        refine eX2_renew (e_eq (ih (k + 1) g (by omega) sg fg) ?_ rfl rfl)
        rw [nI_succ]; rfl
      have s1 : sameF h (wI g o_fr_beside k 0) := sameF_t sf (sameF_wI (by decide))
      have w1 := sameF_W s1
      refine eX2_renew (And.intro (fun q => absurd q (nI_ge (a := k) (b := 22) (by omega) (by decide))) (fun _ => And.intro i1 (wp_hp (g := wI g o_fr_beside k 0) (wIc c1) (wcV (m_isPlace (by omega)) (And.intro (fun z => K _ s1 ?_) (fun z => ?_))))))
      · have np : ¬ sPlace h (nI k) := fun y => b2i_0.mp z ((sPlace_W w1).mpr y)
        refine ⟨fun i hi => ?_, ?_⟩
        · rcases Nat.lt_succ_iff_lt_or_eq.mp hi with hi | rfl
          · exact row_k (fo.1 i hi) (by omega)
          · exact ⟨fun y => absurd y np, fun _ => rd_same⟩
        · rw [rd_o (by decide), fo.2, bitsR_f (fun y => np y.1)]
      · have pl : sPlace h (nI k) := (sPlace_W w1).mp (b2i_n z)
        obtain ⟨g1, eg1⟩ : ∃ x, x = wI g o_fr_beside k 0 := ⟨_, rfl⟩
        rw [← eg1] at s1 w1 ⊢
        refine wcS (m_neighbours (by omega)) (And.intro i1 ?_)
        obtain ⟨g2, eg2⟩ : ∃ x, x = wI g1 o_fr_beside k (bitsR (nbP g1 (nI k)) 22) := ⟨_, rfl⟩
        have s2 : sameF h g2 := by rw [eg2]; exact sameF_t s1 (sameF_wI (by decide))
        refine wp_hp (g := g2) (by rw [eg2]; exact wIc c1) (wcS (m_heldOf (by omega)) (And.intro i1 ?_))
        obtain ⟨g3, eg3⟩ : ∃ x, x = wI g2 o_fr_held k (fHeld g2 (nI k)) := ⟨_, rfl⟩
        have s3 : sameF h g3 := by rw [eg3]; exact sameF_t s2 (sameF_wI (by decide))
        refine wp_hp (g := g3) (by rw [eg3]; exact wIc c1) (wcV (m_term (by omega)) (And.intro i1 ?_))
        obtain ⟨g4, eg4⟩ : ∃ x, x = wI g3 o_fr_needs k (fTerm g3 0) := ⟨_, rfl⟩
        have s4 : sameF h g4 := by rw [eg4]; exact sameF_t s3 (sameF_wI (by decide))
        have rows4 : ∀ i, i < k → rowOk h (none) g4 i := fun i hi => by rw [eg4, eg3, eg2, eg1]; exact row_k (row_k (row_k (row_k (fo.1 i hi) (by omega)) (by omega)) (by omega)) (by omega)
        have b4 : hI g4 o_fr_beside k = bitsR (nbP h (nI k)) 22 := by rw [eg4, eg3, eg2, rd_o (by decide), rd_o (by decide), rd_same]; exact bitsR_cong (fun i => nbP_W w1) 22
        have h4 : hI g4 o_fr_held k = fHeld h (nI k) := by rw [eg4, eg3, rd_o (by decide), rd_same]; exact fHeld_W (sameF_W s2)
        have n4 : hI g4 o_fr_needs k = fTerm h 0 := by rw [eg4, rd_same]; exact fTerm_W (sameF_W s3)
        have d4 : hI g4 o_frame 5 = bitsR (bdB h (none)) k := by rw [eg4, eg3, eg2, eg1, rd_o (by decide), rd_o (by decide), rd_o (by decide), rd_o (by decide)]; exact fo.2
        refine wp_hp (g := g4) (by rw [eg4]; exact wIc c1) ?_
        refine e_renewTail (by omega) (by omega) s4 rows4 pl b4 h4 n4 ?_ K
        rw [d4, bitsR_f (fun y => y.2)]
  refine sX2_renew rfl (wcV (m_lawInForceN (by omega) hL) ?_)
  have sz : sameF h (wI h o_frame 5 0) := sameF_wI (by decide)
  exact loop 22 0 _ rfl sz ⟨fun i hi => absurd hi (Nat.not_lt_zero i), rd_same⟩
theorem or_0 {x : Int32} : x ||| 0 = x := by
  apply b_ext; intro i hi; rw [b_or, b_0]; simp
theorem m_renewS (hd : 6 ≤ d) {o C : Nat} (hL : inF h (some (o, C))) : M cx jX2_renew d a [.ref o_frame, .ref o_wall] h (renQ h (some (o, C))) := by
  have loop : lawC h o C → ∀ n k g, n + k = 22 → sameF h g → frOk h (some (o, C)) k g → E cx jX2_renew d a 12 [some (.ref o_frame), some (.ref o_wall), some (.ref o), some (.int (nI k))] [] g (renQ h (some (o, C))) := by
    intro hC n
    induction n with
    | zero =>
      intro k g hk sf fo
      obtain rfl : k = 22 := by omega
      exact eX2_renew (And.intro (fun _ => eX2_renew ⟨rfl, sf, fo⟩) (fun q => absurd (nI_le (a := 22) (b := 22) (Nat.le_refl _) (by decide)) q))
    | succ n ih =>
      intro k g hk sf fo
      have i1 : vp_in (nI k) 22 := vp_in_nI (by omega) (by decide)
      have c1 : (nI k).toNatClampNeg = k := nI_clamp (by omega)
      have K : ∀ g, sameF h g → frOk h (some (o, C)) (k + 1) g → E cx jX2_renew d a 151 [some (.ref o_frame), some (.ref o_wall), some (.ref o), some (.int (nI k))] [] g (renQ h (some (o, C))) := fun g sg fg => by
        refine eX2_renew (e_eq (ih (k + 1) g (by omega) sg fg) ?_ rfl rfl)
        rw [nI_succ]; rfl
      have s1 : sameF h (wI g o_fr_beside k 0) := sameF_t sf (sameF_wI (by decide))
      have w1 := sameF_W s1
      refine eX2_renew (And.intro (fun q => absurd q (nI_ge (a := k) (b := 22) (by omega) (by decide))) (fun _ => And.intro i1 (wp_hp (g := wI g o_fr_beside k 0) (wIc c1) (wcV (m_isPlace (by omega)) (And.intro (fun z => K _ s1 ?_) (fun z => ?_))))))
      · have np : ¬ sPlace h (nI k) := fun y => b2i_0.mp z ((sPlace_W w1).mpr y)
        refine ⟨fun i hi => ?_, ?_⟩
        · rcases Nat.lt_succ_iff_lt_or_eq.mp hi with hi | rfl
          · exact row_k (fo.1 i hi) (by omega)
          · exact ⟨fun y => absurd y np, fun _ => rd_same⟩
        · rw [rd_o (by decide), fo.2, bitsR_f (fun y => np y.1)]
      · have pl : sPlace h (nI k) := (sPlace_W w1).mp (b2i_n z)
        obtain ⟨g1, eg1⟩ : ∃ x, x = wI g o_fr_beside k 0 := ⟨_, rfl⟩
        rw [← eg1] at s1 w1 ⊢
        refine wcS (m_neighbours (by omega)) (And.intro i1 ?_)
        obtain ⟨g2, eg2⟩ : ∃ x, x = wI g1 o_fr_beside k (bitsR (nbP g1 (nI k)) 22) := ⟨_, rfl⟩
        have s2 : sameF h g2 := by rw [eg2]; exact sameF_t s1 (sameF_wI (by decide))
        refine wp_hp (g := g2) (by rw [eg2]; exact wIc c1) (wcS (m_heldOf (by omega)) (And.intro i1 ?_))
        obtain ⟨g3, eg3⟩ : ∃ x, x = wI g2 o_fr_held k (fHeld g2 (nI k)) := ⟨_, rfl⟩
        have s3 : sameF h g3 := by rw [eg3]; exact sameF_t s2 (sameF_wI (by decide))
        refine wp_hp (g := g3) (by rw [eg3]; exact wIc c1) (wcV (m_term (by omega)) (And.intro i1 ?_))
        obtain ⟨g4, eg4⟩ : ∃ x, x = wI g3 o_fr_needs k (fTerm g3 0) := ⟨_, rfl⟩
        have s4 : sameF h g4 := by rw [eg4]; exact sameF_t s3 (sameF_wI (by decide))
        have rows4 : ∀ i, i < k → rowOk h (some (o, C)) g4 i := fun i hi => by rw [eg4, eg3, eg2, eg1]; exact row_k (row_k (row_k (row_k (fo.1 i hi) (by omega)) (by omega)) (by omega)) (by omega)
        have b4 : hI g4 o_fr_beside k = bitsR (nbP h (nI k)) 22 := by rw [eg4, eg3, eg2, rd_o (by decide), rd_o (by decide), rd_same]; exact bitsR_cong (fun i => nbP_W w1) 22
        have h4 : hI g4 o_fr_held k = fHeld h (nI k) := by rw [eg4, eg3, rd_o (by decide), rd_same]; exact fHeld_W (sameF_W s2)
        have n4 : hI g4 o_fr_needs k = fTerm h 0 := by rw [eg4, rd_same]; exact fTerm_W (sameF_W s3)
        have d4 : hI g4 o_frame 5 = bitsR (bdB h (some (o, C))) k := by rw [eg4, eg3, eg2, eg1, rd_o (by decide), rd_o (by decide), rd_o (by decide), rd_o (by decide)]; exact fo.2
        refine wp_hp (g := g4) (by rw [eg4]; exact wIc c1) ?_
        have q4 : lawC g4 o C := lawC_W (sameF_W s4) hC
        refine wcV (m_term (by omega)) (wcV (m_need (by omega) q4) (And.intro i1 ?_) (hok := Or.inr (sameA_N (sameA_ndR _ _ _ _))))
        obtain ⟨g5, eg5⟩ : ∃ x, x = (ndR o (nI k) C 0 (fTerm g4 0) g4).2 := ⟨_, rfl⟩
        have a5 : sameA g4 g5 := by rw [eg5]; exact sameA_ndR _ _ _ _
        have s5 : sameF h g5 := sameF_t s4 (sameA_F a5)
        obtain ⟨g6, eg6⟩ : ∃ x, x = wI g5 o_fr_needs k (dNeed h (some (o, C)) (nI k)) := ⟨_, rfl⟩
        have s6 : sameF h g6 := by rw [eg6]; exact sameF_t s5 (sameF_wI (by decide))
        have ev : (ndR o (nI k) C 0 (fTerm g4 0) g4).1 = dNeed h (some (o, C)) (nI k) := by
          rw [nd_p hC.1.1.1 C 0 _ g4 sameA_r, pNd_W (sameF_W s4) hC.1.1.1, fTerm_W (sameF_W s4)]; rfl
        have q6 : lawC g6 o C := lawC_W (sameF_W s6) hC
        refine wp_hp (g := g6) (by rw [eg6, eg5, ← ev]; exact wIc c1) (wcV (m_isBoundA (by omega) q6) ?_ (hok := Or.inr (sameA_N (sameA_bdR _ _ _))))
        obtain ⟨g7, eg7⟩ : ∃ x, x = (bdR o (nI k) C 0 g6).2 := ⟨_, rfl⟩
        have a7 : sameA g6 g7 := by rw [eg7]; exact sameA_bdR _ _ _
        have s7 : sameF h g7 := sameF_t s6 (sameA_F a7)
        have bd : (bdR o (nI k) C 0 g6).1 ↔ dBnd h (some (o, C)) (nI k) := by
          rw [bd_pBd hC.1.1.1 sameA_r, pBd_W (sameF_W s6) hC.1.1.1]; rfl
        have rows7 : ∀ i, i < k → rowOk h (some (o, C)) g7 i := fun i hi => row_A (by rw [eg6]; exact row_k (row_A (rows4 i hi) a5) (by omega)) a7
        have r7 : ∀ p, 87 ≤ p → p ≤ 90 → p ≠ o_fr_needs → hI g7 p k = hI g4 p k := fun p h1 h2 h3 => by
          rw [a7.1 p k (by show p ≠ 85; omega), eg6, rd_o h3, a5.1 p k (by show p ≠ 85; omega)]
        have n7 : hI g7 o_fr_needs k = dNeed h (some (o, C)) (nI k) := by rw [a7.1 _ k (by decide), eg6, rd_same]
        have d6 : hI g6 o_frame 5 = bitsR (bdB h (some (o, C))) k := by rw [eg6, rd_o (by decide), a5.1 _ 5 (by decide)]; exact d4
        have fin : ∀ w, bitsR (bdB h (some (o, C))) k ||| w = bitsR (bdB h (some (o, C))) (k + 1) → E cx jX2_renew d a 116 [some (.ref o_frame), some (.ref o_wall), some (.ref o), some (.int (nI k))] [.int w, .int (hI g6 o_frame 5), .ref o_frame] g7 (renQ h (some (o, C))) := fun w ew => by
          refine eX2_renew (e_renewTail (by omega) (by omega) (sameF_t s7 (sameF_wI (by decide))) (fun i hi => row_o (rows7 i hi) (by decide)) pl ?_ ?_ ?_ ?_ K)
          · rw [rd_o (by decide), r7 _ (by decide) (by decide) (by decide)]; exact b4
          · rw [rd_o (by decide), r7 _ (by decide) (by decide) (by decide)]; exact h4
          · rw [rd_o (by decide)]; exact n7
          · rw [rd_same, d6]; exact ew
        rw [← eg7]
        refine And.intro (fun y => eX2_renew (fin 0 ?_)) (fun y => fin _ ?_)
        · have ny : ¬ bdB h (some (o, C)) k := fun x => b2i_0.mp y (bd.mpr x.2)
          rw [bitsR_f ny]; exact or_0
        · rw [bitsR_t (show bdB h (some (o, C)) k from ⟨pl, bd.mp (b2i_n y)⟩)]
  obtain ⟨kf, hkf, ef, er, hC⟩ := hL
  refine sX2_renew rfl (wcV (m_lawInForce (by omega) ef hkf er) ?_)
  have sz : sameF h (wI h o_frame 5 0) := sameF_wI (by decide)
  exact loop hC 22 0 _ rfl sz ⟨fun i hi => absurd hi (Nat.not_lt_zero i), rd_same⟩
end T24
end
section
/-! winters -/
section T25
variable {cx : Cx} {d a : Nat} {h g : Hp}
theorem wI_self {o k : Nat} : wI h o k (hI h o k) = h := by
  unfold wI
  have : up2 h.1 o k (hI h o k) = h.1 := by
    funext p q
    unfold up2
    by_cases h1 : p = o <;> by_cases h2 : q = k <;> simp [h1, h2]
  rw [this]
theorem lo_cong (e1 : ∀ k, hI g o_fr_beside k = hI h o_fr_beside k) (e2 : ∀ k, hI g o_fr_lack k = hI h o_fr_lack k) {s : Int32} {k : Nat} : lo g s k ↔ lo h s k := by unfold lo; rw [e1, e2]
theorem uns_cong (e1 : ∀ k, hI g o_fr_beside k = hI h o_fr_beside k) (e2 : ∀ k, hI g o_fr_lack k = hI h o_fr_lack k) {s : Int32} : uns g s = uns h s := by
  have key : ∀ n, unsR g s n = unsR h s n := by
    intro n
    induction n with
    | zero => rfl
    | succ n ih =>
      rcases Classical.em (lo h s n) with c | c
      · rw [unsR_t c, unsR_t ((lo_cong e1 e2).mpr c), ih]
      · rw [unsR_f c, unsR_f (fun z => c ((lo_cong e1 e2).mp z)), ih]
  exact key 22
theorem setR_cong (e1 : ∀ k, hI g o_fr_beside k = hI h o_fr_beside k) (e2 : ∀ k, hI g o_fr_lack k = hI h o_fr_lack k) : ∀ (n : Nat) (s : Int32), setR g n s = setR h n s := by
  intro n
  induction n with
  | zero => intro s; rfl
  | succ n ih =>
    intro s
    have e := uns_cong (g := g) (h := h) e1 e2 (s := s)
    by_cases c : uns h s = 0
    · rw [setR_0 c, setR_0 (by rw [e]; exact c)]
    · rw [setR_s c, setR_s (by rw [e]; exact c), e, ih]
theorem lawfulS_cong (e1 : ∀ k, hI g o_fr_beside k = hI h o_fr_beside k) (e2 : ∀ k, hI g o_fr_lack k = hI h o_fr_lack k) {s : Int32} : lawfulS g s ↔ lawfulS h s := by
  unfold lawfulS; simp only [lo_cong e1 e2]
def drawX (s : Int32) : Int32 := ((s.toInt64 * kl 1103 0 + kl 12345 0) - (s.toInt64 * kl 1103 0 + kl 12345 0) / kl 1000003 0 * kl 1000003 0).toInt32
/-- a draw's new seed; hidden, so that no check computes with it -/
theorem drawS_ex (s : Int32) : ∃ v, v = drawX s := ⟨_, rfl⟩
noncomputable def drawS (s : Int32) : Int32 := Classical.choose (drawS_ex s)
theorem drawS_eq (s : Int32) : drawS s = drawX s := Classical.choose_spec (drawS_ex s)
theorem kl_ne : ¬ kl 1000003 0 = 0 := by
  intro e
  have e1 : (lN 1000003).toInt = ((1000003 : Nat) : Int) := lN_toInt (n := 1000003) (by omega)
  have e2 : lN 1000003 = 0 := e
  rw [e2] at e1
  have e3 : (0 : Int64).toInt = 0 := Int64.toInt_zero
  omega
theorem h_ne : ¬ (100 : Int32) = 0 := by decide
theorem h_le : ¬ (100 : Int32) ≤ 0 := by decide
def remX (s : Int32) : Int32 := s - s / 100 * 100
theorem rem100_ex (s : Int32) : ∃ v, v = remX s := ⟨_, rfl⟩
noncomputable def rem100 (s : Int32) : Int32 := Classical.choose (rem100_ex s)
theorem rem100_eq (s : Int32) : rem100 s = remX s := Classical.choose_spec (rem100_ex s)
theorem m_draw : M cx jX6_draw d a [.ref o_seasons, .int 100] h (RQ (.int (rem100 (drawS (hI h o_seasons 2)))) (wI h o_seasons 2 (drawS (hI h o_seasons 2)))) := by
  have e : remX (hI (wI h o_seasons 2 (drawX (hI h o_seasons 2))) o_seasons 2) = remX (drawX (hI h o_seasons 2)) := by rw [rd_same]
  rw [rem100_eq, drawS_eq]
  exact sX6_draw rfl (And.intro kl_ne (And.intro (fun z => absurd z h_le) (fun _ => And.intro h_ne (eX6_draw (RQ_eq e)))))
/-- taken by frost among the first stones, and the seed then -/
noncomputable def frS (h : Hp) (s seed : Int32) : Nat → Int32 × Int32
  | 0 => (0, seed)
  | k + 1 => if (s >>> (nI k &&& 31)) &&& 1 = 0 then frS h s seed k else (if rem100 (drawS (frS h s seed k).2) < fFact h (nI k) 6 then (frS h s seed k).1 ||| ((1 : Int32) <<< (nI k &&& 31)) else (frS h s seed k).1, drawS (frS h s seed k).2)
theorem m_frozen (hd : 1 ≤ d) {s : Int32} : M cx jX6_frozen d a [.ref o_seasons, .ref o_wall, .int s] h (RQ (.int (frS h s (hI h o_seasons 2) 14).1) (wI h o_seasons 2 (frS h s (hI h o_seasons 2) 14).2)) := by
  have loop : ∀ n k, n + k = 14 → E cx jX6_frozen d a 5 [some (.ref o_seasons), some (.ref o_wall), some (.int s), some (.int (frS h s (hI h o_seasons 2) k).1), some (.int (nI k))] [] (wI h o_seasons 2 (frS h s (hI h o_seasons 2) k).2) (RQ (.int (frS h s (hI h o_seasons 2) 14).1) (wI h o_seasons 2 (frS h s (hI h o_seasons 2) 14).2)) := by
    intro n
    induction n with
    | zero =>
      intro k hk
      obtain rfl : k = 14 := by omega
      exact eX6_frozen (And.intro (fun _ => eX6_frozen (RQ_eq rfl)) (fun q => absurd (nI_le (a := 14) (b := 14) (Nat.le_refl _) (by decide)) q))
    | succ n ih =>
      intro k hk
      have go : ∀ u g, (frS h s (hI h o_seasons 2) (k + 1)).1 = u → wI h o_seasons 2 (frS h s (hI h o_seasons 2) (k + 1)).2 = g → E cx jX6_frozen d a 45 [some (.ref o_seasons), some (.ref o_wall), some (.int s), some (.int u), some (.int (nI k))] [] g (RQ (.int (frS h s (hI h o_seasons 2) 14).1) (wI h o_seasons 2 (frS h s (hI h o_seasons 2) 14).2)) := fun u g eu eg => by
        subst eu; subst eg
        refine eX6_frozen (e_eq (ih (k + 1) (by omega)) ?_ rfl rfl)
        rw [nI_succ]; rfl
      have ef : ∀ (u v w : Int32) (x : Int32), fFact (wI (wI h o_seasons 2 u) o_seasons 2 v) w x = fFact h w x := fun u v w x => fFact_cong (fun _ => by rw [rd_o (by decide), rd_o (by decide)]) w x
      refine eX6_frozen (And.intro (fun q => absurd q (nI_ge (a := k) (b := 14) (by omega) (by decide))) (fun _ => And.intro (fun q => go _ _ ?_ ?_) (fun q => wcV m_draw (wcV m_fact (And.intro (fun q2 => go _ _ ?_ ?_) (fun q2 => go _ _ ?_ ?_))))))
      · rw [frS, if_pos q]
      · rw [frS, if_pos q]
      · have q2 := Int32.not_lt.mpr q2; rw [ef, rd_same] at q2
        rw [frS, if_neg q, if_neg q2]
      · rw [frS, if_neg q, rd_same, wI_wI]
      · have q2 := Int32.not_le.mp q2; rw [ef, rd_same] at q2
        rw [frS, if_neg q, if_pos q2]
      · rw [frS, if_neg q, rd_same, wI_wI]
  have := loop 14 0 rfl
  have e0 : wI h o_seasons 2 (frS h s (hI h o_seasons 2) 0).2 = h := wI_self
  rw [e0] at this
  exact sX6_frozen rfl this
/-- which stone goes back, and how few do not stand then -/
noncomputable def tpR (h : Hp) (s w : Int32) : Nat → Int32 × Int32
  | 0 => (0, 23)
  | k + 1 => if ¬ (((1 : Int32) <<< (nI k &&& 31)) &&& w) = 0 ∧ bcw (uns h (s ||| (((1 : Int32) <<< (nI k &&& 31)) &&& w))) < (tpR h s w k).2 then (((1 : Int32) <<< (nI k &&& 31)) &&& w, bcw (uns h (s ||| (((1 : Int32) <<< (nI k &&& 31)) &&& w)))) else tpR h s w k
theorem m_toPutBack (hd : 2 ≤ d) {s w : Int32} : M cx jX6_toPutBack d a [.ref o_frame, .int s, .int w] h (RQ (.int (tpR h s w 14).1) h) := by
  have loop : ∀ n k, n + k = 14 → E cx jX6_toPutBack d a 9 [some (.ref o_frame), some (.int s), some (.int w), some (.int (tpR h s w k).1), some (.int (tpR h s w k).2), some (.int (nI k)), none, none] [] h (RQ (.int (tpR h s w 14).1) h) := by
    intro n
    induction n with
    | zero =>
      intro k hk
      obtain rfl : k = 14 := by omega
      exact eX6_toPutBack (And.intro (fun _ => eX6_toPutBack (RQ_eq rfl)) (fun q => absurd (nI_le (a := 14) (b := 14) (Nat.le_refl _) (by decide)) q))
    | succ n ih =>
      intro k hk
      have go : ∀ u v x y, tpR h s w (k + 1) = (u, v) → E cx jX6_toPutBack d a 56 [some (.ref o_frame), some (.int s), some (.int w), some (.int u), some (.int v), some (.int (nI k)), x, y] [] h (RQ (.int (tpR h s w 14).1) h) := fun u v x y e => by
        have i1 := ih (k + 1) (by omega)
        rw [e] at i1
        refine e_clr 6 (e_clr 7 (eX6_toPutBack (e_eq i1 ?_ rfl rfl)))
        rw [nI_succ]; rfl
      refine eX6_toPutBack (And.intro (fun q => absurd q (nI_ge (a := k) (b := 14) (by omega) (by decide))) (fun _ => wcV (m_unsteady (by omega)) (wcS m_bitCount (And.intro (fun q => go _ _ _ _ ?_) (fun q => And.intro (fun q2 => go _ _ _ _ ?_) (fun q2 => go _ _ _ _ ?_))))))
      · rw [tpR, if_neg (fun z => z.1 q)]
      · rw [tpR, if_neg (fun z => absurd z.2 (Int32.not_lt.mpr q2))]
      · rw [tpR, if_pos ⟨q, Int32.not_le.mp q2⟩]
  exact sX6_toPutBack rfl (loop 14 0 rfl)
/-- the stones that are there behind winter i, and the seed then -/
noncomputable def psR (h : Hp) (seed : Int32) : Nat → Int32 × Int32
  | 0 => (hI h o_wall 5, seed)
  | i + 1 =>
    let f := frS h (psR h seed i).1 (psR h seed i).2 14
    let t := setR h 22 ((psR h seed i).1 &&& (f.1 ^^^ -1))
    (t ||| (tpR h t (((1 <<< (hI h o_wall 3 &&& 31)) - 1) &&& (t ^^^ -1)) 14).1, f.2)
noncomputable def psH (h : Hp) (seed : Int32) (many : Nat) : Nat → Hp
  | 0 => wI (wI h o_seasons 2 seed) o_seasons 1 (nI many)
  | i + 1 => wI (wI (psH h seed many i) o_seasons 2 (psR h seed (i + 1)).2) o_se_left i (psR h seed (i + 1)).1
theorem psH_o {seed : Int32} {many i o k : Nat} (h1 : o ≠ 101) (h2 : o ≠ 102) : hI (psH h seed many i) o k = hI h o k := by
  induction i with
  | zero => unfold psH; rw [rd_o h1, rd_o h1]
  | succ i ih => unfold psH; rw [rd_o h2, rd_o h1, ih]
theorem psH_many {seed : Int32} {many i : Nat} : hI (psH h seed many i) o_seasons 1 = nI many := by
  induction i with
  | zero => unfold psH; rw [rd_same]
  | succ i ih => unfold psH; rw [rd_o (by decide), rd_k (by decide), ih]
theorem psH_seed {seed : Int32} {many i : Nat} : hI (psH h seed many i) o_seasons 2 = (psR h seed i).2 := by
  cases i with
  | zero => unfold psH psR; rw [rd_k (by decide), rd_same]
  | succ i => unfold psH; rw [rd_o (by decide), rd_same]
theorem psH_N {seed : Int32} {many i : Nat} : (psH h seed many i).2 = h.2 := by
  induction i with
  | zero => rfl
  | succ i ih => exact ih
theorem frS_cong (e : ∀ k, hI g o_wall_facts k = hI h o_wall_facts k) {s seed : Int32} : ∀ n, frS g s seed n = frS h s seed n := by
  intro n
  induction n with
  | zero => rfl
  | succ n ih => rw [frS, frS, ih, fFact_cong e]
theorem tpR_cong (e1 : ∀ k, hI g o_fr_beside k = hI h o_fr_beside k) (e2 : ∀ k, hI g o_fr_lack k = hI h o_fr_lack k) {s w : Int32} : ∀ n, tpR g s w n = tpR h s w n := by
  intro n
  induction n with
  | zero => rfl
  | succ n ih => rw [tpR, tpR, ih, uns_cong e1 e2]
theorem m_pass (hd : 4 ≤ d) {seed : Int32} {many : Nat} {m : Int32} (em : m = nI many) (hm : many ≤ 40) : M cx jX6_pass d a [.ref o_seasons, .ref o_wall, .ref o_frame, .int seed, .int m] h (RQ (.int (bcw (psR h seed many).1)) (psH h seed many many)) := by
  subst em
  have loop : ∀ n i, n + i = many → E cx jX6_pass d a 25 [some (.ref o_seasons), some (.ref o_wall), some (.ref o_frame), some (.int seed), some (.int (nI many)), some (.int (psR h seed i).1), some (.int (nI i))] [] (psH h seed many i) (RQ (.int (bcw (psR h seed many).1)) (psH h seed many many)) := by
    intro n
    induction n with
    | zero =>
      intro i hi
      obtain rfl : i = many := by omega
      refine eX6_pass (And.intro (fun _ => eX6_pass (wcS m_bitCount ⟨rfl, rfl⟩)) (fun q => absurd ?_ q))
      rw [psH_many]; exact nI_le (Nat.le_refl _) (by omega)
    | succ n ih =>
      intro i hi
      have f1 : ∀ k, hI (wI (psH h seed many i) o_seasons 2 (psR h seed (i + 1)).2) o_fr_beside k = hI h o_fr_beside k := fun k => by rw [rd_o (by decide), psH_o (by decide) (by decide)]
      have f2 : ∀ k, hI (wI (psH h seed many i) o_seasons 2 (psR h seed (i + 1)).2) o_fr_lack k = hI h o_fr_lack k := fun k => by rw [rd_o (by decide), psH_o (by decide) (by decide)]
      have f3 : ∀ k, hI (psH h seed many i) o_wall_facts k = hI h o_wall_facts k := fun k => psH_o (by decide) (by decide)
      have ef : frS (psH h seed many i) (psR h seed i).1 (hI (psH h seed many i) o_seasons 2) 14 = frS h (psR h seed i).1 (psR h seed i).2 14 := by rw [frS_cong f3, psH_seed]
      have es : (psR h seed (i + 1)).2 = (frS h (psR h seed i).1 (psR h seed i).2 14).2 := by rw [psR]
      have eh : wI (psH h seed many i) o_seasons 2 (frS (psH h seed many i) (psR h seed i).1 (hI (psH h seed many i) o_seasons 2) 14).2 = wI (psH h seed many i) o_seasons 2 (psR h seed (i + 1)).2 := by rw [ef, es]
      have c1 : (nI i).toNatClampNeg = i := nI_clamp (by omega)
      refine eX6_pass (And.intro (fun q => absurd q ?_) (fun _ => wcV (m_frozen (by omega)) (wp_hp eh (wcV (m_settled (by omega)) (wcV m_allStones (wcS (m_toPutBack (by omega)) (And.intro (vp_in_nI (N := 40) (by omega) (by decide)) (e_eq (ih (i + 1) (by omega)) ?_ rfl ?_))))))))
      · rw [psH_many]; exact nI_ge (by omega) (by omega)
      · have ea : hI (wI (psH h seed many i) o_seasons 2 (psR h seed (i + 1)).2) o_wall 3 = hI h o_wall 3 := by rw [rd_o (by decide), psH_o (by decide) (by decide)]
        rw [ef, setR_cong f1 f2, tpR_cong f1 f2, ea, nI_succ, psR]; rfl
      · have ea : hI (wI (psH h seed many i) o_seasons 2 (psR h seed (i + 1)).2) o_wall 3 = hI h o_wall 3 := by rw [rd_o (by decide), psH_o (by decide) (by decide)]
        rw [ef, setR_cong f1 f2, tpR_cong f1 f2, ea, psH]
        refine (wIc c1).trans ?_
        rw [psR]; rfl
  refine sX6_pass rfl (And.intro ⟨Nat.le_of_ble_eq_true rfl, by omega⟩ (e_eq (loop many 0 (by omega)) ?_ rfl ?_))
  · have e : hI (wI (wI h o_seasons 2 seed) o_seasons 1 (if nI many < 40 then nI many else 40)) o_wall 5 = hI h o_wall 5 := by rw [rd_o (by decide), rd_o (by decide)]
    show [_, _, _, _, _, some (Value.int (hI (wI (wI h o_seasons 2 seed) o_seasons 1 (if nI many < 40 then nI many else 40)) o_wall 5)), _] = _
    rw [e]; rfl
  · show wI (wI h o_seasons 2 seed) o_seasons 1 (if nI many < 40 then nI many else 40) = _
    have e : (if nI many < 40 then nI many else 40) = nI many := by
      by_cases c : many < 40
      · exact if_pos (nI_lt (b := 40) c (by decide))
      · have : many = 40 := by omega
        subst this; decide
    rw [e]; rfl
theorem m_leftBehind (hd : 1 ≤ d) {i : Int32} {many : Nat} (em : hI h o_seasons 1 = nI many) (hm : many ≤ 40) : M cx jX6_leftBehind d a [.ref o_seasons, .int i] h (RQ (.int (if 0 ≤ i ∧ i < nI many then hI h o_se_left i.toNatClampNeg else -1)) h) := by
  have ei : (0 ≤ i ∧ i ≤ hI h o_seasons 1 - 1) ↔ (0 ≤ i ∧ i < nI many) := by
    rw [em]
    have e1 : (nI many - 1).toInt = (many : Int) - 1 := by
      have := pk_sub_toInt (a := many) (b := 1) (by omega) (by decide)
      exact this
    rw [show (i ≤ nI many - 1) ↔ i.toInt ≤ (nI many - 1).toInt from Int32.le_iff_toInt_le, Int32.lt_iff_toInt_lt, e1, nI_toInt (by omega)]
    constructor
    · rintro ⟨x, y⟩; exact ⟨x, by omega⟩
    · rintro ⟨x, y⟩; exact ⟨x, by omega⟩
  refine sX6_leftBehind rfl (wcS m_isWithin (And.intro (fun z => eX6_leftBehind (eX6_leftBehind (RQ_eq ?_))) (fun z => And.intro (fun q => eX6_leftBehind (eX6_leftBehind (RQ_eq ?_))) (fun q => And.intro ?_ (eX6_leftBehind (RQ_eq ?_))))))
  · rw [if_neg (fun y => b2i_0.mp z (ei.mpr y))]
  · rw [if_neg (fun y => ?_)]
    have h1 := Int32.lt_iff_toInt_lt.mp y.2
    have h2 := Int32.le_iff_toInt_le.mp q
    rw [nI_toInt (by omega)] at h1
    have e : (40 : Int32).toInt = 40 := rfl
    omega
  · have y := b2i_n z
    show vp_in i 40
    rw [vp_in_iff]
    have h1 := Int32.le_iff_toInt_le.mp y.1
    have h2 := Int32.lt_iff_toInt_lt.mp (Int32.not_le.mp q)
    have e0 : (0 : Int32).toInt = 0 := rfl
    have e : (40 : Int32).toInt = 40 := rfl
    omega
  · rw [if_pos (ei.mp (b2i_n z))]; rfl
end T25
end
section
/-! searches over sets, as heaps made step by step -/
section T26
variable {cx : Cx} {d a : Nat} {h g : Hp}
def lpS (nx : Int32 → Int32) (s0 : Int32) : Nat → Int32
  | 0 => s0
  | i + 1 => nx (lpS nx s0 i)
def lpH (B : Hp → Int32 → Hp) (S : Nat → Int32) (g : Hp) : Nat → Hp
  | 0 => g
  | i + 1 => B (lpH B S g i) (S i)
theorem lt_clamp {m : Int32} {k : Nat} (hk : k < 2 ^ 31) : ¬ m ≤ nI k ↔ k < m.toNatClampNeg := by
  rw [Int32.le_iff_toInt_le, nI_toInt hk]
  have : m.toNatClampNeg = m.toInt.toNat := rfl
  rw [this]
  omega
theorem clamp_lt (m : Int32) : m.toNatClampNeg < 2 ^ 31 := by
  have : m.toNatClampNeg = m.toInt.toNat := rfl
  rw [this]
  have := m.toInt_lt
  omega
/-- a part of a small set is small -/
theorem and_nI (x : Int32) {m : Nat} (hm : m < 16384) : ∃ j, j < 16384 ∧ x &&& nI m = nI j := by
  refine ⟨x.toBitVec.toNat &&& m, Nat.lt_of_le_of_lt Nat.and_le_right hm, ?_⟩
  apply Int32.toBitVec_inj.mp
  rw [Int32.toBitVec_and]
  apply BitVec.eq_of_toNat_eq
  rw [BitVec.toNat_and]
  have e1 : (nI m).toBitVec.toNat = m := pk_tn (by omega)
  have e2 : (nI (x.toBitVec.toNat &&& m)).toBitVec.toNat = x.toBitVec.toNat &&& m := pk_tn (by have : x.toBitVec.toNat &&& m ≤ m := Nat.and_le_right; omega)
  rw [e1, e2]
def nxU (c : Int32) : Int32 → Int32 := fun s => (s - c) &&& c
theorem lpU_nI {c : Int32} {m : Nat} (ec : c = nI m) (hm : m < 16384) : ∀ i, ∃ j, j < 16384 ∧ lpS (nxU c) 0 i = nI j := by
  intro i
  cases i with
  | zero => exact ⟨0, by decide, rfl⟩
  | succ i => rw [lpS, nxU, ec]; exact and_nI _ hm
noncomputable def bcS (v : Int32) : Int32 := (1 : Int32) <<< ((if bcw v < 14 then bcw v else 14) &&& 31)
theorem m_setsOf (hd : 1 ≤ d) {v : Int32} : M cx jX9_setsOf d a [.int v] h (RQ (.int (bcS v)) h) := sX9_setsOf rfl (wcS m_bitCount (And.intro ⟨Nat.le_of_ble_eq_true rfl, by omega⟩ ⟨rfl, rfl⟩))
theorem m_forget : M cx jX9_forget d a [.ref o_thieves] h (RV (wI h o_thieves 13 0)) := sX9_forget rfl ⟨rfl, rfl⟩
theorem m_isDue {k : Int32} : M cx jX9_isDue d a [.ref o_thieves, .int k] h (RQ (.int (b2i (hI h o_thieves 13 &&& k = 0))) (wI h o_thieves 13 (hI h o_thieves 13 ||| k))) := by
  have fin : ∀ w, w = b2i (hI h o_thieves 13 &&& k = 0) → E cx jX9_isDue d a 14 [some (.ref o_thieves), some (.int k), none] [.int w] h (RQ (.int (b2i (hI h o_thieves 13 &&& k = 0))) (wI h o_thieves 13 (hI h o_thieves 13 ||| k))) := fun w ew => by
    refine eX9_isDue (And.intro ?_ (RQ_eq ew))
    rw [ew]; exact b2i_B
  exact sX9_isDue rfl (And.intro (fun q => eX9_isDue (fin 0 (b2i_f q).symm)) (fun q => fin 1 (b2i_t q).symm))
theorem hI_addS {o k p q : Nat} : hI (addS g o k) p q = hI g p q := rfl
/-! all lawful sets -/
noncomputable def flB (h g : Hp) (s : Int32) : Hp := @ite _ (lawfulS h s) (Classical.propDecidable _) (addS g o_lawful_words s.toNatClampNeg) g
noncomputable def flH (h : Hp) (c : Int32) (g : Hp) (n : Nat) : Hp := lpH (flB h) (lpS (nxU c) 0) g n
theorem flH_I {c : Int32} {n o k : Nat} : hI (flH h c g n) o k = hI g o k := by
  induction n with
  | zero => rfl
  | succ n ih =>
    have : flH h c g (n + 1) = flB h (flH h c g n) (lpS (nxU c) 0 n) := rfl
    rw [this]; unfold flB; split
    · exact ih
    · exact ih
theorem flH_2 {c : Int32} {n : Nat} : (flH h c g n).2.2 = g.2.2 := by
  induction n with
  | zero => rfl
  | succ n ih =>
    have : flH h c g (n + 1) = flB h (flH h c g n) (lpS (nxU c) 0 n) := rfl
    rw [this]; unfold flB; split
    · exact ih
    · exact ih
/-- what findLawful leaves, when it is due -/
noncomputable def flD (h : Hp) : Hp := flH h (setR h 22 (hI h o_wall 5)) (clrJ (wI (wI h o_thieves 13 (hI h o_thieves 13 ||| 1)) o_thieves 12 (setR h 22 (hI h o_wall 5))) o_lawful_words 256) (bcS (setR h 22 (hI h o_wall 5))).toNatClampNeg
noncomputable def flA (h : Hp) : Hp := @ite _ (hI h o_thieves 13 &&& 1 = 0) (Classical.propDecidable _) (flD h) (wI h o_thieves 13 (hI h o_thieves 13 ||| 1))
theorem m_findLawful (hd : 4 ≤ d) {m : Nat} (ec : setR h 22 (hI h o_wall 5) = nI m) (hm : m < 16384) : M cx jX9_findLawful d a [.ref o_thieves] h (RV (flA h)) := by
  obtain ⟨c, hc⟩ : ∃ c, c = setR h 22 (hI h o_wall 5) := ⟨_, rfl⟩
  obtain ⟨g0, hg0⟩ : ∃ g0, g0 = clrJ (wI (wI h o_thieves 13 (hI h o_thieves 13 ||| 1)) o_thieves 12 c) o_lawful_words 256 := ⟨_, rfl⟩
  have i0 : ∀ o k, o ≠ 91 → hI g0 o k = hI h o k := fun o k n => by
    rw [hg0]; show hI (wI (wI h o_thieves 13 (hI h o_thieves 13 ||| 1)) o_thieves 12 c) o k = _
    rw [rd_o n, rd_o n]
  have ic : hI g0 o_thieves 12 = c := by rw [hg0]; show hI (wI (wI h o_thieves 13 (hI h o_thieves 13 ||| 1)) o_thieves 12 c) o_thieves 12 = c; exact rd_same
  have fD : flD h = flH h c g0 (bcS c).toNatClampNeg := by unfold flD; rw [← hc, ← hg0]
  have hl := clamp_lt (bcS c)
  have loop : ∀ n i, n + i = (bcS c).toNatClampNeg → E cx jX9_findLawful d a 46 [some (.ref o_thieves), some (.int (bcS c)), some (.int (lpS (nxU c) 0 i)), some (.int (nI i))] [] (flH h c g0 i) (RV (flD h)) := by
    intro n
    induction n with
    | zero =>
      intro i hi
      refine eX9_findLawful (And.intro (fun _ => eX9_findLawful ⟨rfl, ?_⟩) (fun q => absurd ((lt_clamp (by omega)).mp q) (by omega)))
      rw [fD, ← hi]; simp
    | succ n ih =>
      intro i hi
      have eI : ∀ o k, o ≠ 91 → hI (flH h c g0 i) o k = hI h o k := fun o k n => by rw [flH_I, i0 o k n]
      have lw : lawfulS (flH h c g0 i) (lpS (nxU c) 0 i) ↔ lawfulS h (lpS (nxU c) 0 i) := lawfulS_cong (fun k => eI _ k (by decide)) (fun k => eI _ k (by decide))
      have eC : hI (flH h c g0 i) o_thieves 12 = c := by rw [flH_I, ic]
      obtain ⟨jj, hj, ej⟩ := lpU_nI (hc.trans ec) hm i
      have go : ∀ g', flH h c g0 (i + 1) = g' → hI g' o_thieves 12 = c → E cx jX9_findLawful d a 70 [some (.ref o_thieves), some (.int (bcS c)), some (.int (lpS (nxU c) 0 i)), some (.int (nI i))] [] g' (RV (flD h)) := fun g' eg e12 => by
        subst eg
        refine eX9_findLawful (e_eq (ih (i + 1) (by omega)) ?_ rfl rfl)
        rw [nI_succ, e12]; rfl
      have e1 : flH h c g0 (i + 1) = flB h (flH h c g0 i) (lpS (nxU c) 0 i) := rfl
      refine eX9_findLawful (And.intro (fun q => absurd ((lt_clamp (by omega)).mpr (by omega)) (fun z => z q)) (fun _ => wcV (m_isLawful (by omega)) (And.intro (fun z => go _ ?_ eC) (fun z => wcV0 (m_add_lawful (by omega) ej hj) (go _ ?_ eC)))))
      · rw [e1]; unfold flB; rw [if_neg (fun y => b2i_0.mp z (lw.mpr y))]
      · rw [e1]; unfold flB; rw [if_pos (lw.mp (b2i_n z)), ej, nI_clamp (by omega)]
  refine sX9_findLawful rfl (wcV m_isDue (And.intro (fun z => eX9_findLawful ?_) (fun z => ⟨rfl, ?_⟩)))
  · have due : hI h o_thieves 13 &&& 1 = 0 := b2i_n z
    have fA : flA h = flD h := if_pos due
    rw [fA]
    have es : setR (wI h o_thieves 13 (hI h o_thieves 13 ||| 1)) 22 (hI (wI h o_thieves 13 (hI h o_thieves 13 ||| 1)) o_wall 5) = c := by
      rw [rd_o (by decide), setR_cong (fun k => rd_o (by decide)) (fun k => rd_o (by decide)), hc]
    refine wcV (m_settled (by omega)) (wp_top (v' := .int c) (congrArg Value.int es) (wcV0 m_clear_lawful (wp_hp (g := g0) hg0.symm (wcS (m_setsOf (by omega)) ?_))))
    refine e_eq (loop _ 0 (by rw [Nat.add_zero])) ?_ rfl rfl
    rw [ic]; rfl
  · have due : ¬ hI h o_thieves 13 &&& 1 = 0 := b2i_0.mp z
    exact (if_neg due).symm
/-! what the tellers change -/
theorem offM_once_I {s : Int32} {o k : Nat} (n : o ≠ 96) : hI (offM_onceFound g s) o k = hI g o k := by
  unfold offM_onceFound; split
  · exact rd_o n
  split
  · rw [rd_o n, rd_o n, rd_o n, rd_o n]
  · exact rd_o n
theorem offM_once_2 {s : Int32} : (offM_onceFound g s).2 = g.2 := by
  unfold offM_onceFound; split
  · rfl
  split <;> rfl
theorem offM_steps_I {s : Int32} {o k : Nat} (n : o ≠ 97) : hI (offM_stepsFound g s) o k = hI g o k := by
  unfold offM_stepsFound; split
  · exact rd_o n
  split
  · rw [rd_o n, rd_o n, rd_o n, rd_o n]
  · exact rd_o n
theorem offM_steps_2 {s : Int32} : (offM_stepsFound g s).2 = g.2 := by
  unfold offM_stepsFound; split
  · rfl
  split <;> rfl
theorem offF_fell_I {s : Int32} {o k : Nat} (n : o ≠ 98) : hI (offF_fellingFound g s) o k = hI g o k := by
  unfold offF_fellingFound; split
  · rw [rd_o n, rd_o n, rd_o n]
  split
  · rw [rd_o n, rd_o n]
  · rfl
theorem offF_fell_2 {s : Int32} : (offF_fellingFound g s).2 = g.2 := by
  unfold offF_fellingFound; split
  · rfl
  split <;> rfl
theorem offF_mend_I {s : Int32} {o k : Nat} (n : o ≠ 99) : hI (offF_mendingFound g s) o k = hI g o k := by
  unfold offF_mendingFound; split
  · rw [rd_o n, rd_o n, rd_o n]
  split
  · rw [rd_o n, rd_o n]
  · rfl
theorem offF_mend_2 {s : Int32} : (offF_mendingFound g s).2 = g.2 := by
  unfold offF_mendingFound; split
  · rfl
  split <;> rfl
theorem flD_I {o k : Nat} (n : o ≠ 91) : hI (flD h) o k = hI h o k := by
  unfold flD; rw [flH_I]
  show hI (wI (wI h o_thieves 13 _) o_thieves 12 _) o k = _
  rw [rd_o n, rd_o n]
theorem flA_I {o k : Nat} (n : o ≠ 91) : hI (flA h) o k = hI h o k := by
  unfold flA; split
  · exact flD_I n
  · exact rd_o n
theorem flA_2 : (flA h).2.2 = h.2.2 := by
  unfold flA; split
  · unfold flD; rw [flH_2]; rfl
  · rfl
theorem flA_N : hN (flA h) = hN h := congrArg (fun z => z.2.2) flA_2
/-! at once -/
noncomputable def aoB (t : Int32) (g : Hp) (s : Int32) : Hp := @ite _ (inSI g o_lawful_words s) (Classical.propDecidable _) (offM_onceFound g (t &&& (s ^^^ -1))) g
noncomputable def aoH (t c : Int32) (g : Hp) (n : Nat) : Hp := lpH (aoB t) (lpS (nxU c) 0) g n
theorem aoH_I {t c : Int32} {n o k : Nat} (ne : o ≠ 96) : hI (aoH t c g n) o k = hI g o k := by
  induction n with
  | zero => rfl
  | succ n ih =>
    have : aoH t c g (n + 1) = aoB t (aoH t c g n) (lpS (nxU c) 0 n) := rfl
    rw [this]; unfold aoB; split
    · rw [offM_once_I ne, ih]
    · exact ih
theorem aoH_2 {t c : Int32} {n : Nat} : (aoH t c g n).2 = g.2 := by
  induction n with
  | zero => rfl
  | succ n ih =>
    have : aoH t c g (n + 1) = aoB t (aoH t c g n) (lpS (nxU c) 0 n) := rfl
    rw [this]; unfold aoB; split
    · rw [offM_once_2, ih]
    · exact ih
def clrM (g : Hp) (o : Nat) : Hp := wI (wI (wI (wI g o 0 (-1)) o 1 (-1)) o 2 (-1)) o 3 0
def clrF (g : Hp) (o : Nat) : Hp := wI (wI (wI g o 0 (-1)) o 1 (-1)) o 2 0
theorem clrM_I {o p k : Nat} (n : p ≠ o) : hI (clrM g o) p k = hI g p k := by unfold clrM; rw [rd_o n, rd_o n, rd_o n, rd_o n]
theorem clrF_I {o p k : Nat} (n : p ≠ o) : hI (clrF g o) p k = hI g p k := by unfold clrF; rw [rd_o n, rd_o n, rd_o n]
/-- marked as made -/
def knw (h : Hp) (k : Int32) : Hp := wI h o_thieves 13 (hI h o_thieves 13 ||| k)
theorem knw_I {k : Int32} {o q : Nat} (n : o ≠ 91 ∨ q ≠ 13) : hI (knw h k) o q = hI h o q := by
  unfold knw; rcases n with n | n
  · exact rd_o n
  · exact rd_k n
noncomputable def aoD (h : Hp) : Hp := aoH (hI h o_wall 5) (hI (flA (knw h 2)) o_thieves 12) (clrM (flA (knw h 2)) o_onceFound) (bcS (hI (flA (knw h 2)) o_thieves 12)).toNatClampNeg
noncomputable def aoA (h : Hp) : Hp := @ite _ (hI h o_thieves 13 &&& 2 = 0) (Classical.propDecidable _) (aoD h) (knw h 2)
theorem setR_knw {k : Int32} {n : Nat} {s : Int32} : setR (knw h k) n s = setR h n s := setR_cong (fun _ => knw_I (Or.inl (by decide))) (fun _ => knw_I (Or.inl (by decide))) n s
theorem m_atOnce (hd : 5 ≤ d) {m : Nat} (ec : setR h 22 (hI h o_wall 5) = nI m) (hm : m < 16384) : M cx jX9_atOnce d a [.ref o_thieves] h (RQ (.ref o_onceFound) (aoA h)) := by
  obtain ⟨f, hf⟩ : ∃ f, f = flA (knw h 2) := ⟨_, rfl⟩
  obtain ⟨c, hc⟩ : ∃ c, c = hI f o_thieves 12 := ⟨_, rfl⟩
  obtain ⟨g0, hg0⟩ : ∃ g0, g0 = clrM f o_onceFound := ⟨_, rfl⟩
  have i0 : ∀ o k, o ≠ 96 → hI g0 o k = hI f o k := fun o k n => by rw [hg0]; exact clrM_I n
  have fT : hI f o_wall 5 = hI h o_wall 5 := by rw [hf, flA_I (by decide), knw_I (Or.inl (by decide))]
  have fD : aoD h = aoH (hI h o_wall 5) c g0 (bcS c).toNatClampNeg := by unfold aoD; rw [← hf, ← hc, ← hg0]
  have hl := clamp_lt (bcS c)
  have loop : ∀ n i, n + i = (bcS c).toNatClampNeg → E cx jX9_atOnce d a 31 [some (.ref o_thieves), some (.int (bcS c)), some (.int (lpS (nxU c) 0 i)), some (.int (nI i))] [] (aoH (hI h o_wall 5) c g0 i) (RQ (.ref o_onceFound) (aoD h)) := by
    intro n
    induction n with
    | zero =>
      intro i hi
      refine eX9_atOnce (And.intro (fun _ => eX9_atOnce ⟨rfl, ?_⟩) (fun q => absurd ((lt_clamp (by omega)).mp q) (by omega)))
      rw [fD, ← hi]; simp
    | succ n ih =>
      intro i hi
      have eC : hI (aoH (hI h o_wall 5) c g0 i) o_thieves 12 = c := by rw [aoH_I (by decide), i0 _ _ (by decide), hc]
      have eT : hI (aoH (hI h o_wall 5) c g0 i) o_wall 5 = hI h o_wall 5 := by rw [aoH_I (by decide), i0 _ _ (by decide), fT]
      have go : ∀ g', aoH (hI h o_wall 5) c g0 (i + 1) = g' → E cx jX9_atOnce d a 69 [some (.ref o_thieves), some (.int (bcS c)), some (.int (lpS (nxU c) 0 i)), some (.int (nI i))] [] g' (RQ (.ref o_onceFound) (aoD h)) := fun g' eg => by
        have e12 : hI g' o_thieves 12 = c := by rw [← eg, aoH_I (by decide), i0 _ _ (by decide), hc]
        subst eg
        refine eX9_atOnce (e_eq (ih (i + 1) (by omega)) ?_ rfl rfl)
        rw [nI_succ, e12]; rfl
      have e1 : aoH (hI h o_wall 5) c g0 (i + 1) = aoB (hI h o_wall 5) (aoH (hI h o_wall 5) c g0 i) (lpS (nxU c) 0 i) := rfl
      refine eX9_atOnce (And.intro (fun q => absurd ((lt_clamp (by omega)).mpr (by omega)) (fun z => z q)) (fun _ => wcV (m_has_lawful (by omega)) (And.intro (fun z => go _ ?_) (fun z => wcV0 (m_offer_onceFound (by omega)) (go _ ?_) (hok := Or.inr (congrArg (fun z => z.2.2.2) offM_once_2))))))
      · rw [e1]; unfold aoB; rw [if_neg (b2i_0.mp z)]
      · rw [e1]; unfold aoB; rw [if_pos (b2i_n z)]
        show _ = offM_onceFound _ (hI (aoH (hI h o_wall 5) c g0 i) o_wall 5 &&& _)
        rw [eT]
  refine sX9_atOnce rfl (wcV m_isDue (And.intro (fun z => eX9_atOnce ⟨rfl, ?_⟩) (fun z => ?_)))
  · exact (if_neg (b2i_0.mp z)).symm
  · have fA : aoA h = aoD h := if_pos (b2i_n z)
    rw [fA]
    refine wcV0 (m_findLawful (h := knw h 2) (by omega) (by rw [knw_I (Or.inl (by decide)), setR_knw]; exact ec) hm) (wp_hp (g := f) hf.symm (wcV0 m_clear_onceFound (wp_hp (g := g0) hg0.symm (wcS (m_setsOf (by omega)) ?_)))) (hok := Or.inr flA_N)
    refine e_eq (loop _ 0 (by rw [Nat.add_zero])) ?_ rfl rfl
    rw [i0 _ _ (by decide), ← hc]; rfl
end T26
end
section
/-! felling, mending, the game, steps -/
section T27
variable {cx : Cx} {d a : Nat} {h g : Hp}
theorem nx2 {x : Hp} {y : Hp} (e : x.2 = y.2) : hN x = hN y := congrArg (fun z => z.2.2.2) e
theorem nx3 {x : Hp} {y : Hp} (e : x.2.2 = y.2.2) : hN x = hN y := congrArg (fun z => z.2.2) e
/-! felling -/
noncomputable def feB (c : Int32) (g : Hp) (s : Int32) : Hp := @ite _ (inSI g o_lawful_words s ∨ hwo_marked g s s 14) (Classical.propDecidable _) (addS g o_marked_words s.toNatClampNeg) (offF_fellingFound g (c &&& (s ^^^ -1)))
noncomputable def feH (c : Int32) (g : Hp) (n : Nat) : Hp := lpH (feB c) (lpS (nxU c) 0) g n
theorem feH_s {c : Int32} {n : Nat} : feH c g (n + 1) = feB c (feH c g n) (lpS (nxU c) 0 n) := rfl
theorem feH_I {c : Int32} {n o k : Nat} (ne : o ≠ 98) : hI (feH c g n) o k = hI g o k := by
  induction n with
  | zero => rfl
  | succ n ih =>
    rw [feH_s]; unfold feB; split
    · exact ih
    · rw [offF_fell_I ne, ih]
theorem feH_2 {c : Int32} {n : Nat} : (feH c g n).2.2 = g.2.2 := by
  induction n with
  | zero => rfl
  | succ n ih =>
    rw [feH_s]; unfold feB; split
    · exact ih
    · rw [offF_fell_2, ih]
noncomputable def feD (h : Hp) : Hp := feH (hI (flA (knw h 8)) o_thieves 12) (clrJ (clrF (flA (knw h 8)) o_fellingFound) o_marked_words 256) (bcS (hI (flA (knw h 8)) o_thieves 12)).toNatClampNeg
noncomputable def feA (h : Hp) : Hp := @ite _ (hI h o_thieves 13 &&& 8 = 0) (Classical.propDecidable _) (feD h) (knw h 8)
/-- the core, where it was found already or is found now -/
def coreOk (h : Hp) : Prop := (∃ m, m < 16384 ∧ setR h 22 (hI h o_wall 5) = nI m) ∧ (¬ hI h o_thieves 13 &&& 1 = 0 → hI h o_thieves 12 = setR h 22 (hI h o_wall 5))
theorem and_or_keep {x k : Int32} (e : k &&& 1 = 0) : (x ||| k) &&& 1 = x &&& 1 := by
  apply b_ext; intro i hi
  have := congrArg (fun z => bt z i) e
  simp only [b_and, b_0] at this
  rw [b_and, b_or, b_and]
  cases h1 : bt k i <;> cases h2 : bt 1 i <;> simp_all
theorem core_fl {k : Int32} (ek : k &&& 1 = 0) (q : coreOk h) : hI (flA (knw h k)) o_thieves 12 = setR h 22 (hI h o_wall 5) := by
  have e5 : hI (knw h k) o_wall 5 = hI h o_wall 5 := knw_I (Or.inl (by decide))
  unfold flA
  split
  · unfold flD
    rw [flH_I, setR_knw, e5]
    show hI (wI (wI (knw h k) o_thieves 13 (hI (knw h k) o_thieves 13 ||| 1)) o_thieves 12 (setR h 22 (hI h o_wall 5))) o_thieves 12 = _
    exact rd_same
  · rename_i z
    rw [rd_k (by decide), knw_I (Or.inr (by decide))]
    apply q.2
    intro y; apply z
    show hI (wI h o_thieves 13 (hI h o_thieves 13 ||| k)) o_thieves 13 &&& 1 = 0
    rw [rd_same, and_or_keep ek]; exact y
theorem m_felling (hd : 5 ≤ d) (q : coreOk h) : M cx jX9_felling d a [.ref o_thieves] h (RQ (.ref o_fellingFound) (feA h)) := by
  obtain ⟨⟨m, hm, ec⟩, q2⟩ := id q
  obtain ⟨f, hf⟩ : ∃ f, f = flA (knw h 8) := ⟨_, rfl⟩
  obtain ⟨c, hc⟩ : ∃ c, c = hI f o_thieves 12 := ⟨_, rfl⟩
  have ecm : c = nI m := by rw [hc, hf, core_fl (by decide) q, ec]
  obtain ⟨g0, hg0⟩ : ∃ g0, g0 = clrJ (clrF f o_fellingFound) o_marked_words 256 := ⟨_, rfl⟩
  have i0 : ∀ o k, o ≠ 98 → hI g0 o k = hI f o k := fun o k n => by rw [hg0]; exact clrF_I n
  have fD : feD h = feH c g0 (bcS c).toNatClampNeg := by unfold feD; rw [← hf, ← hc, ← hg0]
  have hl := clamp_lt (bcS c)
  have loop : ∀ n i, n + i = (bcS c).toNatClampNeg → E cx jX9_felling d a 39 [some (.ref o_thieves), some (.int (bcS c)), some (.int (lpS (nxU c) 0 i)), some (.int (nI i))] [] (feH c g0 i) (RQ (.ref o_fellingFound) (feD h)) := by
    intro n
    induction n with
    | zero =>
      intro i hi
      refine eX9_felling (And.intro (fun _ => eX9_felling ⟨rfl, ?_⟩) (fun q => absurd ((lt_clamp (by omega)).mp q) (by omega)))
      rw [fD, ← hi]; simp
    | succ n ih =>
      intro i hi
      obtain ⟨jj, hj, ej⟩ := lpU_nI ecm hm i
      have eC : hI (feH c g0 i) o_thieves 12 = c := by rw [feH_I (by decide), i0 _ _ (by decide), hc]
      have go : ∀ g', feH c g0 (i + 1) = g' → E cx jX9_felling d a 93 [some (.ref o_thieves), some (.int (bcS c)), some (.int (lpS (nxU c) 0 i)), some (.int (nI i))] [] g' (RQ (.ref o_fellingFound) (feD h)) := fun g' eg => by
        have e12 : hI g' o_thieves 12 = c := by rw [← eg, feH_I (by decide), i0 _ _ (by decide), hc]
        subst eg
        refine eX9_felling (e_eq (ih (i + 1) (by omega)) ?_ rfl rfl)
        rw [nI_succ, e12]; rfl
      have yes : (inSI (feH c g0 i) o_lawful_words (lpS (nxU c) 0 i) ∨ hwo_marked (feH c g0 i) (lpS (nxU c) 0 i) (lpS (nxU c) 0 i) 14) → E cx jX9_felling d a 67 [some (.ref o_thieves), some (.int (bcS c)), some (.int (lpS (nxU c) 0 i)), some (.int (nI i))] [] (feH c g0 i) (RQ (.ref o_fellingFound) (feD h)) := fun z => by
        refine eX9_felling (wcV0 (m_add_marked (by omega) ej hj) (go _ ?_))
        rw [feH_s]; unfold feB; rw [if_pos z, ej, nI_clamp (by omega)]
      refine eX9_felling (And.intro (fun q => absurd ((lt_clamp (by omega)).mpr (by omega)) (fun z => z q)) (fun _ => wcV (m_has_lawful (by omega)) (And.intro (fun z => yes (Or.inl (b2i_n z))) (fun z => wcV (m_hasWithoutOne_marked (by omega)) (And.intro (fun y => eX9_felling (wcV0 (m_offer_fellingFound (by omega)) (go _ ?_) (hok := Or.inr (nx2 offF_fell_2)))) (fun y => yes (Or.inr (b2i_n y))))))))
      rw [feH_s]; unfold feB
      rw [if_neg (fun x => x.elim (b2i_0.mp z) (b2i_0.mp y)), eC]
  refine sX9_felling rfl (wcV m_isDue (And.intro (fun z => eX9_felling ⟨rfl, ?_⟩) (fun z => ?_)))
  · exact (if_neg (b2i_0.mp z)).symm
  · have fA : feA h = feD h := if_pos (b2i_n z)
    rw [fA]
    refine wcV0 (m_findLawful (h := knw h 8) (by omega) (by rw [knw_I (Or.inl (by decide)), setR_knw]; exact ec) hm) (wp_hp (g := f) hf.symm (wcV0 m_clear_fellingFound (wcV0 m_clear_marked (wp_hp (g := g0) hg0.symm (wcS (m_setsOf (by omega)) ?_))))) (hok := Or.inr flA_N)
    refine e_eq (loop _ 0 (by rw [Nat.add_zero])) ?_ rfl rfl
    rw [i0 _ _ (by decide), ← hc]; rfl
/-! mending -/
noncomputable def meB (t : Int32) (g : Hp) (s : Int32) : Hp := @ite _ (lawfulS g (t ||| (s <<< ((14 : Int32) &&& 31)))) (Classical.propDecidable _) (offF_mendingFound g s) g
noncomputable def meH (t : Int32) (g : Hp) (n : Nat) : Hp := lpH (meB t) nI g n
theorem meH_s {t : Int32} {n : Nat} : meH t g (n + 1) = meB t (meH t g n) (nI n) := rfl
theorem meH_I {t : Int32} {n o k : Nat} (ne : o ≠ 99) : hI (meH t g n) o k = hI g o k := by
  induction n with
  | zero => rfl
  | succ n ih =>
    rw [meH_s]; unfold meB; split
    · rw [offF_mend_I ne, ih]
    · exact ih
theorem meH_2 {t : Int32} {n : Nat} : (meH t g n).2 = g.2 := by
  induction n with
  | zero => rfl
  | succ n ih =>
    rw [meH_s]; unfold meB; split
    · rw [offF_mend_2, ih]
    · exact ih
def meN (h : Hp) : Int32 := (1 : Int32) <<< ((if hI h o_wall 4 < 8 then hI h o_wall 4 else 8) &&& 31)
noncomputable def meD (h : Hp) : Hp := meH (hI h o_wall 5) (clrF (knw h 16) o_mendingFound) (meN h).toNatClampNeg
noncomputable def meA (h : Hp) : Hp := @ite _ (hI h o_thieves 13 &&& 16 = 0) (Classical.propDecidable _) (meD h) (knw h 16)
theorem m_mending (hd : 2 ≤ d) : M cx jX9_mending d a [.ref o_thieves] h (RQ (.ref o_mendingFound) (meA h)) := by
  obtain ⟨g0, hg0⟩ : ∃ g0, g0 = clrF (knw h 16) o_mendingFound := ⟨_, rfl⟩
  have i0 : ∀ o k, o ≠ 99 → o ≠ 91 → hI g0 o k = hI h o k := fun o k n n2 => by rw [hg0, clrF_I n, knw_I (Or.inl n2)]
  have fD : meD h = meH (hI h o_wall 5) g0 (meN h).toNatClampNeg := by unfold meD; rw [← hg0]
  have hl := clamp_lt (meN h)
  have loop : ∀ n i, n + i = (meN h).toNatClampNeg → E cx jX9_mending d a 33 [some (.ref o_thieves), some (.int (meN h)), some (.int (nI i))] [] (meH (hI h o_wall 5) g0 i) (RQ (.ref o_mendingFound) (meD h)) := by
    intro n
    induction n with
    | zero =>
      intro i hi
      refine eX9_mending (And.intro (fun _ => eX9_mending ⟨rfl, ?_⟩) (fun q => absurd ((lt_clamp (by omega)).mp q) (by omega)))
      rw [fD, ← hi]; simp
    | succ n ih =>
      intro i hi
      have eT : hI (meH (hI h o_wall 5) g0 i) o_wall 5 = hI h o_wall 5 := by rw [meH_I (by decide), i0 _ _ (by decide) (by decide)]
      have go : ∀ g', meH (hI h o_wall 5) g0 (i + 1) = g' → E cx jX9_mending d a 68 [some (.ref o_thieves), some (.int (meN h)), some (.int (nI i))] [] g' (RQ (.ref o_mendingFound) (meD h)) := fun g' eg => by
        subst eg
        refine eX9_mending (e_eq (ih (i + 1) (by omega)) ?_ rfl rfl)
        rw [nI_succ]; rfl
      refine eX9_mending (And.intro (fun q => absurd ((lt_clamp (by omega)).mpr (by omega)) (fun z => z q)) (fun _ => wcV (m_isLawful (by omega)) (And.intro (fun z => go _ ?_) (fun z => wcV0 (m_offer_mendingFound (by omega)) (go _ ?_) (hok := Or.inr (nx2 offF_mend_2))))))
      · have z := b2i_0.mp z
        rw [meH_s]; unfold meB
        rw [if_neg (fun y => z (by show lawfulS _ (hI (meH (hI h o_wall 5) g0 i) o_wall 5 ||| _); rw [eT]; exact y))]
      · have z : lawfulS (meH (hI h o_wall 5) g0 i) (hI (meH (hI h o_wall 5) g0 i) o_wall 5 ||| (nI i <<< ((14 : Int32) &&& 31))) := b2i_n z
        rw [eT] at z
        rw [meH_s]; unfold meB; rw [if_pos z]
  refine sX9_mending rfl (wcV m_isDue (And.intro (fun z => eX9_mending ⟨rfl, ?_⟩) (fun z => ?_)))
  · exact (if_neg (b2i_0.mp z)).symm
  · have fA : meA h = meD h := if_pos (b2i_n z)
    rw [fA]
    refine wcV0 m_clear_mendingFound (wp_hp (g := g0) hg0.symm (And.intro ⟨Nat.le_of_ble_eq_true rfl, by omega⟩ (e_eq (loop _ 0 (by rw [Nat.add_zero])) ?_ rfl rfl)))
    have e : hI g0 o_wall 4 = hI h o_wall 4 := i0 _ _ (by decide) (by decide)
    show [_, some (Value.int ((1 : Int32) <<< ((if hI g0 o_wall 4 < 8 then hI g0 o_wall 4 else 8) &&& 31))), _] = _
    rw [e]; rfl
/-! the game -/
def wnP (g : Hp) (s : Int32) (k : Nat) : Prop := ¬ (((1 : Int32) <<< (nI k &&& 31)) &&& s) = 0 ∧ inSI g o_lawful_words (s &&& ((((1 : Int32) <<< (nI k &&& 31)) &&& s) ^^^ -1)) ∧ ¬ inSI g o_marked_words (s &&& ((((1 : Int32) <<< (nI k &&& 31)) &&& s) ^^^ -1))
theorem m_winningIn (hd : 2 ≤ d) {s : Int32} : M cx jX9_winningIn d a [.ref o_thieves, .int s] h (RQ (.int (fst (wnP h s) 14 0)) h) := by
  have loop : ∀ n k, n + k = 14 → fst (wnP h s) n k = fst (wnP h s) 14 0 → E cx jX9_winningIn d a 2 [some (.ref o_thieves), some (.int s), some (.int (nI k)), none] [] h (RQ (.int (fst (wnP h s) 14 0)) h) := by
    intro n
    induction n with
    | zero =>
      intro k hk hf
      obtain rfl : k = 14 := by omega
      exact eX9_winningIn (And.intro (fun _ => eX9_winningIn (RQ_eq hf)) (fun q => absurd (nI_le (a := 14) (b := 14) (Nat.le_refl _) (by decide)) q))
    | succ n ih =>
      intro k hk hf
      have go : ¬ wnP h s k → ∀ w, E cx jX9_winningIn d a 50 [some (.ref o_thieves), some (.int s), some (.int (nI k)), w] [] h (RQ (.int (fst (wnP h s) 14 0)) h) := fun q w => by
        refine e_clr 3 (eX9_winningIn (e_eq (ih (k + 1) (by omega) (by rw [← hf, fst_f q])) ?_ rfl rfl))
        rw [nI_succ]; rfl
      refine eX9_winningIn (And.intro (fun q => absurd q (nI_ge (a := k) (b := 14) (by omega) (by decide))) (fun _ => And.intro (fun q => go (fun z => z.1 q) _) (fun q => wcV (m_has_lawful (by omega)) (And.intro (fun q2 => go (fun z => b2i_0.mp q2 z.2.1) _) (fun q2 => wcV (m_has_marked (by omega)) (And.intro (fun q3 => go (fun z => z.2.2 (b2i_n q3)) _) (fun q3 => RQ_eq ?_)))))))
      rw [← hf, fst_t ⟨q, b2i_n q2, b2i_0.mp q3⟩]
  exact sX9_winningIn rfl (loop 14 0 rfl rfl)
noncomputable def gaB (g : Hp) (s : Int32) : Hp := if fst (wnP g s) 14 0 = -1 then g else addS g o_marked_words s.toNatClampNeg
noncomputable def gaH (c : Int32) (g : Hp) (n : Nat) : Hp := lpH gaB (lpS (nxU c) 0) g n
theorem gaH_s {c : Int32} {n : Nat} : gaH c g (n + 1) = gaB (gaH c g n) (lpS (nxU c) 0 n) := rfl
theorem gaH_I {c : Int32} {n o k : Nat} : hI (gaH c g n) o k = hI g o k := by
  induction n with
  | zero => rfl
  | succ n ih =>
    rw [gaH_s]; unfold gaB; split
    · exact ih
    · exact ih
theorem gaH_2 {c : Int32} {n : Nat} : (gaH c g n).2.2 = g.2.2 := by
  induction n with
  | zero => rfl
  | succ n ih =>
    rw [gaH_s]; unfold gaB; split
    · exact ih
    · exact ih
/-- a stone that may be taken of the wall as it is -/
def tkP (g : Hp) (k : Nat) : Prop := ¬ (((1 : Int32) <<< (nI k &&& 31)) &&& hI g o_wall 5) = 0 ∧ inSI g o_lawful_words (hI g o_wall 5 &&& ((((1 : Int32) <<< (nI k &&& 31)) &&& hI g o_wall 5) ^^^ -1))
noncomputable def gaG (h : Hp) : Hp := gaH (hI (flA (knw h 32)) o_thieves 12) (clrJ (flA (knw h 32)) o_marked_words 256) (bcS (hI (flA (knw h 32)) o_thieves 12)).toNatClampNeg
noncomputable def gaD (h : Hp) : Hp := wI (wI (gaG h) o_thieves 10 (fst (wnP (gaG h) (hI h o_wall 5)) 14 0)) o_thieves 11 (nI (cnt (tkP (gaG h)) 14))
noncomputable def gaA (h : Hp) : Hp := @ite _ (hI h o_thieves 13 &&& 32 = 0) (Classical.propDecidable _) (gaD h) (knw h 32)
theorem m_play (hd : 5 ≤ d) (q : coreOk h) : M cx jX9_play d a [.ref o_thieves] h (RV (gaA h)) := by
  obtain ⟨⟨m, hm, ec⟩, q2⟩ := id q
  obtain ⟨f, hf⟩ : ∃ f, f = flA (knw h 32) := ⟨_, rfl⟩
  obtain ⟨c, hc⟩ : ∃ c, c = hI f o_thieves 12 := ⟨_, rfl⟩
  have ecm : c = nI m := by rw [hc, hf, core_fl (by decide) q, ec]
  obtain ⟨g0, hg0⟩ : ∃ g0, g0 = clrJ f o_marked_words 256 := ⟨_, rfl⟩
  have i0 : ∀ o k, hI g0 o k = hI f o k := fun o k => by rw [hg0]; rfl
  have fG : gaG h = gaH c g0 (bcS c).toNatClampNeg := by unfold gaG; rw [← hf, ← hc, ← hg0]
  have gT : hI (gaG h) o_wall 5 = hI h o_wall 5 := by rw [fG, gaH_I, i0, hf, flA_I (by decide), knw_I (Or.inl (by decide))]
  have hl := clamp_lt (bcS c)
  obtain ⟨W0, hW0⟩ : ∃ w, w = fst (wnP (gaG h) (hI h o_wall 5)) 14 0 := ⟨_, rfl⟩
  have tail : ∀ n k, n + k = 14 → ∀ w1 w2 w4, E cx jX9_play d a 95 [some (.ref o_thieves), w1, w2, some (.int (nI k)), w4] [] (wI (wI (gaG h) o_thieves 10 W0) o_thieves 11 (nI (cnt (tkP (gaG h)) k))) (RV (gaD h)) := by
    intro n
    induction n with
    | zero =>
      intro k hk w1 w2 w4
      obtain rfl : k = 14 := by omega
      refine e_clr 1 (e_clr 2 (e_clr 4 (eX9_play (And.intro (fun _ => eX9_play ⟨rfl, ?_⟩) (fun q => absurd (nI_le (a := 14) (b := 14) (Nat.le_refl _) (by decide)) q)))))
      unfold gaD; rw [← hW0]
    | succ n ih =>
      intro k hk w1 w2 w4
      have eI : ∀ v o q, o ≠ 91 → hI (wI (wI (gaG h) o_thieves 10 W0) o_thieves 11 v) o q = hI (gaG h) o q := fun v o q n => by rw [rd_o n, rd_o n]
      have go : ∀ v w4, cnt (tkP (gaG h)) (k + 1) = v → E cx jX9_play d a 151 [some (.ref o_thieves), none, none, some (.int (nI k)), w4] [] (wI (wI (gaG h) o_thieves 10 W0) o_thieves 11 (nI v)) (RV (gaD h)) := fun v w4 ev => by
        subst ev
        refine eX9_play (e_eq (ih (k + 1) (by omega) none none w4) ?_ rfl rfl)
        rw [nI_succ]; rfl
      refine e_clr 1 (e_clr 2 (e_clr 4 (eX9_play (And.intro (fun q => absurd q (nI_ge (a := k) (b := 14) (by omega) (by decide))) (fun _ => And.intro (fun z => go _ _ ?_) (fun z => wcV (m_has_lawful (by omega)) (And.intro (fun y => go _ _ ?_) (fun y => ?_))))))))
      · have z : ((1 : Int32) <<< (nI k &&& 31)) &&& hI (wI (wI (gaG h) o_thieves 10 W0) o_thieves 11 (nI (cnt (tkP (gaG h)) k))) o_wall 5 = 0 := z
        rw [eI _ _ _ (by decide)] at z
        rw [cnt_f (fun x => x.1 z)]
      · have y : ¬ inSI (gaG h) o_lawful_words (hI (wI (wI (gaG h) o_thieves 10 W0) o_thieves 11 (nI (cnt (tkP (gaG h)) k))) o_wall 5 &&& ((((1 : Int32) <<< (nI k &&& 31)) &&& hI (wI (wI (gaG h) o_thieves 10 W0) o_thieves 11 (nI (cnt (tkP (gaG h)) k))) o_wall 5) ^^^ -1)) := b2i_0.mp y
        rw [eI _ _ _ (by decide)] at y
        rw [cnt_f (fun x => y x.2)]
      · have y : inSI (gaG h) o_lawful_words (hI (wI (wI (gaG h) o_thieves 10 W0) o_thieves 11 (nI (cnt (tkP (gaG h)) k))) o_wall 5 &&& ((((1 : Int32) <<< (nI k &&& 31)) &&& hI (wI (wI (gaG h) o_thieves 10 W0) o_thieves 11 (nI (cnt (tkP (gaG h)) k))) o_wall 5) ^^^ -1)) := b2i_n y
        have z : ¬ ((1 : Int32) <<< (nI k &&& 31)) &&& hI (wI (wI (gaG h) o_thieves 10 W0) o_thieves 11 (nI (cnt (tkP (gaG h)) k))) o_wall 5 = 0 := z
        rw [eI _ _ _ (by decide)] at y z
        refine e_eq (go (cnt (tkP (gaG h)) k + 1) _ (cnt_t ⟨z, y⟩)) rfl rfl ?_
        show wI (wI (wI (gaG h) o_thieves 10 W0) o_thieves 11 (nI (cnt (tkP (gaG h)) k))) o_thieves 11 (hI (wI (wI (gaG h) o_thieves 10 W0) o_thieves 11 (nI (cnt (tkP (gaG h)) k))) o_thieves 11 + 1) = _
        rw [rd_same, wI_wI, ← nI_succ]
  have loop : ∀ n i, n + i = (bcS c).toNatClampNeg → E cx jX9_play d a 33 [some (.ref o_thieves), some (.int (bcS c)), some (.int (lpS (nxU c) 0 i)), some (.int (nI i)), none] [] (gaH c g0 i) (RV (gaD h)) := by
    intro n
    induction n with
    | zero =>
      intro i hi
      have eG : gaH c g0 i = gaG h := by rw [fG, ← hi]; simp
      rw [eG]
      refine eX9_play (And.intro (fun _ => eX9_play (wcV (m_winningIn (by omega)) (e_eq (tail 14 0 rfl _ _ _) rfl rfl ?_))) (fun q => absurd ((lt_clamp (by omega)).mp q) (by omega)))
      show wI (wI (gaG h) o_thieves 10 (fst (wnP (gaG h) (hI (gaG h) o_wall 5)) 14 0)) o_thieves 11 0 = _
      rw [gT, ← hW0]; rfl
    | succ n ih =>
      intro i hi
      obtain ⟨jj, hj, ej⟩ := lpU_nI ecm hm i
      have go : ∀ g', gaH c g0 (i + 1) = g' → E cx jX9_play d a 55 [some (.ref o_thieves), some (.int (bcS c)), some (.int (lpS (nxU c) 0 i)), some (.int (nI i)), none] [] g' (RV (gaD h)) := fun g' eg => by
        have e12 : hI g' o_thieves 12 = c := by rw [← eg, gaH_I, i0, hc]
        subst eg
        refine eX9_play (e_eq (ih (i + 1) (by omega)) ?_ rfl rfl)
        rw [nI_succ, e12]; rfl
      refine eX9_play (And.intro (fun q => absurd ((lt_clamp (by omega)).mpr (by omega)) (fun z => z q)) (fun _ => wcV (m_winningIn (by omega)) (And.intro (fun z => go _ ?_) (fun z => wcV0 (m_add_marked (by omega) ej hj) (go _ ?_)))))
      · rw [gaH_s]; unfold gaB; rw [if_pos z]
      · rw [gaH_s]; unfold gaB; rw [if_neg z, ej, nI_clamp (by omega)]
  refine sX9_play rfl (wcV m_isDue (And.intro (fun z => eX9_play ?_) (fun z => ⟨rfl, ?_⟩)))
  · have fA : gaA h = gaD h := if_pos (b2i_n z)
    rw [fA]
    refine wcV0 (m_findLawful (h := knw h 32) (by omega) (by rw [knw_I (Or.inl (by decide)), setR_knw]; exact ec) hm) (wp_hp (g := f) hf.symm (wcV0 m_clear_marked (wp_hp (g := g0) hg0.symm (wcS (m_setsOf (by omega)) ?_)))) (hok := Or.inr flA_N)
    refine e_eq (loop _ 0 (by rw [Nat.add_zero])) ?_ rfl rfl
    rw [i0, ← hc]; rfl
  · exact (if_neg (b2i_0.mp z)).symm
/-! steps -/
def lmP (g : Hp) (s t : Int32) (k : Nat) : Prop := ¬ (((1 : Int32) <<< (nI k &&& 31)) &&& s &&& t) = 0 ∧ inSI g o_marked_words (s &&& ((((1 : Int32) <<< (nI k &&& 31)) &&& s &&& t) ^^^ -1))
theorem m_lowestMarked (hd : 2 ≤ d) {s t : Int32} : M cx jX9_lowestMarked d a [.ref o_thieves, .int s, .int t] h (RQ (.int (fst (lmP h s t) 14 0)) h) := by
  have loop : ∀ n k, n + k = 14 → fst (lmP h s t) n k = fst (lmP h s t) 14 0 → E cx jX9_lowestMarked d a 2 [some (.ref o_thieves), some (.int s), some (.int t), some (.int (nI k)), none] [] h (RQ (.int (fst (lmP h s t) 14 0)) h) := by
    intro n
    induction n with
    | zero =>
      intro k hk hf
      obtain rfl : k = 14 := by omega
      exact eX9_lowestMarked (And.intro (fun _ => eX9_lowestMarked (RQ_eq hf)) (fun q => absurd (nI_le (a := 14) (b := 14) (Nat.le_refl _) (by decide)) q))
    | succ n ih =>
      intro k hk hf
      have go : ¬ lmP h s t k → ∀ w, E cx jX9_lowestMarked d a 40 [some (.ref o_thieves), some (.int s), some (.int t), some (.int (nI k)), w] [] h (RQ (.int (fst (lmP h s t) 14 0)) h) := fun q w => by
        refine e_clr 4 (eX9_lowestMarked (e_eq (ih (k + 1) (by omega) (by rw [← hf, fst_f q])) ?_ rfl rfl))
        rw [nI_succ]; rfl
      refine eX9_lowestMarked (And.intro (fun q => absurd q (nI_ge (a := k) (b := 14) (by omega) (by decide))) (fun _ => And.intro (fun q => go (fun z => z.1 q) _) (fun q => wcV (m_has_marked (by omega)) (And.intro (fun q2 => go (fun z => b2i_0.mp q2 z.2) _) (fun q2 => RQ_eq ?_)))))
      rw [← hf, fst_t ⟨q, b2i_n q2⟩]
  exact sX9_lowestMarked rfl (loop 14 0 rfl rfl)
theorem m_stepTaken (hd : 1 ≤ d) {i : Int32} {n : Nat} (en : hI h o_thieves 9 = nI n) (hn : n ≤ 14) : M cx jX9_stepTaken d a [.ref o_thieves, .int i] h (RQ (.int (if 0 ≤ i ∧ i < nI n then hI h o_th_steps i.toNatClampNeg else -1)) h) := by
  have ei : (0 ≤ i ∧ i ≤ hI h o_thieves 9 - 1) ↔ (0 ≤ i ∧ i < nI n) := by
    rw [en]
    have e1 : (nI n - 1).toInt = (n : Int) - 1 := pk_sub_toInt (a := n) (b := 1) (by omega) (by decide)
    rw [show (i ≤ nI n - 1) ↔ i.toInt ≤ (nI n - 1).toInt from Int32.le_iff_toInt_le, Int32.lt_iff_toInt_lt, e1, nI_toInt (by omega)]
    constructor
    · rintro ⟨x, y⟩; exact ⟨x, by omega⟩
    · rintro ⟨x, y⟩; exact ⟨x, by omega⟩
  refine sX9_stepTaken rfl (wcS m_isWithin (And.intro (fun z => eX9_stepTaken (eX9_stepTaken (RQ_eq ?_))) (fun z => And.intro (fun q => eX9_stepTaken (eX9_stepTaken (RQ_eq ?_))) (fun q => And.intro ?_ (eX9_stepTaken (RQ_eq ?_))))))
  · rw [if_neg (fun y => b2i_0.mp z (ei.mpr y))]
  · rw [if_neg (fun y => ?_)]
    have h1 := Int32.lt_iff_toInt_lt.mp y.2
    have h2 := Int32.le_iff_toInt_le.mp q
    rw [nI_toInt (by omega)] at h1
    have e : (14 : Int32).toInt = 14 := rfl
    omega
  · have y := b2i_n z
    show vp_in i 14
    rw [vp_in_iff]
    have h1 := Int32.le_iff_toInt_le.mp y.1
    have h2 := Int32.lt_iff_toInt_lt.mp (Int32.not_le.mp q)
    have e0 : (0 : Int32).toInt = 0 := rfl
    have e : (14 : Int32).toInt = 14 := rfl
    omega
  · rw [if_pos (ei.mp (b2i_n z))]; rfl
def nxD (c : Int32) : Int32 → Int32 := fun s => (s - 1) &&& c
theorem lpD_nI {c : Int32} {m : Nat} (ec : c = nI m) (hm : m < 16384) : ∀ i, ∃ j, j < 16384 ∧ lpS (nxD c) c i = nI j := by
  intro i
  cases i with
  | zero => exact ⟨m, hm, ec⟩
  | succ i => rw [lpS, nxD, ec]; exact and_nI _ hm
def ssP (t : Int32) (g : Hp) (s : Int32) : Prop := s = t ∨ (inSI g o_lawful_words s ∧ hw1_marked g s t 14)
noncomputable def ssB (t : Int32) (g : Hp) (s : Int32) : Hp := @ite _ (ssP t g s) (Classical.propDecidable _) (offM_stepsFound (addS g o_marked_words s.toNatClampNeg) (t &&& (s ^^^ -1))) g
noncomputable def ssH (t : Int32) (g : Hp) (n : Nat) : Hp := lpH (ssB t) (lpS (nxD t) t) g n
theorem ssH_s {t : Int32} {n : Nat} : ssH t g (n + 1) = ssB t (ssH t g n) (lpS (nxD t) t n) := rfl
theorem ssH_I {t : Int32} {n o k : Nat} (ne : o ≠ 97) : hI (ssH t g n) o k = hI g o k := by
  induction n with
  | zero => rfl
  | succ n ih =>
    rw [ssH_s]; unfold ssB; split
    · rw [offM_steps_I ne, hI_addS, ih]
    · exact ih
theorem ssH_2 {t : Int32} {n : Nat} : (ssH t g n).2.2 = g.2.2 := by
  induction n with
  | zero => rfl
  | succ n ih =>
    rw [ssH_s]; unfold ssB; split
    · rw [offM_steps_2]; exact ih
    · exact ih
noncomputable def ssA (h : Hp) : Hp := ssH (hI h o_wall 5) (clrJ h o_marked_words 256) (bcS (hI h o_wall 5)).toNatClampNeg
theorem m_findStepSets (hd : 4 ≤ d) {m : Nat} (et : hI h o_wall 5 = nI m) (hm : m < 16384) : M cx jX9_findStepSets d a [.ref o_thieves] h (RV (ssA h)) := by
  obtain ⟨t, ht⟩ : ∃ t, t = hI h o_wall 5 := ⟨_, rfl⟩
  obtain ⟨g0, hg0⟩ : ∃ g0, g0 = clrJ h o_marked_words 256 := ⟨_, rfl⟩
  have fD : ssA h = ssH t g0 (bcS t).toNatClampNeg := by unfold ssA; rw [← ht, ← hg0]
  have hl := clamp_lt (bcS t)
  have loop : ∀ n i, n + i = (bcS t).toNatClampNeg → E cx jX9_findStepSets d a 25 [some (.ref o_thieves), some (.int t), some (.int (bcS t)), some (.int (lpS (nxD t) t i)), some (.int (nI i))] [] (ssH t g0 i) (RV (ssA h)) := by
    intro n
    induction n with
    | zero =>
      intro i hi
      refine eX9_findStepSets (And.intro (fun _ => eX9_findStepSets ⟨rfl, ?_⟩) (fun q => absurd ((lt_clamp (by omega)).mp q) (by omega)))
      rw [fD, ← hi]; simp
    | succ n ih =>
      intro i hi
      obtain ⟨jj, hj, ej⟩ := lpD_nI (ht.trans et) hm i
      have go : ∀ g', ssH t g0 (i + 1) = g' → E cx jX9_findStepSets d a 83 [some (.ref o_thieves), some (.int t), some (.int (bcS t)), some (.int (lpS (nxD t) t i)), some (.int (nI i))] [] g' (RV (ssA h)) := fun g' eg => by
        subst eg
        refine eX9_findStepSets (e_eq (ih (i + 1) (by omega)) ?_ rfl rfl)
        rw [nI_succ]; rfl
      have no : ¬ ssP t (ssH t g0 i) (lpS (nxD t) t i) → ssH t g0 (i + 1) = ssH t g0 i := fun z => by rw [ssH_s]; unfold ssB; rw [if_neg z]
      have yes : ssP t (ssH t g0 i) (lpS (nxD t) t i) → E cx jX9_findStepSets d a 59 [some (.ref o_thieves), some (.int t), some (.int (bcS t)), some (.int (lpS (nxD t) t i)), some (.int (nI i))] [] (ssH t g0 i) (RV (ssA h)) := fun z => by
        refine eX9_findStepSets (wcV0 (m_add_marked (by omega) ej hj) (wcV0 (m_offer_stepsFound (by omega)) (go _ ?_) (hok := Or.inr (nx2 offM_steps_2))))
        rw [ssH_s]; unfold ssB; rw [if_pos z]
        have e : (lpS (nxD t) t i).toNatClampNeg = jj := by rw [ej, nI_clamp (by omega)]
        rw [e]
      refine eX9_findStepSets (And.intro (fun q => absurd ((lt_clamp (by omega)).mpr (by omega)) (fun z => z q)) (fun _ => And.intro (fun z => yes (Or.inl z)) (fun z => wcV (m_has_lawful (by omega)) (And.intro (fun y => go _ (no (fun x => x.elim z (fun x => b2i_0.mp y x.1)))) (fun y => wcV (m_hasWithOne_marked (by omega)) (And.intro (fun x => go _ (no (fun w => w.elim z (fun w => b2i_0.mp x w.2)))) (fun x => yes (Or.inr ⟨b2i_n y, b2i_n x⟩))))))))
  refine sX9_findStepSets rfl (wcV0 m_clear_marked (wp_hp (g := g0) hg0.symm (wcS (m_setsOf (by omega)) (e_eq (loop _ 0 (by rw [Nat.add_zero])) ?_ rfl rfl))))
  have e : hI g0 o_wall 5 = t := by rw [hg0, ht]; rfl
  show [_, some (Value.int (hI g0 o_wall 5)), some (Value.int (bcS (hI g0 o_wall 5))), some (Value.int (hI g0 o_wall 5)), _] = _
  rw [e]; rfl
end T27
end
section
/-! the order of the steps; walls copied -/
section T28
variable {cx : Cx} {d a : Nat} {h g : Hp}
def foP (l : Int32) (g : Hp) (s : Int32) : Prop := s = 0 ∨ (inSI g o_lawful_words (l ||| s) ∧ hwo_marked g (l ||| s) s 14)
noncomputable def foB (l : Int32) (g : Hp) (s : Int32) : Hp := @ite _ (foP l g s) (Classical.propDecidable _) (addS g o_marked_words (l ||| s).toNatClampNeg) g
noncomputable def foH (l t : Int32) (g : Hp) (n : Nat) : Hp := lpH (foB l) (lpS (nxU t) 0) g n
theorem foH_s {l t : Int32} {n : Nat} : foH l t g (n + 1) = foB l (foH l t g n) (lpS (nxU t) 0 n) := rfl
theorem foH_I {l t : Int32} {n o k : Nat} : hI (foH l t g n) o k = hI g o k := by
  induction n with
  | zero => rfl
  | succ n ih =>
    rw [foH_s]; unfold foB; split
    · exact ih
    · exact ih
theorem foH_2 {l t : Int32} {n : Nat} : (foH l t g n).2.2 = g.2.2 := by
  induction n with
  | zero => rfl
  | succ n ih =>
    rw [foH_s]; unfold foB; split
    · exact ih
    · exact ih
/-- the marked ways of taking t -/
noncomputable def foM (h : Hp) (t : Int32) : Hp := foH (hI h o_wall 5 &&& (t ^^^ -1)) t (clrJ h o_marked_words 256) (bcS t).toNatClampNeg
theorem foM_I {t : Int32} {o k : Nat} : hI (foM h t) o k = hI h o k := by unfold foM; rw [foH_I]; rfl
/-- what is left, and the heap, behind k looks for a step -/
noncomputable def foR (g : Hp) (t s0 : Int32) : Nat → Int32 × Hp
  | 0 => (s0, g)
  | k + 1 => if fst (lmP g (foR g t s0 k).1 t) 14 0 = -1 then foR g t s0 k else ((foR g t s0 k).1 &&& (((1 : Int32) <<< (fst (lmP g (foR g t s0 k).1 t) 14 0 &&& 31)) ^^^ -1), wI (wI (foR g t s0 k).2 o_th_steps k (fst (lmP g (foR g t s0 k).1 t) 14 0)) o_thieves 9 (nI (k + 1)))
theorem foR_2 {t s0 : Int32} {k : Nat} : (foR g t s0 k).2.2 = g.2 := by
  induction k with
  | zero => rfl
  | succ k ih =>
    rw [foR]; split
    · exact ih
    · exact ih
theorem foR_I {t s0 : Int32} {k o q : Nat} (n1 : o ≠ 100) (n2 : o ≠ 91) : hI (foR g t s0 k).2 o q = hI g o q := by
  induction k with
  | zero => rfl
  | succ k ih =>
    rw [foR]; split
    · exact ih
    · show hI (wI (wI (foR g t s0 k).2 o_th_steps k _) o_thieves 9 _) o q = _
      rw [rd_o n2, rd_o n1, ih]
theorem lmP_J {f : Hp} (e : f.2 = g.2) {s t : Int32} {k : Nat} : lmP f s t k ↔ lmP g s t k := by
  unfold lmP inSI inS hJ; rw [e]
theorem fst_cong {P R : Nat → Prop} (e : ∀ k, P k ↔ R k) : ∀ n k, fst P n k = fst R n k := by
  intro n
  induction n with
  | zero => intro k; rfl
  | succ n ih =>
    intro k
    rcases Classical.em (R k) with c | c
    · rw [fst_t c, fst_t ((e k).mpr c)]
    · rw [fst_f c, fst_f (fun z => c ((e k).mp z)), ih]
theorem m_findOrder (hd : 4 ≤ d) {t : Int32} {m n : Nat} (et : t = nI n) (hn : n < 16384) (ew : hI h o_wall 5 = nI m) (hm : m < 16384) : M cx jX9_findOrder d a [.ref o_thieves, .int t] h (RV (foR (foM h t) t (hI h o_wall 5) 14).2) := by
  obtain ⟨l, hL⟩ : ∃ l, l = hI h o_wall 5 &&& (t ^^^ -1) := ⟨_, rfl⟩
  obtain ⟨g0, hg0⟩ : ∃ g0, g0 = clrJ h o_marked_words 256 := ⟨_, rfl⟩
  have eF : foM h t = foH l t g0 (bcS t).toNatClampNeg := by unfold foM; rw [← hL, ← hg0]
  have hl := clamp_lt (bcS t)
  obtain ⟨jl, hjl, ejl⟩ : ∃ j, j < 16384 ∧ l = nI j := by
    have := and_nI (t ^^^ -1) hm
    obtain ⟨j, h1, h2⟩ := this
    refine ⟨j, h1, ?_⟩
    rw [hL, ew, ← h2]
    apply b_ext; intro i hi; rw [b_and, b_and, Bool.and_comm]
  have tail : ∀ n k, n + k = 14 → ∀ w2 w3 w4 w7, E cx jX9_findOrder d a 108 [some (.ref o_thieves), some (.int t), w2, w3, w4, some (.int (foR (foM h t) t (hI h o_wall 5) k).1), some (.int (nI k)), w7] [] (foR (foM h t) t (hI h o_wall 5) k).2 (RV (foR (foM h t) t (hI h o_wall 5) 14).2) := by
    intro n
    induction n with
    | zero =>
      intro k hk w2 w3 w4 w7
      obtain rfl : k = 14 := by omega
      exact e_clr 2 (e_clr 3 (e_clr 4 (e_clr 7 (eX9_findOrder (And.intro (fun _ => eX9_findOrder ⟨rfl, rfl⟩) (fun q => absurd (nI_le (a := 14) (b := 14) (Nat.le_refl _) (by decide)) q))))))
    | succ n ih =>
      intro k hk w2 w3 w4 w7
      have go : ∀ s' g' w7, foR (foM h t) t (hI h o_wall 5) (k + 1) = (s', g') → E cx jX9_findOrder d a 158 [some (.ref o_thieves), some (.int t), none, none, none, some (.int s'), some (.int (nI k)), w7] [] g' (RV (foR (foM h t) t (hI h o_wall 5) 14).2) := fun s' g' w7 e => by
        have i1 := ih (k + 1) (by omega) none none none w7
        rw [e] at i1
        refine eX9_findOrder (e_eq i1 ?_ rfl rfl)
        rw [nI_succ]; rfl
      have ef : fst (lmP (foR (foM h t) t (hI h o_wall 5) k).2 (foR (foM h t) t (hI h o_wall 5) k).1 t) 14 0 = fst (lmP (foM h t) (foR (foM h t) t (hI h o_wall 5) k).1 t) 14 0 := fst_cong (fun i => lmP_J foR_2) 14 0
      have c1 : (nI k).toNatClampNeg = k := nI_clamp (by omega)
      refine e_clr 2 (e_clr 3 (e_clr 4 (e_clr 7 (eX9_findOrder (And.intro (fun q => absurd q (nI_ge (a := k) (b := 14) (by omega) (by decide))) (fun _ => wcV (m_lowestMarked (by omega)) (wp_top (v' := .int (fst (lmP (foM h t) (foR (foM h t) t (hI h o_wall 5) k).1 t) 14 0)) (congrArg Value.int ef) (And.intro (fun z => go _ _ _ ?_) (fun z => And.intro (vp_in_nI (N := 14) (by omega) (by decide)) (e_eq (go _ (wI (wI (foR (foM h t) t (hI h o_wall 5) k).2 o_th_steps k (fst (lmP (foM h t) (foR (foM h t) t (hI h o_wall 5) k).1 t) 14 0)) o_thieves 9 (nI (k + 1))) _ ?_) rfl rfl ?_))))))))))
      · rw [foR, if_pos z]
      · rw [foR, if_neg z]
      · show wI (wI _ o_th_steps (nI k).toNatClampNeg _) o_thieves 9 (nI k + 1) = _
        rw [c1, ← nI_succ]
  have loop : ∀ n i, n + i = (bcS t).toNatClampNeg → E cx jX9_findOrder d a 30 [some (.ref o_thieves), some (.int t), some (.int l), some (.int (bcS t)), some (.int (lpS (nxU t) 0 i)), some (.int (nI i)), none, none] [] (foH l t g0 i) (RV (foR (foM h t) t (hI h o_wall 5) 14).2) := by
    intro n
    induction n with
    | zero =>
      intro i hi
      have eG : foH l t g0 i = foM h t := by rw [eF, ← hi]; simp
      rw [eG]
      refine eX9_findOrder (And.intro (fun _ => eX9_findOrder (e_eq (tail 14 0 rfl (some (.int l)) (some (.int (bcS t))) (some (.int (lpS (nxU t) 0 i))) none) ?_ rfl rfl)) (fun q => absurd ((lt_clamp (by omega)).mp q) (by omega)))
      show [_, _, _, _, _, some (Value.int (hI (foM h t) o_wall 5)), _, _] = _
      rw [foM_I]; rfl
    | succ n ih =>
      intro i hi
      obtain ⟨jj, hj, ej⟩ := lpU_nI et hn i
      have eo : l ||| lpS (nxU t) 0 i = nI (jl ||| jj) := by
        rw [ejl, ej]
        apply Int32.toBitVec_inj.mp
        apply BitVec.eq_of_toNat_eq
        have hb : jl ||| jj < 2 ^ 14 := Nat.or_lt_two_pow hjl hj
        have e1 : (nI jl).toBitVec.toNat = jl := pk_tn (by omega)
        have e2 : (nI jj).toBitVec.toNat = jj := pk_tn (by omega)
        have e3 : (nI (jl ||| jj)).toBitVec.toNat = jl ||| jj := pk_tn (by omega)
        rw [Int32.toBitVec_or, BitVec.toNat_or, e1, e2, e3]
      have hb : jl ||| jj < 16384 := Nat.or_lt_two_pow (n := 14) hjl hj
      have go : ∀ g', foH l t g0 (i + 1) = g' → E cx jX9_findOrder d a 82 [some (.ref o_thieves), some (.int t), some (.int l), some (.int (bcS t)), some (.int (lpS (nxU t) 0 i)), some (.int (nI i)), none, none] [] g' (RV (foR (foM h t) t (hI h o_wall 5) 14).2) := fun g' eg => by
        subst eg
        refine eX9_findOrder (e_eq (ih (i + 1) (by omega)) ?_ rfl rfl)
        rw [nI_succ]; rfl
      have no : ¬ foP l (foH l t g0 i) (lpS (nxU t) 0 i) → foH l t g0 (i + 1) = foH l t g0 i := fun z => by rw [foH_s]; unfold foB; rw [if_neg z]
      have yes : foP l (foH l t g0 i) (lpS (nxU t) 0 i) → E cx jX9_findOrder d a 71 [some (.ref o_thieves), some (.int t), some (.int l), some (.int (bcS t)), some (.int (lpS (nxU t) 0 i)), some (.int (nI i)), none, none] [] (foH l t g0 i) (RV (foR (foM h t) t (hI h o_wall 5) 14).2) := fun z => by
        refine eX9_findOrder (wcV0 (m_add_marked (by omega) eo hb) (go _ ?_))
        rw [foH_s]; unfold foB; rw [if_pos z, eo, nI_clamp (by omega)]
      refine eX9_findOrder (And.intro (fun q => absurd ((lt_clamp (by omega)).mpr (by omega)) (fun z => z q)) (fun _ => And.intro (fun z => yes (Or.inl z)) (fun z => wcV (m_has_lawful (by omega)) (And.intro (fun y => go _ (no (fun x => x.elim z (fun x => b2i_0.mp y x.1)))) (fun y => wcV (m_hasWithoutOne_marked (by omega)) (And.intro (fun x => go _ (no (fun w => w.elim z (fun w => b2i_0.mp x w.2)))) (fun x => yes (Or.inr ⟨b2i_n y, b2i_n x⟩))))))))
  refine sX9_findOrder rfl (wcS (m_setsOf (by omega)) (wcV0 m_clear_marked (wp_hp (g := g0) hg0.symm (e_eq (loop _ 0 (by rw [Nat.add_zero])) ?_ rfl rfl))))
  rw [hL]; rfl
/-! one by one -/
noncomputable def isF (h : Hp) : Hp := wI (clrM (flA (knw h 4)) o_stepsFound) o_thieves 9 0
noncomputable def isG (h : Hp) : Hp := ssA (isF h)
noncomputable def isD (h : Hp) : Hp := @ite _ (inSI (isF h) o_lawful_words (hI h o_wall 5)) (Classical.propDecidable _) (foR (foM (isG h) (hI (isG h) o_stepsFound 2)) (hI (isG h) o_stepsFound 2) (hI h o_wall 5) 14).2 (isF h)
noncomputable def isA (h : Hp) : Hp := @ite _ (hI h o_thieves 13 &&& 4 = 0) (Classical.propDecidable _) (isD h) (knw h 4)
theorem isF_I {o k : Nat} (n1 : o ≠ 91) (n2 : o ≠ 97) : hI (isF h) o k = hI h o k := by
  unfold isF; rw [rd_o n1, clrM_I n2, flA_I n1, knw_I (Or.inl n1)]
theorem ssA_I {o k : Nat} (ne : o ≠ 97) : hI (ssA h) o k = hI h o k := by unfold ssA; rw [ssH_I ne]; rfl
theorem m_inSteps (hd : 5 ≤ d) {m m2 n : Nat} (ec : setR h 22 (hI h o_wall 5) = nI m) (hm : m < 16384) (ew : hI h o_wall 5 = nI m2) (hm2 : m2 < 16384) (ek : inSI (isF h) o_lawful_words (hI h o_wall 5) → hI (isG h) o_stepsFound 2 = nI n ∧ n < 16384) : M cx jX9_inSteps d a [.ref o_thieves] h (RQ (.ref o_stepsFound) (isA h)) := by
  obtain ⟨f, hf⟩ : ∃ f, f = flA (knw h 4) := ⟨_, rfl⟩
  have hF : isF h = wI (clrM f o_stepsFound) o_thieves 9 0 := by unfold isF; rw [← hf]
  have fT : hI (isF h) o_wall 5 = hI h o_wall 5 := isF_I (by decide) (by decide)
  refine sX9_inSteps rfl (wcV m_isDue (And.intro (fun z => eX9_inSteps ⟨rfl, ?_⟩) (fun z => ?_)))
  · exact (if_neg (b2i_0.mp z)).symm
  · have fA : isA h = isD h := if_pos (b2i_n z)
    rw [fA]
    refine wcV0 (m_findLawful (h := knw h 4) (by omega) (by rw [knw_I (Or.inl (by decide)), setR_knw]; exact ec) hm) (wp_hp (g := f) hf.symm (wcV0 m_clear_stepsFound ?_)) (hok := Or.inr flA_N)
    have fT2 : hI (wI (clrM f o_stepsFound) o_thieves 9 0) o_wall 5 = hI h o_wall 5 := by rw [← hF]; exact fT
    have gT : hI (isG h) o_wall 5 = hI h o_wall 5 := by unfold isG; rw [ssA_I (by decide), fT]
    refine wcV (m_has_lawful (h := wI (clrM f o_stepsFound) o_thieves 9 0) (by omega)) (And.intro (fun y => eX9_inSteps ⟨rfl, ?_⟩) (fun y => ?_))
    · have y := b2i_0.mp y
      have y : ¬ inSI (isF h) o_lawful_words (hI h o_wall 5) := by rw [hF, ← fT2]; exact y
      unfold isD; rw [if_neg y, hF]
    · have y := b2i_n y
      have y : inSI (isF h) o_lawful_words (hI h o_wall 5) := by rw [hF, ← fT2]; exact y
      obtain ⟨e1, e2⟩ := ek y
      have eG : ssA (wI (clrM f o_stepsFound) o_thieves 9 0) = isG h := by unfold isG; rw [hF]
      refine wcV0 (m_findStepSets (h := wI (clrM f o_stepsFound) o_thieves 9 0) (by omega) (fT2.trans ew) hm2) (wp_hp (g := isG h) eG (wcV0 (m_findOrder (h := isG h) (by omega) e1 e2 (gT.trans ew) hm2) (eX9_inSteps ⟨rfl, ?_⟩) (hok := Or.inr (nx2 foR_2 |>.trans (nx3 (by unfold foM; rw [foH_2]; rfl)))))) (hok := Or.inr (nx3 (by unfold ssA; rw [ssH_2]; rfl)))
      unfold isD; rw [if_pos y, gT]; rfl
end T28
end
section
/-! the model's plain methods -/
abbrev Wd : Type := Nat → Int32
section T40
variable {cx : Cx} {d a : Nat} {h g : Hp}
theorem b2i_cg {p q : Prop} (e : p ↔ q) : b2i p = b2i q := by rw [propext e]
/-- the model's wall -/
abbrev kW (h : Hp) : Wd := hI h o_m_kept
theorem n_lies {v lo hi : Int32} : M cx jX12_lies d a [.int v, .int lo, .int hi] h (RQ (.int (b2i (lo ≤ v ∧ v ≤ hi))) h) := by
  refine sX12_lies rfl (And.intro (fun q1 => (eX12_lies (eX12_lies (And.intro (Or.inl rfl) (RQ_eq (b2i_f ?_).symm))))) (fun q1 => (And.intro (fun q2 => (eX12_lies (eX12_lies (And.intro (Or.inl rfl) (RQ_eq (b2i_f ?_).symm))))) (fun q2 => (eX12_lies (And.intro (Or.inr rfl) (RQ_eq (b2i_t ?_).symm)))))))
  · exact fun q => absurd q1 (Int32.not_lt.mpr q.1)
  · exact fun q => absurd q2 (Int32.not_lt.mpr q.2)
  · exact ⟨Int32.not_lt.mp q1, Int32.not_lt.mp q2⟩
def nrefH (h : Hp) (k : Int32) (n : Nat) : Hp := wI (wI h o_m 0 k) o_m_refused n (hI h o_m_refused n + 1)
theorem n_refuses {k : Int32} {n : Nat} (ek : -k = nI n) (hn : n < 7) : M cx jX12_refuses d a [.ref o_m, .int k] h (RQ (.int k) (nrefH h k n)) := by
  have e1 : (-k).toNatClampNeg = n := by rw [ek, nI_clamp (by omega)]
  have e2 : vp_in (-k) 7 := by rw [ek]; exact vp_in_nI hn (by decide)
  refine sX12_refuses rfl (And.intro e2 (And.intro e2 ⟨rfl, ?_⟩))
  rw [e1]; unfold nrefH; rw [rd_o (by decide)]; rfl
def ngoodH (h : Hp) : Hp := wI (wI h o_m 0 0) o_m 1 (hI h o_m 1 + 1)
theorem n_good {v : Int32} : M cx jX12_good d a [.ref o_m, .int v] h (RQ (.int v) (ngoodH h)) := by
  refine sX12_good rfl ⟨rfl, ?_⟩
  unfold ngoodH; rw [rd_k (by decide)]
theorem n_isIn {s k : Int32} : M cx jX12_isIn d a [.int s, .int k] h (RQ (.int (b2i ((s >>> (k &&& 31)) &&& 1 = 1))) h) := by
  refine sX12_isIn rfl (And.intro (fun q1 => (eX12_isIn (eX12_isIn (And.intro (Or.inl rfl) (RQ_eq (b2i_f q1).symm))))) (fun q1 => (eX12_isIn (And.intro (Or.inr rfl) (RQ_eq (b2i_t q1).symm)))))
def onesR (s : Int32) : Nat → Int32
  | 0 => 0
  | k + 1 => onesR s k + ((s >>> (nI k &&& 31)) &&& 1)
theorem n_ones {s : Int32} : M cx jX12_ones d a [.int s] h (RQ (.int (onesR s 22)) h) := by
  have loop : ∀ n k, n + k = 22 → E cx jX12_ones d a 4 [some (.int s), some (.int (onesR s k)), some (.int (nI k))] [] h (RQ (.int (onesR s 22)) h) := by
    intro n
    induction n with
    | zero =>
      intro k hk
      obtain rfl : k = 22 := by omega
      exact eX12_ones (And.intro (fun _ => eX12_ones (RQ_eq rfl)) (fun q => absurd (nI_le (a := 22) (b := 22) (Nat.le_refl _) (by decide)) q))
    | succ n ih =>
      intro k hk
      refine eX12_ones (And.intro (fun q => absurd q (nI_ge (a := k) (b := 22) (by omega) (by decide))) (fun _ => ?_))
      have := ih (k + 1) (by omega)
      rw [nI_succ] at this
      exact this
  exact sX12_ones rfl (loop 22 0 rfl)
theorem n_stones : M cx jX12_stones d a [.ref o_m] h (RQ (.int (kW h 157)) h) := sX12_stones rfl (And.intro (vp_in_nI (n := 157) (by decide) (by decide)) (RQ_eq rfl))
theorem n_spares : M cx jX12_spares d a [.ref o_m] h (RQ (.int (kW h 158)) h) := sX12_spares rfl (And.intro (vp_in_nI (n := 158) (by decide) (by decide)) (RQ_eq rfl))
def cStone (w : Wd) (p : Int32) : Prop := 0 ≤ p ∧ p ≤ w 157 - 1
theorem n_isStone (hd : 1 ≤ d) {p : Int32} : M cx jX12_isStone d a [.ref o_m, .int p] h (RQ (.int (b2i (cStone (kW h) p))) h) :=
  sX12_isStone rfl (wcV n_stones (wcS n_lies (And.intro b2i_B (RQ_eq rfl))))
theorem ix_7 {k f : Nat} : (7 : Int32) * nI k + nI f = nI (7 * k + f) := by rw [show (7 : Int32) = nI 7 from rfl, pk_mul, nI_add]
theorem n_factOf {k f : Nat} {p q : Int32} (ep : p = nI k) (eq : q = nI f) (hk : k < 22) (hf : f < 7) : M cx jX12_factOf d a [.ref o_m, .int p, .int q] h (RQ (.int (kW h (7 * k + f))) h) := by
  subst ep; subst eq
  have e0 := ix_7 (k := k) (f := f)
  have e1 : ((7 : Int32) * nI k + nI f).toNatClampNeg = 7 * k + f := by rw [e0, nI_clamp (by omega)]
  have e2 : vp_in ((7 : Int32) * nI k + nI f) 4968 := by rw [e0]; exact vp_in_nI (by omega) (by decide)
  refine sX12_factOf rfl (And.intro e2 (RQ_eq ?_))
  rw [e1]; rfl
def cItem (w : Wd) (k : Nat) : Prop := (k < 14 ∧ cStone w (nI k)) ∨ (14 ≤ k ∧ nI k - 14 < w 158)
theorem n_isItem (hd : 2 ≤ d) {k : Nat} {p : Int32} (ep : p = nI k) (hk : k < 22) : M cx jX12_isItem d a [.ref o_m, .int p] h (RQ (.int (b2i (cItem (kW h) k))) h) := by
  subst ep
  refine sX12_isItem rfl (And.intro (fun q1 => (eX12_isItem (wcV n_spares (And.intro (fun q2 => (eX12_isItem (eX12_isItem (And.intro (Or.inl rfl) (RQ_eq (b2i_f ?_).symm))))) (fun q2 => (eX12_isItem (And.intro (Or.inr rfl) (RQ_eq (b2i_t (Or.inr ?_)).symm)))))))) (fun q1 => (wcV (n_isStone (by omega)) (eX12_isItem (And.intro b2i_B (RQ_eq ?_))))))
  · have hk14 : 14 ≤ k := Nat.le_of_not_lt fun n => absurd q1 (nI_ge (a := k) (b := 14) n (by decide))
    rintro (z | z)
    · omega
    · exact absurd z.2 (Int32.not_lt.mpr q2)
  · exact ⟨Nat.le_of_not_lt fun n => absurd q1 (nI_ge (a := k) (b := 14) n (by decide)), Int32.not_le.mp q2⟩
  · have hk14 : k < 14 := Nat.lt_of_not_le fun n => q1 (nI_le (a := 14) (b := k) n (by omega))
    refine b2i_cg ⟨fun z => Or.inl ⟨hk14, z⟩, ?_⟩
    rintro (z | z)
    · exact z.2
    · omega
def cCov (w : Wd) (k : Nat) (x y : Int32) : Prop := (w (7 * k + 0) ≤ x ∧ x ≤ w (7 * k + 0) + w (7 * k + 2) - 1) ∧ (w (7 * k + 1) ≤ y ∧ y ≤ w (7 * k + 1) + w (7 * k + 3) - 1)
theorem n_covers (hd : 1 ≤ d) {k : Nat} {p x y : Int32} (ep : p = nI k) (hk : k < 22) : M cx jX12_covers d a [.ref o_m, .int p, .int x, .int y] h (RQ (.int (b2i (cCov (kW h) k x y))) h) := by
  have f : ∀ (n : Nat) (q : Int32), q = nI n → n < 7 → M cx jX12_factOf (d - 1) 0 [.ref o_m, .int p, .int q] h (RQ (.int (kW h (7 * k + n))) h) := fun n q eq hn => n_factOf ep eq hk hn
  refine sX12_covers rfl (wcV (f 0 _ rfl (by decide)) (wcV (f 0 _ rfl (by decide)) (wcV (f 2 _ rfl (by decide)) (wcS n_lies (And.intro (fun q1 => (eX12_covers (eX12_covers (And.intro (Or.inl rfl) (RQ_eq (b2i_f ?_).symm))))) (fun q1 => (wcV (f 1 _ rfl (by decide)) (wcV (f 1 _ rfl (by decide)) (wcV (f 3 _ rfl (by decide)) (wcS n_lies (And.intro (fun q2 => (eX12_covers (eX12_covers (And.intro (Or.inl rfl) (RQ_eq (b2i_f ?_).symm))))) (fun q2 => (eX12_covers (And.intro (Or.inr rfl) (RQ_eq (b2i_t ?_).symm)))))))))))))))
  · exact fun z => b2i_0.mp q1 z.1
  · exact fun z => b2i_0.mp q2 z.2
  · exact ⟨b2i_n q1, b2i_n q2⟩
def cCan (x y wd tl wt : Int32) : Prop := ((1 : Int32) ≤ wd ∧ wd ≤ 6) ∧ ((1 : Int32) ≤ tl ∧ tl ≤ 6) ∧ ((0 : Int32) ≤ x ∧ x ≤ 12 - wd) ∧ ((0 : Int32) ≤ y ∧ y ≤ 8 - tl) ∧ ((1 : Int32) ≤ wt ∧ wt ≤ 99)
theorem n_canBe (hd : 1 ≤ d) {x y wd tl wt : Int32} : M cx jX12_canBe d a [.int x, .int y, .int wd, .int tl, .int wt] h (RQ (.int (b2i (cCan x y wd tl wt))) h) := by
  have no : ¬ cCan x y wd tl wt → E cx jX12_canBe d a 59 [some (.int x), some (.int y), some (.int wd), some (.int tl), some (.int wt)] [] h (RQ (.int (b2i (cCan x y wd tl wt))) h) := fun z => eX12_canBe (eX12_canBe (And.intro (Or.inl rfl) (RQ_eq (b2i_f z).symm)))
  refine sX12_canBe rfl (wcS n_lies (And.intro (fun q1 => no fun z => b2i_0.mp q1 z.1) (fun q1 => (wcS n_lies (And.intro (fun q2 => no fun z => b2i_0.mp q2 z.2.1) (fun q2 => (wcS n_lies (And.intro (fun q3 => no fun z => b2i_0.mp q3 z.2.2.1) (fun q3 => (wcS n_lies (And.intro (fun q4 => no fun z => b2i_0.mp q4 z.2.2.2.1) (fun q4 => (wcS n_lies (And.intro (fun q5 => no fun z => b2i_0.mp q5 z.2.2.2.2) (fun q5 => (eX12_canBe (And.intro (Or.inr rfl) (RQ_eq (b2i_t ⟨b2i_n q1, b2i_n q2, b2i_n q3, b2i_n q4, b2i_n q5⟩).symm))))))))))))))))))
end T40
end
section
/-! the model: room for a stone, what is laid -/
section T41
variable {cx : Cx} {d a : Nat} {h g : Hp}
/-- cell k of an oblong from x, y on, wd cells wide, belongs to item i -/
def cHit (w : Wd) (x y : Int32) (wd i k : Nat) : Prop := cItem w i ∧ cCov w i (x + nI (k % wd)) (y + nI (k / wd))
theorem n_isFree (hd : 3 ≤ d) {x y : Int32} {A B : Nat} {p q : Int32} (ep : p = nI A) (eq : q = nI B) (hA : 0 < A) (hA6 : A ≤ 6) (hB : B ≤ 6) : M cx jX12_isFree d a [.ref o_m, .int x, .int y, .int p, .int q] h (RQ (.int (b2i (∀ i, i < 22 → ∀ k, k < A * B → ¬ cHit (kW h) x y A i k))) h) := by
  subst ep; subst eq
  have hAB : A * B ≤ 36 := Nat.mul_le_mul hA6 hB
  have em : nI A * nI B = nI (A * B) := pk_mul A B
  have hA0 : ¬ nI A = 0 := fun z => by
    have := congrArg Int32.toNatClampNeg z; rw [nI_clamp (by omega)] at this; exact absurd this (by show A ≠ 0; omega)
  have eD : ∀ k, k < 40 → nI k / nI A = nI (k / A) := fun k hk => pk_div (by omega) hA (by omega)
  have eR : ∀ k, k < 40 → nI k - nI k / nI A * nI A = nI (k % A) := fun k hk => pk_rem (by omega) hA (by omega)
  have loop : ∀ n i, n + i = 22 → (∀ e, e < i → ∀ k, k < A * B → ¬ cHit (kW h) x y A e k) → ∀ w6, E cx jX12_isFree d a 3 [some (.ref o_m), some (.int x), some (.int y), some (.int (nI A)), some (.int (nI B)), some (.int (nI i)), w6] [] h (RQ (.int (b2i (∀ i, i < 22 → ∀ k, k < A * B → ¬ cHit (kW h) x y A i k))) h) := by
    intro n
    induction n with
    | zero =>
      intro i hi H w6
      obtain rfl : i = 22 := by omega
      exact eX12_isFree (And.intro (fun _ => eX12_isFree (And.intro (Or.inr rfl) (RQ_eq (b2i_t H).symm))) (fun q => absurd (nI_le (a := 22) (b := 22) (Nat.le_refl _) (by decide)) q))
    | succ n ih =>
      intro i hi H w6
      have inner : ∀ n2 k, n2 + k = A * B → (∀ e, e < k → ¬ cHit (kW h) x y A i e) → E cx jX12_isFree d a 13 [some (.ref o_m), some (.int x), some (.int y), some (.int (nI A)), some (.int (nI B)), some (.int (nI i)), some (.int (nI k))] [] h (RQ (.int (b2i (∀ i, i < 22 → ∀ k, k < A * B → ¬ cHit (kW h) x y A i k))) h) := by
        intro n2
        induction n2 with
        | zero =>
          intro k hk H2
          obtain rfl : k = A * B := by omega
          refine eX12_isFree (And.intro (fun _ => eX12_isFree ?_) (fun q => absurd (by rw [em]; exact Int32.le_refl _) q))
          have := ih (i + 1) (by omega) (fun e he k hk => by
            rcases Nat.lt_succ_iff_lt_or_eq.mp he with he | rfl
            · exact H e he k hk
            · exact H2 k hk) (some (.int (nI (A * B))))
          rw [nI_succ] at this
          exact this
        | succ n2 ih2 =>
          intro k hk H2
          have go : ¬ cHit (kW h) x y A i k → E cx jX12_isFree d a 54 [some (.ref o_m), some (.int x), some (.int y), some (.int (nI A)), some (.int (nI B)), some (.int (nI i)), some (.int (nI k))] [] h (RQ (.int (b2i (∀ i, i < 22 → ∀ k, k < A * B → ¬ cHit (kW h) x y A i k))) h) := fun z => by
            have := ih2 (k + 1) (by omega) (fun e he => by
              rcases Nat.lt_succ_iff_lt_or_eq.mp he with he | rfl
              · exact H2 e he
              · exact z)
            rw [nI_succ] at this
            exact eX12_isFree this
          refine eX12_isFree (And.intro (fun q => absurd q (by rw [em]; exact nI_ge (by omega) (by omega))) (fun _ => wcV (n_isItem (by omega) rfl (by omega)) (And.intro (fun q1 => go fun z => b2i_0.mp q1 z.1) (fun q1 => And.intro hA0 (And.intro hA0 (wcV (n_covers (by omega) rfl (by omega)) (And.intro (fun q2 => go ?_) (fun q2 => And.intro (Or.inl rfl) (RQ_eq (b2i_f ?_).symm)))))))))
          · intro z
            refine b2i_0.mp q2 ?_
            rw [eR k (by omega), eD k (by omega)]
            exact z.2
          · intro z
            have z2 := b2i_n q2
            rw [eR k (by omega), eD k (by omega)] at z2
            exact z i (by omega) k (by omega) ⟨b2i_n q1, z2⟩
      refine eX12_isFree (And.intro (fun q => absurd q (nI_ge (a := i) (b := 22) (by omega) (by decide))) (fun _ => ?_))
      exact inner (A * B) 0 rfl (fun e he => by omega)
  exact sX12_isFree rfl (loop 22 0 rfl (fun e he => by omega) none)
/-- what is laid at place k -/
def nlayH (h : Hp) (k : Nat) (x y wd tl wt : Int32) : Hp := wI (wI (wI (wI (wI (wI (wI h o_m_kept (7 * k + 0) x) o_m_kept (7 * k + 1) y) o_m_kept (7 * k + 2) wd) o_m_kept (7 * k + 3) tl) o_m_kept (7 * k + 4) wt) o_m_kept (7 * k + 5) 0) o_m_kept (7 * k + 6) 0
theorem n_lays {k : Nat} {p x y wd tl wt : Int32} (ep : p = nI k) (hk : k < 22) : M cx jX12_lays d a [.ref o_m, .int p, .int x, .int y, .int wd, .int tl, .int wt] h (RV (nlayH h k x y wd tl wt)) := by
  subst ep
  have e0 : (7 : Int32) * nI k = nI (7 * k + 0) := by rw [show (7 : Int32) = nI 7 from rfl, pk_mul]; rfl
  have v : ∀ n, n < 7 → vp_in ((7 : Int32) * nI k + nI n) 4968 ∧ ((7 : Int32) * nI k + nI n).toNatClampNeg = 7 * k + n := fun n hn => by
    rw [ix_7]; exact ⟨vp_in_nI (by omega) (by decide), nI_clamp (by omega)⟩
  have v0 : vp_in ((7 : Int32) * nI k) 4968 ∧ ((7 : Int32) * nI k).toNatClampNeg = 7 * k + 0 := by
    rw [e0]; exact ⟨vp_in_nI (by omega) (by decide), nI_clamp (by omega)⟩
  refine sX12_lays rfl (And.intro v0.1 (And.intro (v 1 (by decide)).1 (And.intro (v 2 (by decide)).1 (And.intro (v 3 (by decide)).1 (And.intro (v 4 (by decide)).1 (And.intro (v 5 (by decide)).1 (And.intro (v 6 (by decide)).1 ⟨rfl, ?_⟩)))))))
  rw [v0.2]
  show wI (wI (wI (wI (wI (wI (wI h o_m_kept (7 * k + 0) x) o_m_kept ((7 : Int32) * nI k + nI 1).toNatClampNeg y) o_m_kept ((7 : Int32) * nI k + nI 2).toNatClampNeg wd) o_m_kept ((7 : Int32) * nI k + nI 3).toNatClampNeg tl) o_m_kept ((7 : Int32) * nI k + nI 4).toNatClampNeg wt) o_m_kept ((7 : Int32) * nI k + nI 5).toNatClampNeg 0) o_m_kept ((7 : Int32) * nI k + nI 6).toNatClampNeg 0 = _
  rw [(v 1 (by decide)).2, (v 2 (by decide)).2, (v 3 (by decide)).2, (v 4 (by decide)).2, (v 5 (by decide)).2, (v 6 (by decide)).2]
  rfl
def naddH (h : Hp) (n : Nat) (x y wd tl wt : Int32) : Hp := wI (wI (nlayH h n x y wd tl wt) o_m_kept 159 (kW (nlayH h n x y wd tl wt) 159 ||| ((1 : Int32) <<< (nI n &&& 31)))) o_m_kept 157 (kW (wI (nlayH h n x y wd tl wt) o_m_kept 159 (kW (nlayH h n x y wd tl wt) 159 ||| ((1 : Int32) <<< (nI n &&& 31)))) 157 + 1)
theorem n_adds (hd : 1 ≤ d) {n : Nat} {x y wd tl wt : Int32} (en : kW h 157 = nI n) (hn : n < 14) : M cx jX12_adds d a [.ref o_m, .int x, .int y, .int wd, .int tl, .int wt] h (RQ (.int (nI n)) (naddH h n x y wd tl wt)) := by
  refine sX12_adds rfl (wcV (v := .int (nI n)) (by rw [← en]; exact n_stones) (wcV0 (n_lays rfl (by omega)) (And.intro (vp_in_nI (n := 159) (by decide) (by decide)) (And.intro (vp_in_nI (n := 159) (by decide) (by decide)) (And.intro (vp_in_nI (n := 157) (by decide) (by decide)) (And.intro (vp_in_nI (n := 157) (by decide) (by decide)) ⟨rfl, rfl⟩))))))
end T41
end
section
/-! the model's public methods: stones, terms, the tape -/
section T42
variable {cx : Cx} {d a : Nat} {h g : Hp}
def cFree (w : Wd) (x y : Int32) (A B : Nat) : Prop := ∀ i, i < 22 → ∀ k, k < A * B → ¬ cHit w x y A i k
theorem can_nat {x y wd tl wt : Int32} (q : cCan x y wd tl wt) : ∃ A B : Nat, wd = nI A ∧ tl = nI B ∧ 0 < A ∧ A ≤ 6 ∧ 0 < B ∧ B ≤ 6 := by
  have f : ∀ v : Int32, (1 : Int32) ≤ v ∧ v ≤ 6 → ∃ A : Nat, v = nI A ∧ 0 < A ∧ A ≤ 6 := fun v hv => by
    rcases pk_ix v (n := 7) (by decide) with z | z | ⟨j, hj, rfl⟩
    · exact absurd (Int32.lt_of_lt_of_le z (show (0 : Int32) ≤ 1 by decide)) (Int32.not_lt.mpr hv.1)
    · exact absurd (Int32.le_trans z hv.2) (by decide)
    · refine ⟨j, rfl, Nat.pos_of_ne_zero fun z => ?_, by omega⟩
      subst z; exact absurd hv.1 (by decide)
  obtain ⟨A, h1, h2, h3⟩ := f wd q.1
  obtain ⟨B, h4, h5, h6⟩ := f tl q.2.1
  exact ⟨A, B, h1, h4, h2, h3, h5, h6⟩
theorem n_stone_no (hd : 2 ≤ d) {x y wd tl wt : Int32} (q : ¬ cCan x y wd tl wt) : M cx jX12_stone d a [.ref o_m, .int x, .int y, .int wd, .int tl, .int wt] h (RQ (.int (-1)) (nrefH h (-1) 1)) :=
  sX12_stone rfl (wcS (n_canBe (by omega)) (And.intro (fun q1 => absurd (b2i_n q1) q) (fun q1 => (wcV (n_refuses rfl (by decide)) ⟨rfl, rfl⟩))))
theorem n_stone_way (hd : 4 ≤ d) {x y wd tl wt : Int32} {A B : Nat} (q : cCan x y wd tl wt) (eA : wd = nI A) (eB : tl = nI B) (hA : 0 < A) (hA6 : A ≤ 6) (hB : B ≤ 6) (q2 : ¬ cFree (kW h) x y A B) : M cx jX12_stone d a [.ref o_m, .int x, .int y, .int wd, .int tl, .int wt] h (RQ (.int (-3)) (nrefH h (-3) 3)) :=
  sX12_stone rfl (wcS (n_canBe (by omega)) (And.intro (fun q1 => (eX12_stone (wcV (n_isFree (by omega) eA eB hA hA6 hB) (And.intro (fun z => absurd (b2i_n z) q2) (fun _ => (wcV (n_refuses rfl (by decide)) ⟨rfl, rfl⟩)))))) (fun q1 => absurd q (b2i_0.mp q1))))
theorem n_stone_full (hd : 4 ≤ d) {x y wd tl wt : Int32} {A B : Nat} (q : cCan x y wd tl wt) (eA : wd = nI A) (eB : tl = nI B) (hA : 0 < A) (hA6 : A ≤ 6) (hB : B ≤ 6) (q2 : cFree (kW h) x y A B) (q3 : kW h 157 = 14) : M cx jX12_stone d a [.ref o_m, .int x, .int y, .int wd, .int tl, .int wt] h (RQ (.int (-5)) (nrefH h (-5) 5)) :=
  sX12_stone rfl (wcS (n_canBe (by omega)) (And.intro (fun q1 => (eX12_stone (wcV (n_isFree (by omega) eA eB hA hA6 hB) (And.intro (fun z => (eX12_stone (wcV n_stones (And.intro (fun z => absurd q3 z) (fun z => (wcV (n_refuses rfl (by decide)) ⟨rfl, rfl⟩)))))) (fun z => absurd q2 (b2i_0.mp z)))))) (fun q1 => absurd q (b2i_0.mp q1))))
theorem n_stone_ok (hd : 4 ≤ d) {x y wd tl wt : Int32} {A B n : Nat} (q : cCan x y wd tl wt) (eA : wd = nI A) (eB : tl = nI B) (hA : 0 < A) (hA6 : A ≤ 6) (hB : B ≤ 6) (q2 : cFree (kW h) x y A B) (en : kW h 157 = nI n) (hn : n < 14) : M cx jX12_stone d a [.ref o_m, .int x, .int y, .int wd, .int tl, .int wt] h (RQ (.int (nI n)) (ngoodH (naddH h n x y wd tl wt))) :=
  sX12_stone rfl (wcS (n_canBe (by omega)) (And.intro (fun q1 => (eX12_stone (wcV (n_isFree (by omega) eA eB hA hA6 hB) (And.intro (fun z => (eX12_stone (wcV n_stones (And.intro (fun z => (eX12_stone (wcV (n_adds (by omega) en hn) (wcV n_good ⟨rfl, rfl⟩)))) (fun z => absurd (z.symm.trans en) (fun z => by have := congrArg Int32.toNatClampNeg z; rw [nI_clamp (by omega)] at this; exact absurd (show 14 = n from this) (by omega))))))) (fun z => absurd q2 (b2i_0.mp z)))))) (fun q1 => absurd q (b2i_0.mp q1))))
theorem n_spare_no (hd : 2 ≤ d) {x y wd tl wt : Int32} (q : ¬ cCan x y wd tl wt) : M cx jX12_spare d a [.ref o_m, .int x, .int y, .int wd, .int tl, .int wt] h (RQ (.int (-1)) (nrefH h (-1) 1)) :=
  sX12_spare rfl (wcS (n_canBe (by omega)) (And.intro (fun q1 => absurd (b2i_n q1) q) (fun q1 => (wcV (n_refuses rfl (by decide)) ⟨rfl, rfl⟩))))
theorem n_spare_way (hd : 4 ≤ d) {x y wd tl wt : Int32} {A B : Nat} (q : cCan x y wd tl wt) (eA : wd = nI A) (eB : tl = nI B) (hA : 0 < A) (hA6 : A ≤ 6) (hB : B ≤ 6) (q2 : ¬ cFree (kW h) x y A B) : M cx jX12_spare d a [.ref o_m, .int x, .int y, .int wd, .int tl, .int wt] h (RQ (.int (-3)) (nrefH h (-3) 3)) :=
  sX12_spare rfl (wcS (n_canBe (by omega)) (And.intro (fun q1 => (eX12_spare (wcV (n_isFree (by omega) eA eB hA hA6 hB) (And.intro (fun z => absurd (b2i_n z) q2) (fun _ => (wcV (n_refuses rfl (by decide)) ⟨rfl, rfl⟩)))))) (fun q1 => absurd q (b2i_0.mp q1))))
theorem n_spare_full (hd : 4 ≤ d) {x y wd tl wt : Int32} {A B : Nat} (q : cCan x y wd tl wt) (eA : wd = nI A) (eB : tl = nI B) (hA : 0 < A) (hA6 : A ≤ 6) (hB : B ≤ 6) (q2 : cFree (kW h) x y A B) (q3 : kW h 158 = 8) : M cx jX12_spare d a [.ref o_m, .int x, .int y, .int wd, .int tl, .int wt] h (RQ (.int (-5)) (nrefH h (-5) 5)) :=
  sX12_spare rfl (wcS (n_canBe (by omega)) (And.intro (fun q1 => (eX12_spare (wcV (n_isFree (by omega) eA eB hA hA6 hB) (And.intro (fun z => (eX12_spare (wcV n_spares (And.intro (fun z => absurd q3 z) (fun z => (wcV (n_refuses rfl (by decide)) ⟨rfl, rfl⟩)))))) (fun z => absurd q2 (b2i_0.mp z)))))) (fun q1 => absurd q (b2i_0.mp q1))))
def nspaH (h : Hp) (n : Nat) (x y wd tl wt : Int32) : Hp := wI (nlayH h (14 + n) x y wd tl wt) o_m_kept 158 (kW (nlayH h (14 + n) x y wd tl wt) 158 + 1)
theorem n_spare_ok (hd : 4 ≤ d) {x y wd tl wt : Int32} {A B n : Nat} (q : cCan x y wd tl wt) (eA : wd = nI A) (eB : tl = nI B) (hA : 0 < A) (hA6 : A ≤ 6) (hB : B ≤ 6) (q2 : cFree (kW h) x y A B) (en : kW h 158 = nI n) (hn : n < 8) : M cx jX12_spare d a [.ref o_m, .int x, .int y, .int wd, .int tl, .int wt] h (RQ (.int (nI n)) (ngoodH (nspaH h n x y wd tl wt))) :=
  sX12_spare rfl (wcS (n_canBe (by omega)) (And.intro (fun q1 => (eX12_spare (wcV (n_isFree (by omega) eA eB hA hA6 hB) (And.intro (fun z => (eX12_spare (wcV (v := .int (nI n)) (by rw [← en]; exact n_spares) (And.intro (fun z => (eX12_spare (wcV0 (n_lays (k := 14 + n) (nI_add 14 n) (by omega)) (And.intro (vp_in_nI (n := 158) (by decide) (by decide)) (And.intro (vp_in_nI (n := 158) (by decide) (by decide)) (wcV n_good ⟨rfl, rfl⟩)))))) (fun z => absurd z (fun z => by have := congrArg Int32.toNatClampNeg z; rw [nI_clamp (by omega)] at this; exact absurd (show n = 8 from this) (by omega))))))) (fun z => absurd q2 (b2i_0.mp z)))))) (fun q1 => absurd q (b2i_0.mp q1))))
def putLo (w : Int32) : Int32 := if w = 0 then 1 else 0
def putHi (w : Int32) : Int32 := if w = 0 then 99 else if w = 1 then 3 else 100
def cPut (w v : Int32) : Prop := ((0 : Int32) ≤ w ∧ w ≤ 2) ∧ (putLo w ≤ v ∧ v ≤ putHi w)
theorem e_putJoin {s w v : Int32} {Q : Option Value → Hp → Prop} {l4 : Option Value} (k : E cx jX12_put d a 39 [some (.ref o_m), some (.int s), some (.int w), some (.int v), l4] [.int (putHi w), .int (putLo w), .int v] h Q) : E cx jX12_put d a 19 [some (.ref o_m), some (.int s), some (.int w), some (.int v), l4] [.int (putLo w), .int v] h Q := by
  refine eX12_put (And.intro (fun q3 => (eX12_put (And.intro (fun q4 => (eX12_put ?_)) (fun q4 => ?_)))) (fun q3 => ?_))
  · have e : putHi w = 100 := by unfold putHi; rw [if_neg q3, if_neg q4]
    rw [e] at k; exact k
  · have e : putHi w = 3 := by unfold putHi; rw [if_neg q3, if_pos q4]
    rw [e] at k; exact k
  · have e : putHi w = 99 := by unfold putHi; rw [if_pos q3]
    rw [e] at k; exact k
theorem e_putTop {s w v : Int32} {Q : Option Value → Hp → Prop} (hd : 1 ≤ d) (k1 : ¬ cPut w v → E cx jX12_put d a 45 [some (.ref o_m), some (.int s), some (.int w), some (.int v), none] [] h Q) (k2 : cPut w v → E cx jX12_put d a 51 [some (.ref o_m), some (.int s), some (.int w), some (.int v), none] [] h Q) : M cx jX12_put d a [.ref o_m, .int s, .int w, .int v] h Q := by
  have j : (0 : Int32) ≤ w ∧ w ≤ 2 → E cx jX12_put d a 39 [some (.ref o_m), some (.int s), some (.int w), some (.int v), none] [.int (putHi w), .int (putLo w), .int v] h Q := fun z => eX12_put (wcS n_lies (And.intro (fun q5 => k2 ⟨z, b2i_n q5⟩) (fun q5 => k1 fun y => b2i_0.mp q5 y.2)))
  refine sX12_put rfl (wcS n_lies (And.intro (fun q1 => k1 fun y => b2i_0.mp q1 y.1) (fun q1 => (And.intro (fun q2 => (eX12_put ?_)) (fun q2 => ?_)))))
  · have e : putLo w = 0 := by unfold putLo; rw [if_neg q2]
    have := e_putJoin (j (b2i_n q1)); rw [e] at this; exact this
  · have e : putLo w = 1 := by unfold putLo; rw [if_pos q2]
    have := e_putJoin (j (b2i_n q1)); rw [e] at this; exact this
theorem n_put_no (hd : 1 ≤ d) {s w v : Int32} (q : ¬ cPut w v) : M cx jX12_put d a [.ref o_m, .int s, .int w, .int v] h (RQ (.int (-1)) (nrefH h (-1) 1)) :=
  e_putTop hd (fun _ => eX12_put (wcV (n_refuses rfl (by decide)) ⟨rfl, rfl⟩)) (fun z => absurd z q)
theorem n_put_such (hd : 2 ≤ d) {s w v : Int32} (q : cPut w v) (q2 : ¬ cStone (kW h) s) : M cx jX12_put d a [.ref o_m, .int s, .int w, .int v] h (RQ (.int (-2)) (nrefH h (-2) 2)) :=
  e_putTop (by omega) (fun z => absurd q z) (fun _ => eX12_put (wcV (n_isStone (by omega)) (And.intro (fun q6 => absurd (b2i_n q6) q2) (fun q6 => (wcV (n_refuses rfl (by decide)) ⟨rfl, rfl⟩)))))
theorem n_put_ok (hd : 2 ≤ d) {s w v : Int32} {k f : Nat} (q : cPut w v) (q2 : cStone (kW h) s) (es : s = nI k) (ew : w = nI f) (hk : k < 14) (hf : f < 3) : M cx jX12_put d a [.ref o_m, .int s, .int w, .int v] h (RQ (.int (kW h (7 * k + (4 + f)))) (ngoodH (wI h o_m_kept (7 * k + (4 + f)) v))) := by
  have e4 : (4 : Int32) + w = nI (4 + f) := by rw [ew]; exact nI_add 4 f
  have e5 : (7 : Int32) * s + 4 + w = nI (7 * k + (4 + f)) := by rw [Int32.add_assoc, e4, es, ix_7]
  have e6 : vp_in ((7 : Int32) * s + 4 + w) 4968 := by rw [e5]; exact vp_in_nI (by omega) (by decide)
  have e7 : ((7 : Int32) * s + 4 + w).toNatClampNeg = 7 * k + (4 + f) := by rw [e5]; exact nI_clamp (by omega)
  refine e_putTop (by omega) (fun z => absurd q z) (fun _ => eX12_put (wcV (n_isStone (by omega)) (And.intro (fun q6 => eX12_put (wcV (n_factOf es e4 (by omega) (by omega)) (And.intro e6 ?_))) (fun q6 => absurd q2 (b2i_0.mp q6)))))
  rw [e7]
  exact wcV n_good ⟨rfl, rfl⟩
theorem n_of_no (hd : 2 ≤ d) {s w : Int32} (q : ¬ (cStone (kW h) s ∧ (0 : Int32) ≤ w ∧ w ≤ 7)) : M cx jX12_of d a [.ref o_m, .int s, .int w] h (RQ (.int (-1)) h) :=
  sX12_of rfl (wcV (n_isStone (by omega)) (And.intro (fun q1 => (eX12_of ⟨rfl, rfl⟩)) (fun q1 => (wcS n_lies (And.intro (fun q2 => absurd ⟨b2i_n q1, b2i_n q2⟩ q) (fun q2 => (eX12_of ⟨rfl, rfl⟩)))))))
theorem n_of_f (hd : 2 ≤ d) {s w : Int32} {k f : Nat} (q : cStone (kW h) s) (es : s = nI k) (ew : w = nI f) (hk : k < 14) (hf : f < 7) : M cx jX12_of d a [.ref o_m, .int s, .int w] h (RQ (.int (kW h (7 * k + f))) h) := by
  have e0 : (0 : Int32) ≤ w ∧ w ≤ 7 := by rw [ew]; exact ⟨nI_pos' (by omega), nI_le (b := 7) (by omega) (by decide)⟩
  exact sX12_of rfl (wcV (n_isStone (by omega)) (And.intro (fun q1 => absurd q (b2i_0.mp q1)) (fun q1 => (wcS n_lies (And.intro (fun q2 => (eX12_of (And.intro (fun q3 => absurd q3 (by rw [ew]; exact nI_ge (b := 7) hf (by decide))) (fun q3 => (wcV (n_factOf es ew (by omega) hf) (eX12_of ⟨rfl, rfl⟩)))))) (fun q2 => absurd e0 (b2i_0.mp q2)))))))
theorem n_of_7 (hd : 2 ≤ d) {s : Int32} (q : cStone (kW h) s) : M cx jX12_of d a [.ref o_m, .int s, .int 7] h (RQ (.int ((kW h 159 >>> (s &&& 31)) &&& 1)) h) :=
  sX12_of rfl (wcV (n_isStone (by omega)) (And.intro (fun q1 => absurd q (b2i_0.mp q1)) (fun q1 => (wcS n_lies (And.intro (fun q2 => (eX12_of (And.intro (fun q3 => (eX12_of (And.intro (vp_in_nI (n := 159) (by decide) (by decide)) (eX12_of ⟨rfl, rfl⟩)))) (fun q3 => absurd (Int32.le_refl _) q3)))) (fun q2 => absurd (⟨by decide, by decide⟩ : (0 : Int32) ≤ 7 ∧ (7 : Int32) ≤ 7) (b2i_0.mp q2)))))))
def teHi (w : Int32) : Int32 := if w = 0 then 12 else 9
def cTerm (w v : Int32) : Prop := ((0 : Int32) ≤ w ∧ w ≤ 2) ∧ ((0 : Int32) ≤ v ∧ v ≤ teHi w)
theorem e_teTop {w v : Int32} {Q : Option Value → Hp → Prop} (hd : 1 ≤ d) (k1 : ¬ cTerm w v → E cx jX12_terms d a 28 [some (.ref o_m), some (.int w), some (.int v), none] [] h Q) (k2 : cTerm w v → E cx jX12_terms d a 34 [some (.ref o_m), some (.int w), some (.int v), none] [] h Q) : M cx jX12_terms d a [.ref o_m, .int w, .int v] h Q := by
  have j : (0 : Int32) ≤ w ∧ w ≤ 2 → E cx jX12_terms d a 22 [some (.ref o_m), some (.int w), some (.int v), none] [.int (teHi w), .int 0, .int v] h Q := fun z => eX12_terms (wcS n_lies (And.intro (fun q5 => k2 ⟨z, b2i_n q5⟩) (fun q5 => k1 fun y => b2i_0.mp q5 y.2)))
  refine sX12_terms rfl (wcS n_lies (And.intro (fun q1 => k1 fun y => b2i_0.mp q1 y.1) (fun q1 => (And.intro (fun q2 => (eX12_terms ?_)) (fun q2 => ?_)))))
  · have e : teHi w = 9 := by unfold teHi; rw [if_neg q2]
    have := j (b2i_n q1); rw [e] at this; exact this
  · have e : teHi w = 12 := by unfold teHi; rw [if_pos q2]
    have := j (b2i_n q1); rw [e] at this; exact this
theorem n_terms_no (hd : 1 ≤ d) {w v : Int32} (q : ¬ cTerm w v) : M cx jX12_terms d a [.ref o_m, .int w, .int v] h (RQ (.int (-1)) (nrefH h (-1) 1)) :=
  e_teTop hd (fun _ => eX12_terms (wcV (n_refuses rfl (by decide)) ⟨rfl, rfl⟩)) (fun z => absurd z q)
theorem n_terms_ok (hd : 1 ≤ d) {w v : Int32} {f : Nat} (q : cTerm w v) (ew : w = nI f) (hf : f < 3) : M cx jX12_terms d a [.ref o_m, .int w, .int v] h (RQ (.int (kW h (154 + f))) (ngoodH (wI h o_m_kept (154 + f) v))) := by
  have e5 : (154 : Int32) + w = nI (154 + f) := by rw [ew]; exact nI_add 154 f
  have e6 : vp_in ((154 : Int32) + w) 4968 := by rw [e5]; exact vp_in_nI (by omega) (by decide)
  have e7 : ((154 : Int32) + w).toNatClampNeg = 154 + f := by rw [e5]; exact nI_clamp (by omega)
  refine e_teTop (by omega) (fun z => absurd q z) (fun _ => eX12_terms (And.intro e6 (And.intro e6 ?_)))
  rw [e7]
  exact wcV n_good ⟨rfl, rfl⟩
theorem n_end_no (hd : 1 ≤ d) {n : Int32} (q : ¬ ((0 : Int32) ≤ n ∧ n ≤ hI h o_m 10)) : M cx jX12_end d a [.ref o_m, .int n] h (RQ (.int (-1)) h) :=
  sX12_end rfl (wcS n_lies (And.intro (fun q1 => absurd (b2i_n q1) q) (fun _ => ⟨rfl, rfl⟩)))
theorem n_end_ok (hd : 1 ≤ d) {n : Int32} (q : (0 : Int32) ≤ n ∧ n ≤ hI h o_m 10) : M cx jX12_end d a [.ref o_m, .int n] h (RQ (.int n) (wI h o_m 10 n)) :=
  sX12_end rfl (wcS n_lies (And.intro (fun _ => eX12_end ⟨rfl, rfl⟩) (fun q1 => absurd q (b2i_0.mp q1))))
theorem n_force_no (hd : 1 ≤ d) {n : Int32} (q : ¬ ((-1 : Int32) ≤ n ∧ n ≤ kW h 160 - 1)) : M cx jX12_force d a [.ref o_m, .int n] h (RQ (.int (-2)) (nrefH h (-2) 2)) :=
  sX12_force rfl (And.intro (vp_in_nI (n := 160) (by decide) (by decide)) (wcS n_lies (And.intro (fun q1 => absurd (b2i_n q1) q) (fun _ => wcV (n_refuses rfl (by decide)) ⟨rfl, rfl⟩))))
theorem n_force_ok (hd : 1 ≤ d) {n : Int32} (q : (-1 : Int32) ≤ n ∧ n ≤ kW h 160 - 1) : M cx jX12_force d a [.ref o_m, .int n] h (RQ (.int (kW h 161)) (ngoodH (wI h o_m_kept 161 n))) :=
  sX12_force rfl (And.intro (vp_in_nI (n := 160) (by decide) (by decide)) (wcS n_lies (And.intro (fun _ => eX12_force (And.intro (vp_in_nI (n := 161) (by decide) (by decide)) (And.intro (vp_in_nI (n := 161) (by decide) (by decide)) (wcV n_good ⟨rfl, rfl⟩)))) (fun q1 => absurd q (b2i_0.mp q1)))))
theorem n_there : M cx jX12_there d a [.ref o_m] h (RQ (.int (kW h 159)) h) := sX12_there rfl (And.intro (vp_in_nI (n := 159) (by decide) (by decide)) ⟨rfl, rfl⟩)
theorem n_rubble : M cx jX12_rubble d a [.ref o_m] h (RQ (.int (hI h o_m 6)) h) := sX12_rubble rfl ⟨rfl, rfl⟩
theorem n_fault : M cx jX12_fault d a [.ref o_m] h (RQ (.int (hI h o_m 11)) h) := sX12_fault rfl ⟨rfl, rfl⟩
theorem n_status : M cx jX12_status d a [.ref o_m] h (RQ (.int (hI h o_m 0)) h) := sX12_status rfl ⟨rfl, rfl⟩
def cAll (w : Wd) : Int32 := ((1 : Int32) <<< (w 157 &&& 31)) - 1
theorem n_stand_no (hd : 1 ≤ d) {s : Int32} (q : ¬ ((0 : Int32) ≤ s ∧ s ≤ cAll (kW h))) : M cx jX12_stand d a [.ref o_m, .int s] h (RQ (.int (-1)) (nrefH h (-1) 1)) :=
  sX12_stand rfl (wcV n_stones (wcS n_lies (And.intro (fun q1 => absurd (b2i_n q1) q) (fun _ => wcV (n_refuses rfl (by decide)) ⟨rfl, rfl⟩))))
theorem n_stand_ok (hd : 1 ≤ d) {s : Int32} (q : (0 : Int32) ≤ s ∧ s ≤ cAll (kW h)) : M cx jX12_stand d a [.ref o_m, .int s] h (RQ (.int (kW h 159)) (ngoodH (wI h o_m_kept 159 s))) :=
  sX12_stand rfl (wcV n_stones (wcS n_lies (And.intro (fun _ => eX12_stand (And.intro (vp_in_nI (n := 159) (by decide) (by decide)) (And.intro (vp_in_nI (n := 159) (by decide) (by decide)) (wcV n_good ⟨rfl, rfl⟩)))) (fun q1 => absurd q (b2i_0.mp q1)))))
def cPart (w : Wd) (s : Int32) : Prop := ((0 : Int32) ≤ s ∧ s ≤ 16383) ∧ s &&& (w 159 ^^^ -1) = 0
theorem n_areThere (hd : 1 ≤ d) {s : Int32} : M cx jX12_areThere d a [.ref o_m, .int s] h (RQ (.int (b2i (cPart (kW h) s))) h) := by
  refine sX12_areThere rfl (wcS n_lies (And.intro (fun q1 => eX12_areThere (eX12_areThere (And.intro (Or.inl rfl) (RQ_eq (b2i_f (fun z => b2i_0.mp q1 z.1)).symm)))) (fun q1 => And.intro (vp_in_nI (n := 159) (by decide) (by decide)) (And.intro (fun q2 => eX12_areThere (eX12_areThere (And.intro (Or.inl rfl) (RQ_eq (b2i_f (fun z => q2 z.2)).symm)))) (fun q2 => eX12_areThere (And.intro (Or.inr rfl) (RQ_eq (b2i_t ⟨b2i_n q1, q2⟩).symm)))))))
end T42
end
