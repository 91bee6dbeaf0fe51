section
-- ===== PART A: goes FIRST, ahead of the names: the tables' words, and 'selects' of the private methods out of them =====
/-- a private method of a class that the tables say can be made, by its rows of tables_1 -/
def lw_okq (q : MethodName × Nat) : Prop := (q.1.cls ≠ "java/lang/invoke/MethodHandle" ∧ q.1.cls ≠ "java/lang/invoke/VarHandle") ∧ Cond.instantiable q.1.cls q.2 ∈ tables_1 ∧ Cond.privateMethod q.1 ∈ tables_1 ∧ Cond.instanceMethod q.1 ∈ tables_1
theorem lw_p0 : lw_okq (⟨"BetweenCounts$Big", "append", "(J)V"⟩, 2) := ⟨⟨by decide +kernel, by decide +kernel⟩, List.mem_of_getElem? (i := 96) (by decide +kernel), List.mem_of_getElem? (i := 193) (by decide +kernel), List.mem_of_getElem? (i := 194) (by decide +kernel)⟩
theorem lw_p1 : lw_okq (⟨"BetweenCounts", "forgetNetwork", "()V"⟩, 10) := ⟨⟨by decide +kernel, by decide +kernel⟩, List.mem_of_getElem? (i := 14) (by decide +kernel), List.mem_of_getElem? (i := 272) (by decide +kernel), List.mem_of_getElem? (i := 273) (by decide +kernel)⟩
theorem lw_p2 : lw_okq (⟨"BetweenCounts", "forgetChoice", "()V"⟩, 10) := ⟨⟨by decide +kernel, by decide +kernel⟩, List.mem_of_getElem? (i := 14) (by decide +kernel), List.mem_of_getElem? (i := 284) (by decide +kernel), List.mem_of_getElem? (i := 285) (by decide +kernel)⟩
theorem lw_p3 : lw_okq (⟨"BetweenCounts$WayTable", "spreadFrom", "(I[I[I)V"⟩, 6) := ⟨⟨by decide +kernel, by decide +kernel⟩, List.mem_of_getElem? (i := 58) (by decide +kernel), List.mem_of_getElem? (i := 333) (by decide +kernel), List.mem_of_getElem? (i := 334) (by decide +kernel)⟩
theorem lw_p4 : lw_okq (⟨"BetweenCounts$WayTable", "nearestLeft", "([I)I"⟩, 6) := ⟨⟨by decide +kernel, by decide +kernel⟩, List.mem_of_getElem? (i := 58) (by decide +kernel), List.mem_of_getElem? (i := 337) (by decide +kernel), List.mem_of_getElem? (i := 338) (by decide +kernel)⟩
theorem lw_p5 : lw_okq (⟨"BetweenCounts$WayTable", "goBy", "(I[I[I)V"⟩, 6) := ⟨⟨by decide +kernel, by decide +kernel⟩, List.mem_of_getElem? (i := 58) (by decide +kernel), List.mem_of_getElem? (i := 341) (by decide +kernel), List.mem_of_getElem? (i := 342) (by decide +kernel)⟩
theorem lw_p6 : lw_okq (⟨"BetweenCounts", "isPair", "(II)Z"⟩, 10) := ⟨⟨by decide +kernel, by decide +kernel⟩, List.mem_of_getElem? (i := 14) (by decide +kernel), List.mem_of_getElem? (i := 354) (by decide +kernel), List.mem_of_getElem? (i := 355) (by decide +kernel)⟩
theorem lw_p7 : lw_okq (⟨"BetweenCounts", "needBetween", "(I)V"⟩, 10) := ⟨⟨by decide +kernel, by decide +kernel⟩, List.mem_of_getElem? (i := 14) (by decide +kernel), List.mem_of_getElem? (i := 369) (by decide +kernel), List.mem_of_getElem? (i := 370) (by decide +kernel)⟩
theorem lw_p8 : lw_okq (⟨"BetweenCounts$Big", "carryFrom", "(IJ)V"⟩, 2) := ⟨⟨by decide +kernel, by decide +kernel⟩, List.mem_of_getElem? (i := 96) (by decide +kernel), List.mem_of_getElem? (i := 413) (by decide +kernel), List.mem_of_getElem? (i := 414) (by decide +kernel)⟩
theorem lw_p9 : lw_okq (⟨"BetweenCounts", "isNewQuestion", "(I)Z"⟩, 10) := ⟨⟨by decide +kernel, by decide +kernel⟩, List.mem_of_getElem? (i := 14) (by decide +kernel), List.mem_of_getElem? (i := 434) (by decide +kernel), List.mem_of_getElem? (i := 435) (by decide +kernel)⟩
theorem lw_p10 : lw_okq (⟨"BetweenCounts", "sumArc", "(I)V"⟩, 10) := ⟨⟨by decide +kernel, by decide +kernel⟩, List.mem_of_getElem? (i := 14) (by decide +kernel), List.mem_of_getElem? (i := 438) (by decide +kernel), List.mem_of_getElem? (i := 439) (by decide +kernel)⟩
theorem lw_p11 : lw_okq (⟨"BetweenCounts", "sumGroup", "()V"⟩, 10) := ⟨⟨by decide +kernel, by decide +kernel⟩, List.mem_of_getElem? (i := 14) (by decide +kernel), List.mem_of_getElem? (i := 450) (by decide +kernel), List.mem_of_getElem? (i := 451) (by decide +kernel)⟩
theorem lw_p12 : lw_okq (⟨"BetweenCounts", "countAround", "(II)I"⟩, 10) := ⟨⟨by decide +kernel, by decide +kernel⟩, List.mem_of_getElem? (i := 14) (by decide +kernel), List.mem_of_getElem? (i := 454) (by decide +kernel), List.mem_of_getElem? (i := 455) (by decide +kernel)⟩
theorem lw_p13 : lw_okq (⟨"BetweenCounts", "sumHarmonic", "(I)V"⟩, 10) := ⟨⟨by decide +kernel, by decide +kernel⟩, List.mem_of_getElem? (i := 14) (by decide +kernel), List.mem_of_getElem? (i := 462) (by decide +kernel), List.mem_of_getElem? (i := 463) (by decide +kernel)⟩
theorem lw_p14 : lw_okq (⟨"BetweenCounts", "sumClose", "(I)V"⟩, 10) := ⟨⟨by decide +kernel, by decide +kernel⟩, List.mem_of_getElem? (i := 14) (by decide +kernel), List.mem_of_getElem? (i := 470) (by decide +kernel), List.mem_of_getElem? (i := 471) (by decide +kernel)⟩
theorem lw_p15 : lw_okq (⟨"BetweenCounts$Ranking", "countAhead", "(I)V"⟩, 6) := ⟨⟨by decide +kernel, by decide +kernel⟩, List.mem_of_getElem? (i := 172) (by decide +kernel), List.mem_of_getElem? (i := 482) (by decide +kernel), List.mem_of_getElem? (i := 483) (by decide +kernel)⟩
def lw_privs_1 : List (MethodName × Nat) := [(⟨"BetweenCounts$Big", "append", "(J)V"⟩, 2), (⟨"BetweenCounts", "forgetNetwork", "()V"⟩, 10), (⟨"BetweenCounts", "forgetChoice", "()V"⟩, 10), (⟨"BetweenCounts$WayTable", "spreadFrom", "(I[I[I)V"⟩, 6), (⟨"BetweenCounts$WayTable", "nearestLeft", "([I)I"⟩, 6), (⟨"BetweenCounts$WayTable", "goBy", "(I[I[I)V"⟩, 6), (⟨"BetweenCounts", "isPair", "(II)Z"⟩, 10), (⟨"BetweenCounts", "needBetween", "(I)V"⟩, 10), (⟨"BetweenCounts$Big", "carryFrom", "(IJ)V"⟩, 2), (⟨"BetweenCounts", "isNewQuestion", "(I)Z"⟩, 10), (⟨"BetweenCounts", "sumArc", "(I)V"⟩, 10), (⟨"BetweenCounts", "sumGroup", "()V"⟩, 10), (⟨"BetweenCounts", "countAround", "(II)I"⟩, 10), (⟨"BetweenCounts", "sumHarmonic", "(I)V"⟩, 10), (⟨"BetweenCounts", "sumClose", "(I)V"⟩, 10), (⟨"BetweenCounts$Ranking", "countAhead", "(I)V"⟩, 6)]
theorem lw_r1 : ∀ q ∈ lw_privs_1, lw_okq q := List.forall_mem_cons.mpr ⟨lw_p0, List.forall_mem_cons.mpr ⟨lw_p1, List.forall_mem_cons.mpr ⟨lw_p2, List.forall_mem_cons.mpr ⟨lw_p3, List.forall_mem_cons.mpr ⟨lw_p4, List.forall_mem_cons.mpr ⟨lw_p5, List.forall_mem_cons.mpr ⟨lw_p6, List.forall_mem_cons.mpr ⟨lw_p7, List.forall_mem_cons.mpr ⟨lw_p8, List.forall_mem_cons.mpr ⟨lw_p9, List.forall_mem_cons.mpr ⟨lw_p10, List.forall_mem_cons.mpr ⟨lw_p11, List.forall_mem_cons.mpr ⟨lw_p12, List.forall_mem_cons.mpr ⟨lw_p13, List.forall_mem_cons.mpr ⟨lw_p14, List.forall_mem_cons.mpr ⟨lw_p15, fun _ h => absurd h List.not_mem_nil⟩⟩⟩⟩⟩⟩⟩⟩⟩⟩⟩⟩⟩⟩⟩⟩
theorem lw_p16 : lw_okq (⟨"BetweenCounts$Ranking", "isLess", "(LBetweenCounts$Fraction;LBetweenCounts$Fraction;)Z"⟩, 6) := ⟨⟨by decide +kernel, by decide +kernel⟩, List.mem_of_getElem? (i := 172) (by decide +kernel), List.mem_of_getElem? (i := 487) (by decide +kernel), List.mem_of_getElem? (i := 488) (by decide +kernel)⟩
theorem lw_p17 : lw_okq (⟨"BetweenCounts$Flow", "lowerGrounds", "()V"⟩, 11) := ⟨⟨by decide +kernel, by decide +kernel⟩, List.mem_of_getElem? (i := 88) (by decide +kernel), List.mem_of_getElem? (i := 512) (by decide +kernel), List.mem_of_getElem? (i := 513) (by decide +kernel)⟩
theorem lw_p18 : lw_okq (⟨"BetweenCounts$Flow", "isInner", "(II)Z"⟩, 11) := ⟨⟨by decide +kernel, by decide +kernel⟩, List.mem_of_getElem? (i := 88) (by decide +kernel), List.mem_of_getElem? (i := 522) (by decide +kernel), List.mem_of_getElem? (i := 523) (by decide +kernel)⟩
theorem lw_p19 : lw_okq (⟨"BetweenCounts$Flow", "entryOf", "(II)LBetweenCounts$Big;"⟩, 11) := ⟨⟨by decide +kernel, by decide +kernel⟩, List.mem_of_getElem? (i := 88) (by decide +kernel), List.mem_of_getElem? (i := 526) (by decide +kernel), List.mem_of_getElem? (i := 527) (by decide +kernel)⟩
theorem lw_p20 : lw_okq (⟨"BetweenCounts$Flow", "startOf", "(II)I"⟩, 11) := ⟨⟨by decide +kernel, by decide +kernel⟩, List.mem_of_getElem? (i := 88) (by decide +kernel), List.mem_of_getElem? (i := 530) (by decide +kernel), List.mem_of_getElem? (i := 531) (by decide +kernel)⟩
theorem lw_p21 : lw_okq (⟨"BetweenCounts$Flow", "sweep", "(II)V"⟩, 11) := ⟨⟨by decide +kernel, by decide +kernel⟩, List.mem_of_getElem? (i := 88) (by decide +kernel), List.mem_of_getElem? (i := 534) (by decide +kernel), List.mem_of_getElem? (i := 535) (by decide +kernel)⟩
theorem lw_p22 : lw_okq (⟨"BetweenCounts$Flow", "sweepEntry", "(III)V"⟩, 11) := ⟨⟨by decide +kernel, by decide +kernel⟩, List.mem_of_getElem? (i := 88) (by decide +kernel), List.mem_of_getElem? (i := 545) (by decide +kernel), List.mem_of_getElem? (i := 546) (by decide +kernel)⟩
theorem lw_p23 : lw_okq (⟨"BetweenCounts$Divider", "takeDigit", "(LBetweenCounts$Big;I)J"⟩, 4) := ⟨⟨by decide +kernel, by decide +kernel⟩, List.mem_of_getElem? (i := 115) (by decide +kernel), List.mem_of_getElem? (i := 566) (by decide +kernel), List.mem_of_getElem? (i := 567) (by decide +kernel)⟩
theorem lw_p24 : lw_okq (⟨"BetweenCounts$Divider", "guess", "(LBetweenCounts$Big;I)J"⟩, 4) := ⟨⟨by decide +kernel, by decide +kernel⟩, List.mem_of_getElem? (i := 115) (by decide +kernel), List.mem_of_getElem? (i := 571) (by decide +kernel), List.mem_of_getElem? (i := 572) (by decide +kernel)⟩
theorem lw_p25 : lw_okq (⟨"BetweenCounts$Divider", "takeAway", "(LBetweenCounts$Big;IJ)J"⟩, 4) := ⟨⟨by decide +kernel, by decide +kernel⟩, List.mem_of_getElem? (i := 115) (by decide +kernel), List.mem_of_getElem? (i := 575) (by decide +kernel), List.mem_of_getElem? (i := 576) (by decide +kernel)⟩
theorem lw_p26 : lw_okq (⟨"BetweenCounts$Divider", "putBack", "(LBetweenCounts$Big;I)V"⟩, 4) := ⟨⟨by decide +kernel, by decide +kernel⟩, List.mem_of_getElem? (i := 115) (by decide +kernel), List.mem_of_getElem? (i := 580) (by decide +kernel), List.mem_of_getElem? (i := 581) (by decide +kernel)⟩
theorem lw_p27 : lw_okq (⟨"BetweenCounts$Flow", "isOther", "(II)Z"⟩, 11) := ⟨⟨by decide +kernel, by decide +kernel⟩, List.mem_of_getElem? (i := 88) (by decide +kernel), List.mem_of_getElem? (i := 609) (by decide +kernel), List.mem_of_getElem? (i := 610) (by decide +kernel)⟩
theorem lw_p28 : lw_okq (⟨"BetweenCounts$Flow", "addFlows", "(IIILBetweenCounts$Big;)V"⟩, 11) := ⟨⟨by decide +kernel, by decide +kernel⟩, List.mem_of_getElem? (i := 88) (by decide +kernel), List.mem_of_getElem? (i := 613) (by decide +kernel), List.mem_of_getElem? (i := 614) (by decide +kernel)⟩
theorem lw_p29 : lw_okq (⟨"BetweenCounts$Flow", "dropOf", "(IIII)LBetweenCounts$Big;"⟩, 11) := ⟨⟨by decide +kernel, by decide +kernel⟩, List.mem_of_getElem? (i := 88) (by decide +kernel), List.mem_of_getElem? (i := 617) (by decide +kernel), List.mem_of_getElem? (i := 618) (by decide +kernel)⟩
theorem lw_p30 : lw_okq (⟨"BetweenCounts", "countPairs", "()I"⟩, 10) := ⟨⟨by decide +kernel, by decide +kernel⟩, List.mem_of_getElem? (i := 14) (by decide +kernel), List.mem_of_getElem? (i := 630) (by decide +kernel), List.mem_of_getElem? (i := 631) (by decide +kernel)⟩
theorem lw_p31 : lw_okq (⟨"BetweenCounts", "countGroup", "()I"⟩, 10) := ⟨⟨by decide +kernel, by decide +kernel⟩, List.mem_of_getElem? (i := 14) (by decide +kernel), List.mem_of_getElem? (i := 634) (by decide +kernel), List.mem_of_getElem? (i := 635) (by decide +kernel)⟩
def lw_privs_2 : List (MethodName × Nat) := [(⟨"BetweenCounts$Ranking", "isLess", "(LBetweenCounts$Fraction;LBetweenCounts$Fraction;)Z"⟩, 6), (⟨"BetweenCounts$Flow", "lowerGrounds", "()V"⟩, 11), (⟨"BetweenCounts$Flow", "isInner", "(II)Z"⟩, 11), (⟨"BetweenCounts$Flow", "entryOf", "(II)LBetweenCounts$Big;"⟩, 11), (⟨"BetweenCounts$Flow", "startOf", "(II)I"⟩, 11), (⟨"BetweenCounts$Flow", "sweep", "(II)V"⟩, 11), (⟨"BetweenCounts$Flow", "sweepEntry", "(III)V"⟩, 11), (⟨"BetweenCounts$Divider", "takeDigit", "(LBetweenCounts$Big;I)J"⟩, 4), (⟨"BetweenCounts$Divider", "guess", "(LBetweenCounts$Big;I)J"⟩, 4), (⟨"BetweenCounts$Divider", "takeAway", "(LBetweenCounts$Big;IJ)J"⟩, 4), (⟨"BetweenCounts$Divider", "putBack", "(LBetweenCounts$Big;I)V"⟩, 4), (⟨"BetweenCounts$Flow", "isOther", "(II)Z"⟩, 11), (⟨"BetweenCounts$Flow", "addFlows", "(IIILBetweenCounts$Big;)V"⟩, 11), (⟨"BetweenCounts$Flow", "dropOf", "(IIII)LBetweenCounts$Big;"⟩, 11), (⟨"BetweenCounts", "countPairs", "()I"⟩, 10), (⟨"BetweenCounts", "countGroup", "()I"⟩, 10)]
theorem lw_r2 : ∀ q ∈ lw_privs_2, lw_okq q := List.forall_mem_cons.mpr ⟨lw_p16, List.forall_mem_cons.mpr ⟨lw_p17, List.forall_mem_cons.mpr ⟨lw_p18, List.forall_mem_cons.mpr ⟨lw_p19, List.forall_mem_cons.mpr ⟨lw_p20, List.forall_mem_cons.mpr ⟨lw_p21, List.forall_mem_cons.mpr ⟨lw_p22, List.forall_mem_cons.mpr ⟨lw_p23, List.forall_mem_cons.mpr ⟨lw_p24, List.forall_mem_cons.mpr ⟨lw_p25, List.forall_mem_cons.mpr ⟨lw_p26, List.forall_mem_cons.mpr ⟨lw_p27, List.forall_mem_cons.mpr ⟨lw_p28, List.forall_mem_cons.mpr ⟨lw_p29, List.forall_mem_cons.mpr ⟨lw_p30, List.forall_mem_cons.mpr ⟨lw_p31, fun _ h => absurd h List.not_mem_nil⟩⟩⟩⟩⟩⟩⟩⟩⟩⟩⟩⟩⟩⟩⟩⟩
theorem lw_p32 : lw_okq (⟨"BetweenCountsModel", "isNode", "(I)Z"⟩, 31) := ⟨⟨by decide +kernel, by decide +kernel⟩, List.mem_of_getElem? (i := 642) (by decide +kernel), List.mem_of_getElem? (i := 758) (by decide +kernel), List.mem_of_getElem? (i := 759) (by decide +kernel)⟩
theorem lw_p33 : lw_okq (⟨"BetweenCountsModel", "isArc", "(I)Z"⟩, 31) := ⟨⟨by decide +kernel, by decide +kernel⟩, List.mem_of_getElem? (i := 642) (by decide +kernel), List.mem_of_getElem? (i := 766) (by decide +kernel), List.mem_of_getElem? (i := 767) (by decide +kernel)⟩
theorem lw_p34 : lw_okq (⟨"BetweenCountsModel", "isChosen", "(II)Z"⟩, 31) := ⟨⟨by decide +kernel, by decide +kernel⟩, List.mem_of_getElem? (i := 642) (by decide +kernel), List.mem_of_getElem? (i := 774) (by decide +kernel), List.mem_of_getElem? (i := 775) (by decide +kernel)⟩
theorem lw_p35 : lw_okq (⟨"BetweenCountsModel", "lengths", "()V"⟩, 31) := ⟨⟨by decide +kernel, by decide +kernel⟩, List.mem_of_getElem? (i := 642) (by decide +kernel), List.mem_of_getElem? (i := 782) (by decide +kernel), List.mem_of_getElem? (i := 783) (by decide +kernel)⟩
theorem lw_p36 : lw_okq (⟨"BetweenCountsModel", "cell", "(II)I"⟩, 31) := ⟨⟨by decide +kernel, by decide +kernel⟩, List.mem_of_getElem? (i := 642) (by decide +kernel), List.mem_of_getElem? (i := 786) (by decide +kernel), List.mem_of_getElem? (i := 787) (by decide +kernel)⟩
theorem lw_p37 : lw_okq (⟨"BetweenCountsModel", "countAll", "(Z)V"⟩, 31) := ⟨⟨by decide +kernel, by decide +kernel⟩, List.mem_of_getElem? (i := 642) (by decide +kernel), List.mem_of_getElem? (i := 795) (by decide +kernel), List.mem_of_getElem? (i := 796) (by decide +kernel)⟩
theorem lw_p38 : lw_okq (⟨"BetweenCountsModel", "intoNode", "(IIZ)J"⟩, 31) := ⟨⟨by decide +kernel, by decide +kernel⟩, List.mem_of_getElem? (i := 642) (by decide +kernel), List.mem_of_getElem? (i := 799) (by decide +kernel), List.mem_of_getElem? (i := 800) (by decide +kernel)⟩
theorem lw_p39 : lw_okq (⟨"BetweenCountsModel", "isPair", "(II)Z"⟩, 31) := ⟨⟨by decide +kernel, by decide +kernel⟩, List.mem_of_getElem? (i := 642) (by decide +kernel), List.mem_of_getElem? (i := 808) (by decide +kernel), List.mem_of_getElem? (i := 809) (by decide +kernel)⟩
theorem lw_p40 : lw_okq (⟨"BetweenCountsModel", "through", "(III)J"⟩, 31) := ⟨⟨by decide +kernel, by decide +kernel⟩, List.mem_of_getElem? (i := 642) (by decide +kernel), List.mem_of_getElem? (i := 812) (by decide +kernel), List.mem_of_getElem? (i := 813) (by decide +kernel)⟩
theorem lw_p41 : lw_okq (⟨"BetweenCountsModel", "isOther", "(III)Z"⟩, 31) := ⟨⟨by decide +kernel, by decide +kernel⟩, List.mem_of_getElem? (i := 642) (by decide +kernel), List.mem_of_getElem? (i := 823) (by decide +kernel), List.mem_of_getElem? (i := 824) (by decide +kernel)⟩
theorem lw_p42 : lw_okq (⟨"BetweenCountsModel", "addBetween", "(I)V"⟩, 31) := ⟨⟨by decide +kernel, by decide +kernel⟩, List.mem_of_getElem? (i := 642) (by decide +kernel), List.mem_of_getElem? (i := 827) (by decide +kernel), List.mem_of_getElem? (i := 828) (by decide +kernel)⟩
theorem lw_p43 : lw_okq (⟨"BetweenCountsModel", "nothing", "()V"⟩, 31) := ⟨⟨by decide +kernel, by decide +kernel⟩, List.mem_of_getElem? (i := 642) (by decide +kernel), List.mem_of_getElem? (i := 831) (by decide +kernel), List.mem_of_getElem? (i := 832) (by decide +kernel)⟩
theorem lw_p44 : lw_okq (⟨"BetweenCountsModel", "more", "(JJ)V"⟩, 31) := ⟨⟨by decide +kernel, by decide +kernel⟩, List.mem_of_getElem? (i := 642) (by decide +kernel), List.mem_of_getElem? (i := 839) (by decide +kernel), List.mem_of_getElem? (i := 840) (by decide +kernel)⟩
theorem lw_p45 : lw_okq (⟨"BetweenCountsModel", "rest", "([JJ)J"⟩, 31) := ⟨⟨by decide +kernel, by decide +kernel⟩, List.mem_of_getElem? (i := 642) (by decide +kernel), List.mem_of_getElem? (i := 846) (by decide +kernel), List.mem_of_getElem? (i := 847) (by decide +kernel)⟩
theorem lw_p46 : lw_okq (⟨"BetweenCountsModel", "copy", "([J[J)V"⟩, 31) := ⟨⟨by decide +kernel, by decide +kernel⟩, List.mem_of_getElem? (i := 642) (by decide +kernel), List.mem_of_getElem? (i := 850) (by decide +kernel), List.mem_of_getElem? (i := 851) (by decide +kernel)⟩
theorem lw_p47 : lw_okq (⟨"BetweenCountsModel", "by", "([JJ)J"⟩, 31) := ⟨⟨by decide +kernel, by decide +kernel⟩, List.mem_of_getElem? (i := 642) (by decide +kernel), List.mem_of_getElem? (i := 854) (by decide +kernel), List.mem_of_getElem? (i := 855) (by decide +kernel)⟩
def lw_privs_3 : List (MethodName × Nat) := [(⟨"BetweenCountsModel", "isNode", "(I)Z"⟩, 31), (⟨"BetweenCountsModel", "isArc", "(I)Z"⟩, 31), (⟨"BetweenCountsModel", "isChosen", "(II)Z"⟩, 31), (⟨"BetweenCountsModel", "lengths", "()V"⟩, 31), (⟨"BetweenCountsModel", "cell", "(II)I"⟩, 31), (⟨"BetweenCountsModel", "countAll", "(Z)V"⟩, 31), (⟨"BetweenCountsModel", "intoNode", "(IIZ)J"⟩, 31), (⟨"BetweenCountsModel", "isPair", "(II)Z"⟩, 31), (⟨"BetweenCountsModel", "through", "(III)J"⟩, 31), (⟨"BetweenCountsModel", "isOther", "(III)Z"⟩, 31), (⟨"BetweenCountsModel", "addBetween", "(I)V"⟩, 31), (⟨"BetweenCountsModel", "nothing", "()V"⟩, 31), (⟨"BetweenCountsModel", "more", "(JJ)V"⟩, 31), (⟨"BetweenCountsModel", "rest", "([JJ)J"⟩, 31), (⟨"BetweenCountsModel", "copy", "([J[J)V"⟩, 31), (⟨"BetweenCountsModel", "by", "([JJ)J"⟩, 31)]
theorem lw_r3 : ∀ q ∈ lw_privs_3, lw_okq q := List.forall_mem_cons.mpr ⟨lw_p32, List.forall_mem_cons.mpr ⟨lw_p33, List.forall_mem_cons.mpr ⟨lw_p34, List.forall_mem_cons.mpr ⟨lw_p35, List.forall_mem_cons.mpr ⟨lw_p36, List.forall_mem_cons.mpr ⟨lw_p37, List.forall_mem_cons.mpr ⟨lw_p38, List.forall_mem_cons.mpr ⟨lw_p39, List.forall_mem_cons.mpr ⟨lw_p40, List.forall_mem_cons.mpr ⟨lw_p41, List.forall_mem_cons.mpr ⟨lw_p42, List.forall_mem_cons.mpr ⟨lw_p43, List.forall_mem_cons.mpr ⟨lw_p44, List.forall_mem_cons.mpr ⟨lw_p45, List.forall_mem_cons.mpr ⟨lw_p46, List.forall_mem_cons.mpr ⟨lw_p47, fun _ h => absurd h List.not_mem_nil⟩⟩⟩⟩⟩⟩⟩⟩⟩⟩⟩⟩⟩⟩⟩⟩
theorem lw_p48 : lw_okq (⟨"BetweenCountsModel", "times", "([JJ)V"⟩, 31) := ⟨⟨by decide +kernel, by decide +kernel⟩, List.mem_of_getElem? (i := 642) (by decide +kernel), List.mem_of_getElem? (i := 858) (by decide +kernel), List.mem_of_getElem? (i := 859) (by decide +kernel)⟩
theorem lw_p49 : lw_okq (⟨"BetweenCountsModel", "add", "([J[J)V"⟩, 31) := ⟨⟨by decide +kernel, by decide +kernel⟩, List.mem_of_getElem? (i := 642) (by decide +kernel), List.mem_of_getElem? (i := 862) (by decide +kernel), List.mem_of_getElem? (i := 863) (by decide +kernel)⟩
theorem lw_p50 : lw_okq (⟨"BetweenCountsModel", "isZero", "([J)Z"⟩, 31) := ⟨⟨by decide +kernel, by decide +kernel⟩, List.mem_of_getElem? (i := 642) (by decide +kernel), List.mem_of_getElem? (i := 866) (by decide +kernel), List.mem_of_getElem? (i := 867) (by decide +kernel)⟩
theorem lw_p51 : lw_okq (⟨"BetweenCountsModel", "told", "(II)J"⟩, 31) := ⟨⟨by decide +kernel, by decide +kernel⟩, List.mem_of_getElem? (i := 642) (by decide +kernel), List.mem_of_getElem? (i := 870) (by decide +kernel), List.mem_of_getElem? (i := 871) (by decide +kernel)⟩
theorem lw_p52 : lw_okq (⟨"BetweenCountsModel", "isGreater", "(II)Z"⟩, 31) := ⟨⟨by decide +kernel, by decide +kernel⟩, List.mem_of_getElem? (i := 642) (by decide +kernel), List.mem_of_getElem? (i := 894) (by decide +kernel), List.mem_of_getElem? (i := 895) (by decide +kernel)⟩
theorem lw_p53 : lw_okq (⟨"BetweenCountsModel", "product", "([J[JI[JI)V"⟩, 31) := ⟨⟨by decide +kernel, by decide +kernel⟩, List.mem_of_getElem? (i := 642) (by decide +kernel), List.mem_of_getElem? (i := 898) (by decide +kernel), List.mem_of_getElem? (i := 899) (by decide +kernel)⟩
theorem lw_p54 : lw_okq (⟨"BetweenCountsModel", "lookAtPiece", "(I)V"⟩, 31) := ⟨⟨by decide +kernel, by decide +kernel⟩, List.mem_of_getElem? (i := 642) (by decide +kernel), List.mem_of_getElem? (i := 906) (by decide +kernel), List.mem_of_getElem? (i := 907) (by decide +kernel)⟩
theorem lw_p55 : lw_okq (⟨"BetweenCountsModel", "invert", "(IJ)Z"⟩, 31) := ⟨⟨by decide +kernel, by decide +kernel⟩, List.mem_of_getElem? (i := 642) (by decide +kernel), List.mem_of_getElem? (i := 910) (by decide +kernel), List.mem_of_getElem? (i := 911) (by decide +kernel)⟩
theorem lw_p56 : lw_okq (⟨"BetweenCountsModel", "begin", "()V"⟩, 31) := ⟨⟨by decide +kernel, by decide +kernel⟩, List.mem_of_getElem? (i := 642) (by decide +kernel), List.mem_of_getElem? (i := 918) (by decide +kernel), List.mem_of_getElem? (i := 919) (by decide +kernel)⟩
theorem lw_p57 : lw_okq (⟨"BetweenCountsModel", "potential", "(III)J"⟩, 31) := ⟨⟨by decide +kernel, by decide +kernel⟩, List.mem_of_getElem? (i := 642) (by decide +kernel), List.mem_of_getElem? (i := 922) (by decide +kernel), List.mem_of_getElem? (i := 923) (by decide +kernel)⟩
theorem lw_p58 : lw_okq (⟨"BetweenCountsModel", "whole", "([J)V"⟩, 31) := ⟨⟨by decide +kernel, by decide +kernel⟩, List.mem_of_getElem? (i := 642) (by decide +kernel), List.mem_of_getElem? (i := 926) (by decide +kernel), List.mem_of_getElem? (i := 927) (by decide +kernel)⟩
theorem lw_p59 : lw_okq (⟨"BetweenCountsModel", "less", "([J[J)V"⟩, 31) := ⟨⟨by decide +kernel, by decide +kernel⟩, List.mem_of_getElem? (i := 642) (by decide +kernel), List.mem_of_getElem? (i := 930) (by decide +kernel), List.mem_of_getElem? (i := 931) (by decide +kernel)⟩
theorem lw_p60 : lw_okq (⟨"BetweenCountsModel", "compare", "([J[J)I"⟩, 31) := ⟨⟨by decide +kernel, by decide +kernel⟩, List.mem_of_getElem? (i := 642) (by decide +kernel), List.mem_of_getElem? (i := 934) (by decide +kernel), List.mem_of_getElem? (i := 935) (by decide +kernel)⟩
theorem lw_p61 : lw_okq (⟨"BetweenCountsModel", "treesOf", "([J)V"⟩, 31) := ⟨⟨by decide +kernel, by decide +kernel⟩, List.mem_of_getElem? (i := 642) (by decide +kernel), List.mem_of_getElem? (i := 938) (by decide +kernel), List.mem_of_getElem? (i := 939) (by decide +kernel)⟩
theorem lw_p62 : lw_okq (⟨"BetweenCountsModel", "lowest", "()V"⟩, 31) := ⟨⟨by decide +kernel, by decide +kernel⟩, List.mem_of_getElem? (i := 642) (by decide +kernel), List.mem_of_getElem? (i := 942) (by decide +kernel), List.mem_of_getElem? (i := 943) (by decide +kernel)⟩
theorem lw_p63 : lw_okq (⟨"BetweenCountsModel", "half", "([J)V"⟩, 31) := ⟨⟨by decide +kernel, by decide +kernel⟩, List.mem_of_getElem? (i := 642) (by decide +kernel), List.mem_of_getElem? (i := 946) (by decide +kernel), List.mem_of_getElem? (i := 947) (by decide +kernel)⟩
def lw_privs_4 : List (MethodName × Nat) := [(⟨"BetweenCountsModel", "times", "([JJ)V"⟩, 31), (⟨"BetweenCountsModel", "add", "([J[J)V"⟩, 31), (⟨"BetweenCountsModel", "isZero", "([J)Z"⟩, 31), (⟨"BetweenCountsModel", "told", "(II)J"⟩, 31), (⟨"BetweenCountsModel", "isGreater", "(II)Z"⟩, 31), (⟨"BetweenCountsModel", "product", "([J[JI[JI)V"⟩, 31), (⟨"BetweenCountsModel", "lookAtPiece", "(I)V"⟩, 31), (⟨"BetweenCountsModel", "invert", "(IJ)Z"⟩, 31), (⟨"BetweenCountsModel", "begin", "()V"⟩, 31), (⟨"BetweenCountsModel", "potential", "(III)J"⟩, 31), (⟨"BetweenCountsModel", "whole", "([J)V"⟩, 31), (⟨"BetweenCountsModel", "less", "([J[J)V"⟩, 31), (⟨"BetweenCountsModel", "compare", "([J[J)I"⟩, 31), (⟨"BetweenCountsModel", "treesOf", "([J)V"⟩, 31), (⟨"BetweenCountsModel", "lowest", "()V"⟩, 31), (⟨"BetweenCountsModel", "half", "([J)V"⟩, 31)]
theorem lw_r4 : ∀ q ∈ lw_privs_4, lw_okq q := List.forall_mem_cons.mpr ⟨lw_p48, List.forall_mem_cons.mpr ⟨lw_p49, List.forall_mem_cons.mpr ⟨lw_p50, List.forall_mem_cons.mpr ⟨lw_p51, List.forall_mem_cons.mpr ⟨lw_p52, List.forall_mem_cons.mpr ⟨lw_p53, List.forall_mem_cons.mpr ⟨lw_p54, List.forall_mem_cons.mpr ⟨lw_p55, List.forall_mem_cons.mpr ⟨lw_p56, List.forall_mem_cons.mpr ⟨lw_p57, List.forall_mem_cons.mpr ⟨lw_p58, List.forall_mem_cons.mpr ⟨lw_p59, List.forall_mem_cons.mpr ⟨lw_p60, List.forall_mem_cons.mpr ⟨lw_p61, List.forall_mem_cons.mpr ⟨lw_p62, List.forall_mem_cons.mpr ⟨lw_p63, fun _ h => absurd h List.not_mem_nil⟩⟩⟩⟩⟩⟩⟩⟩⟩⟩⟩⟩⟩⟩⟩⟩
theorem lw_p64 : lw_okq (⟨"BetweenCountsModel", "divide", "([J)V"⟩, 31) := ⟨⟨by decide +kernel, by decide +kernel⟩, List.mem_of_getElem? (i := 642) (by decide +kernel), List.mem_of_getElem? (i := 950) (by decide +kernel), List.mem_of_getElem? (i := 951) (by decide +kernel)⟩
theorem lw_p65 : lw_okq (⟨"BetweenCountsModel", "addFlow", "(III)V"⟩, 31) := ⟨⟨by decide +kernel, by decide +kernel⟩, List.mem_of_getElem? (i := 642) (by decide +kernel), List.mem_of_getElem? (i := 958) (by decide +kernel), List.mem_of_getElem? (i := 959) (by decide +kernel)⟩
def lw_privs_5 : List (MethodName × Nat) := [(⟨"BetweenCountsModel", "divide", "([J)V"⟩, 31), (⟨"BetweenCountsModel", "addFlow", "(III)V"⟩, 31)]
theorem lw_r5 : ∀ q ∈ lw_privs_5, lw_okq q := List.forall_mem_cons.mpr ⟨lw_p64, List.forall_mem_cons.mpr ⟨lw_p65, fun _ h => absurd h List.not_mem_nil⟩⟩
def lw_privs : List (MethodName × Nat) := lw_privs_1 ++ (lw_privs_2 ++ (lw_privs_3 ++ (lw_privs_4 ++ (lw_privs_5))))
def lw_tbl : List Cond := k2_sels lw_privs ++ tables_1
theorem lw_privs_ok : ∀ q ∈ lw_privs, lw_okq q := by
  show ∀ q ∈ lw_privs_1 ++ (lw_privs_2 ++ (lw_privs_3 ++ (lw_privs_4 ++ (lw_privs_5)))), lw_okq q
  exact List.forall_mem_append.mpr ⟨lw_r1, List.forall_mem_append.mpr ⟨lw_r2, List.forall_mem_append.mpr ⟨lw_r3, List.forall_mem_append.mpr ⟨lw_r4, lw_r5⟩⟩⟩⟩
-- ===== end of PART A; then your names; then what follows =====
end
section
/-! ===== BEGIN words of one list among another's, by their places ===== -/
theorem goodIn_r {big : List Cond} (ws : List Cond) (ps : List Nat) (hp : ws = ps.filterMap (fun i => big[i]?)) (h : ws.all goodWord = true) : GoodIn big ws := by
  intro w hw
  have h1 := List.all_eq_true.mp h w hw
  rw [hp] at hw
  obtain ⟨i, -, hi⟩ := List.mem_filterMap.mp hw
  have hm : w ∈ big := by first | exact List.mem_of_getElem? hi | exact List.getElem?_mem hi
  exact ⟨hm, good_of_word h1⟩
theorem goodIn_app {big a b : List Cond} (ha : GoodIn big a) (hb : GoodIn big b) : GoodIn big (a ++ b) := fun w h => (List.mem_append.mp h).elim (ha w) (hb w)
theorem goodIn_ca {big a b : List Cond} {c : Cond} (ha : GoodIn big (c :: a)) (hb : GoodIn big b) : GoodIn big (c :: (a ++ b)) := fun w h => (List.mem_cons.mp h).elim (fun e => ha w (List.mem_cons.mpr (Or.inl e))) (fun h => (List.mem_append.mp h).elim (fun h => ha w (List.mem_cons.mpr (Or.inr h))) (hb w))
theorem goodIn_sub {big ws : List Cond} (hm : ∀ w ∈ ws, w ∈ big) (h : ws.all goodWord = true) : GoodIn big ws := fun w hw => ⟨hm w hw, good_of_word (List.all_eq_true.mp h w hw)⟩
/-! ===== END ===== -/
def RX0 : String := "BetweenCounts$Big"
def TX0 : u_T := fun k => match k with
  | 0 => ("BetweenCounts$Big", "digit", "[J", true)
  | _ => ("BetweenCounts$Big", "size", "I", false)
def tyX0 : Nat → FieldType := fun k => match k with
  | 0 => .array .long
  | _ => .int
abbrev wsX00 : List Cond := u_ws RX0 TX0 2
theorem nmX0 : ∀ a, a < 2 → ∀ b, b < 2 → a ≠ b → (TX0 a).2.1 ≠ (TX0 b).2.1 := by decide +kernel
theorem tyX0_ok : ∀ k, k < 2 → parseFieldDescriptor (TX0 k).2.2.1 = some (tyX0 k) := by decide +kernel
abbrev cX0_init : ByteArray := prog_2_method_1_code
def yX0_init : MethodName := ⟨RX0, "<init>", "(I)V"⟩
abbrev cX0_setSmall : ByteArray := prog_2_method_2_code
def yX0_setSmall : MethodName := ⟨RX0, "setSmall", "(J)V"⟩
abbrev cX0_set : ByteArray := prog_2_method_3_code
def yX0_set : MethodName := ⟨RX0, "set", "(LBetweenCounts$Big;)V"⟩
abbrev cX0_append : ByteArray := prog_2_method_4_code
def yX0_append : MethodName := ⟨RX0, "append", "(J)V"⟩
abbrev cX0_digitAt : ByteArray := prog_2_method_5_code
def yX0_digitAt : MethodName := ⟨RX0, "digitAt", "(I)J"⟩
abbrev cX0_pad : ByteArray := prog_2_method_6_code
def yX0_pad : MethodName := ⟨RX0, "pad", "(I)V"⟩
abbrev cX0_cutAt : ByteArray := prog_2_method_7_code
def yX0_cutAt : MethodName := ⟨RX0, "cutAt", "(I)V"⟩
abbrev cX0_trim : ByteArray := prog_2_method_8_code
def yX0_trim : MethodName := ⟨RX0, "trim", "()V"⟩
abbrev cX0_compareWith : ByteArray := prog_2_method_9_code
def yX0_compareWith : MethodName := ⟨RX0, "compareWith", "(LBetweenCounts$Big;)I"⟩
abbrev cX0_times : ByteArray := prog_2_method_10_code
def yX0_times : MethodName := ⟨RX0, "times", "(J)V"⟩
abbrev cX0_addTimes : ByteArray := prog_2_method_11_code
def yX0_addTimes : MethodName := ⟨RX0, "addTimes", "(LBetweenCounts$Big;J)V"⟩
abbrev cX0_setProduct : ByteArray := prog_2_method_12_code
def yX0_setProduct : MethodName := ⟨RX0, "setProduct", "(LBetweenCounts$Big;LBetweenCounts$Big;)V"⟩
abbrev cX0_addProduct : ByteArray := prog_2_method_13_code
def yX0_addProduct : MethodName := ⟨RX0, "addProduct", "(LBetweenCounts$Big;LBetweenCounts$Big;)V"⟩
abbrev cX0_carryFrom : ByteArray := prog_2_method_14_code
def yX0_carryFrom : MethodName := ⟨RX0, "carryFrom", "(IJ)V"⟩
abbrev cX0_subtract : ByteArray := prog_2_method_15_code
def yX0_subtract : MethodName := ⟨RX0, "subtract", "(LBetweenCounts$Big;)V"⟩
abbrev cX0_divideSmall : ByteArray := prog_2_method_16_code
def yX0_divideSmall : MethodName := ⟨RX0, "divideSmall", "(J)J"⟩
abbrev cX0_rest : ByteArray := prog_2_method_17_code
def yX0_rest : MethodName := ⟨RX0, "rest", "(I)I"⟩
abbrev cX0_bitsOfLimb : ByteArray := prog_2_method_18_code
def yX0_bitsOfLimb : MethodName := ⟨RX0, "bitsOfLimb", "(I)J"⟩
def RX1 : String := "BetweenCounts$Divider"
def TX1 : u_T := fun k => match k with
  | 0 => ("BetweenCounts$Divider", "quotient", "LBetweenCounts$Big;", true)
  | 1 => ("BetweenCounts$Divider", "scaled", "LBetweenCounts$Big;", true)
  | 2 => ("BetweenCounts$Divider", "left", "LBetweenCounts$Big;", true)
  | _ => ("BetweenCounts$Divider", "right", "LBetweenCounts$Big;", true)
def tyX1 : Nat → FieldType := fun k => match k with
  | 0 => .object "BetweenCounts$Big"
  | 1 => .object "BetweenCounts$Big"
  | 2 => .object "BetweenCounts$Big"
  | _ => .object "BetweenCounts$Big"
abbrev wsX10 : List Cond := u_ws RX1 TX1 4
theorem nmX1 : ∀ a, a < 4 → ∀ b, b < 4 → a ≠ b → (TX1 a).2.1 ≠ (TX1 b).2.1 := by decide +kernel
theorem tyX1_ok : ∀ k, k < 4 → parseFieldDescriptor (TX1 k).2.2.1 = some (tyX1 k) := by decide +kernel
abbrev cX1_init : ByteArray := prog_3_method_1_code
def yX1_init : MethodName := ⟨RX1, "<init>", "()V"⟩
abbrev cX1_divide : ByteArray := prog_3_method_2_code
def yX1_divide : MethodName := ⟨RX1, "divide", "(LBetweenCounts$Big;LBetweenCounts$Big;)V"⟩
abbrev cX1_takeDigit : ByteArray := prog_3_method_3_code
def yX1_takeDigit : MethodName := ⟨RX1, "takeDigit", "(LBetweenCounts$Big;I)J"⟩
abbrev cX1_guess : ByteArray := prog_3_method_4_code
def yX1_guess : MethodName := ⟨RX1, "guess", "(LBetweenCounts$Big;I)J"⟩
abbrev cX1_takeAway : ByteArray := prog_3_method_5_code
def yX1_takeAway : MethodName := ⟨RX1, "takeAway", "(LBetweenCounts$Big;IJ)J"⟩
abbrev cX1_putBack : ByteArray := prog_3_method_6_code
def yX1_putBack : MethodName := ⟨RX1, "putBack", "(LBetweenCounts$Big;I)V"⟩
abbrev cX1_reduce : ByteArray := prog_3_method_7_code
def yX1_reduce : MethodName := ⟨RX1, "reduce", "(LBetweenCounts$Fraction;)V"⟩
def RX2 : String := "BetweenCounts$Flow"
def TX2 : u_T := fun k => match k with
  | 0 => ("BetweenCounts$Flow", "ground", "[I", true)
  | 1 => ("BetweenCounts$Flow", "net", "LBetweenCounts$Net;", true)
  | 2 => ("BetweenCounts$Flow", "conducts", "[[I", true)
  | 3 => ("BetweenCounts$Flow", "entry", "[LBetweenCounts$Big;", true)
  | 4 => ("BetweenCounts$Flow", "whole", "LBetweenCounts$Big;", true)
  | 5 => ("BetweenCounts$Flow", "pivot", "LBetweenCounts$Big;", true)
  | 6 => ("BetweenCounts$Flow", "one", "LBetweenCounts$Big;", true)
  | 7 => ("BetweenCounts$Flow", "other", "LBetweenCounts$Big;", true)
  | 8 => ("BetweenCounts$Flow", "divider", "LBetweenCounts$Divider;", true)
  | 9 => ("BetweenCounts$Flow", "fresh", "Z", false)
  | _ => ("BetweenCounts$Flow", "settledFor", "I", false)
def tyX2 : Nat → FieldType := fun k => match k with
  | 0 => .array .int
  | 1 => .object "BetweenCounts$Net"
  | 2 => .array (.array .int)
  | 3 => .array (.object "BetweenCounts$Big")
  | 4 => .object "BetweenCounts$Big"
  | 5 => .object "BetweenCounts$Big"
  | 6 => .object "BetweenCounts$Big"
  | 7 => .object "BetweenCounts$Big"
  | 8 => .object "BetweenCounts$Divider"
  | 9 => .boolean
  | _ => .int
abbrev wsX20 : List Cond := u_ws RX2 TX2 11
theorem nmX2 : ∀ a, a < 11 → ∀ b, b < 11 → a ≠ b → (TX2 a).2.1 ≠ (TX2 b).2.1 := by decide +kernel
theorem tyX2_ok : ∀ k, k < 11 → parseFieldDescriptor (TX2 k).2.2.1 = some (tyX2 k) := by decide +kernel
abbrev cX2_init : ByteArray := prog_4_method_1_code
def yX2_init : MethodName := ⟨RX2, "<init>", "(LBetweenCounts$Net;)V"⟩
abbrev cX2_forget : ByteArray := prog_4_method_2_code
def yX2_forget : MethodName := ⟨RX2, "forget", "()V"⟩
abbrev cX2_refresh : ByteArray := prog_4_method_3_code
def yX2_refresh : MethodName := ⟨RX2, "refresh", "()V"⟩
abbrev cX2_lowerGrounds : ByteArray := prog_4_method_4_code
def yX2_lowerGrounds : MethodName := ⟨RX2, "lowerGrounds", "()V"⟩
abbrev cX2_countPieces : ByteArray := prog_4_method_5_code
def yX2_countPieces : MethodName := ⟨RX2, "countPieces", "()I"⟩
abbrev cX2_entryOf : ByteArray := prog_4_method_6_code
def yX2_entryOf : MethodName := ⟨RX2, "entryOf", "(II)LBetweenCounts$Big;"⟩
abbrev cX2_isInner : ByteArray := prog_4_method_7_code
def yX2_isInner : MethodName := ⟨RX2, "isInner", "(II)Z"⟩
abbrev cX2_settle : ByteArray := prog_4_method_8_code
def yX2_settle : MethodName := ⟨RX2, "settle", "(I)V"⟩
abbrev cX2_startOf : ByteArray := prog_4_method_9_code
def yX2_startOf : MethodName := ⟨RX2, "startOf", "(II)I"⟩
abbrev cX2_sweep : ByteArray := prog_4_method_10_code
def yX2_sweep : MethodName := ⟨RX2, "sweep", "(II)V"⟩
abbrev cX2_sweepEntry : ByteArray := prog_4_method_11_code
def yX2_sweepEntry : MethodName := ⟨RX2, "sweepEntry", "(III)V"⟩
abbrev cX2_tellResistance : ByteArray := prog_4_method_12_code
def yX2_tellResistance : MethodName := ⟨RX2, "tellResistance", "(IILBetweenCounts$Fraction;)V"⟩
abbrev cX2_tellCarried : ByteArray := prog_4_method_13_code
def yX2_tellCarried : MethodName := ⟨RX2, "tellCarried", "(ILBetweenCounts$Fraction;)V"⟩
abbrev cX2_isOther : ByteArray := prog_4_method_14_code
def yX2_isOther : MethodName := ⟨RX2, "isOther", "(II)Z"⟩
abbrev cX2_addFlows : ByteArray := prog_4_method_15_code
def yX2_addFlows : MethodName := ⟨RX2, "addFlows", "(IIILBetweenCounts$Big;)V"⟩
abbrev cX2_dropOf : ByteArray := prog_4_method_16_code
def yX2_dropOf : MethodName := ⟨RX2, "dropOf", "(IIII)LBetweenCounts$Big;"⟩
def RX3 : String := "BetweenCounts$Fraction"
def TX3 : u_T := fun k => match k with
  | 0 => ("BetweenCounts$Fraction", "above", "LBetweenCounts$Big;", true)
  | _ => ("BetweenCounts$Fraction", "below", "LBetweenCounts$Big;", true)
def tyX3 : Nat → FieldType := fun k => match k with
  | 0 => .object "BetweenCounts$Big"
  | _ => .object "BetweenCounts$Big"
abbrev wsX30 : List Cond := u_ws RX3 TX3 2
theorem nmX3 : ∀ a, a < 2 → ∀ b, b < 2 → a ≠ b → (TX3 a).2.1 ≠ (TX3 b).2.1 := by decide +kernel
theorem tyX3_ok : ∀ k, k < 2 → parseFieldDescriptor (TX3 k).2.2.1 = some (tyX3 k) := by decide +kernel
abbrev cX3_init : ByteArray := prog_5_method_1_code
def yX3_init : MethodName := ⟨RX3, "<init>", "()V"⟩
abbrev cX3_clear : ByteArray := prog_5_method_2_code
def yX3_clear : MethodName := ⟨RX3, "clear", "()V"⟩
abbrev cX3_limb : ByteArray := prog_5_method_3_code
def yX3_limb : MethodName := ⟨RX3, "limb", "(II)J"⟩
abbrev cX3_addRatio : ByteArray := prog_5_method_4_code
def yX3_addRatio : MethodName := ⟨RX3, "addRatio", "(II)V"⟩
abbrev cX3_commonDivisor : ByteArray := prog_5_method_5_code
def yX3_commonDivisor : MethodName := ⟨RX3, "commonDivisor", "(II)I"⟩
def RX4 : String := "BetweenCounts$Net"
def TX4 : u_T := fun k => match k with
  | 0 => ("BetweenCounts$Net", "nodes", "I", false)
  | 1 => ("BetweenCounts$Net", "arcs", "I", false)
  | 2 => ("BetweenCounts$Net", "from", "[I", true)
  | 3 => ("BetweenCounts$Net", "to", "[I", true)
  | _ => ("BetweenCounts$Net", "weight", "[I", true)
def tyX4 : Nat → FieldType := fun k => match k with
  | 0 => .int
  | 1 => .int
  | 2 => .array .int
  | 3 => .array .int
  | _ => .array .int
abbrev wsX40 : List Cond := u_ws RX4 TX4 5
theorem nmX4 : ∀ a, a < 5 → ∀ b, b < 5 → a ≠ b → (TX4 a).2.1 ≠ (TX4 b).2.1 := by decide +kernel
theorem tyX4_ok : ∀ k, k < 5 → parseFieldDescriptor (TX4 k).2.2.1 = some (tyX4 k) := by decide +kernel
abbrev cX4_init : ByteArray := prog_6_method_1_code
def yX4_init : MethodName := ⟨RX4, "<init>", "()V"⟩
abbrev cX4_hasNode : ByteArray := prog_6_method_2_code
def yX4_hasNode : MethodName := ⟨RX4, "hasNode", "(I)Z"⟩
abbrev cX4_hasArc : ByteArray := prog_6_method_3_code
def yX4_hasArc : MethodName := ⟨RX4, "hasArc", "(I)Z"⟩
abbrev cX4_isWeight : ByteArray := prog_6_method_4_code
def yX4_isWeight : MethodName := ⟨RX4, "isWeight", "(I)Z"⟩
abbrev cX4_addNode : ByteArray := prog_6_method_5_code
def yX4_addNode : MethodName := ⟨RX4, "addNode", "()I"⟩
abbrev cX4_addArc : ByteArray := prog_6_method_6_code
def yX4_addArc : MethodName := ⟨RX4, "addArc", "(III)I"⟩
abbrev cX4_arcsThere : ByteArray := prog_6_method_7_code
def yX4_arcsThere : MethodName := ⟨RX4, "arcsThere", "()I"⟩
def RX5 : String := "BetweenCounts$Ranking"
def TX5 : u_T := fun k => match k with
  | 0 => ("BetweenCounts$Ranking", "value", "[LBetweenCounts$Fraction;", true)
  | 1 => ("BetweenCounts$Ranking", "known", "[Z", true)
  | 2 => ("BetweenCounts$Ranking", "ahead", "[I", true)
  | 3 => ("BetweenCounts$Ranking", "ranked", "Z", false)
  | 4 => ("BetweenCounts$Ranking", "left", "LBetweenCounts$Big;", true)
  | _ => ("BetweenCounts$Ranking", "right", "LBetweenCounts$Big;", true)
def tyX5 : Nat → FieldType := fun k => match k with
  | 0 => .array (.object "BetweenCounts$Fraction")
  | 1 => .array .boolean
  | 2 => .array .int
  | 3 => .boolean
  | 4 => .object "BetweenCounts$Big"
  | _ => .object "BetweenCounts$Big"
abbrev wsX50 : List Cond := u_ws RX5 TX5 6
theorem nmX5 : ∀ a, a < 6 → ∀ b, b < 6 → a ≠ b → (TX5 a).2.1 ≠ (TX5 b).2.1 := by decide +kernel
theorem tyX5_ok : ∀ k, k < 6 → parseFieldDescriptor (TX5 k).2.2.1 = some (tyX5 k) := by decide +kernel
abbrev cX5_init : ByteArray := prog_7_method_1_code
def yX5_init : MethodName := ⟨RX5, "<init>", "()V"⟩
abbrev cX5_forget : ByteArray := prog_7_method_2_code
def yX5_forget : MethodName := ⟨RX5, "forget", "()V"⟩
abbrev cX5_nodeAt : ByteArray := prog_7_method_3_code
def yX5_nodeAt : MethodName := ⟨RX5, "nodeAt", "(II)I"⟩
abbrev cX5_countAhead : ByteArray := prog_7_method_4_code
def yX5_countAhead : MethodName := ⟨RX5, "countAhead", "(I)V"⟩
abbrev cX5_isLess : ByteArray := prog_7_method_5_code
def yX5_isLess : MethodName := ⟨RX5, "isLess", "(LBetweenCounts$Fraction;LBetweenCounts$Fraction;)Z"⟩
def RX6 : String := "BetweenCounts$WayTable"
def TX6 : u_T := fun k => match k with
  | 0 => ("BetweenCounts$WayTable", "length", "[[I", true)
  | 1 => ("BetweenCounts$WayTable", "count", "[[I", true)
  | 2 => ("BetweenCounts$WayTable", "net", "LBetweenCounts$Net;", true)
  | 3 => ("BetweenCounts$WayTable", "shut", "[Z", true)
  | 4 => ("BetweenCounts$WayTable", "done", "[Z", true)
  | _ => ("BetweenCounts$WayTable", "fresh", "Z", false)
def tyX6 : Nat → FieldType := fun k => match k with
  | 0 => .array (.array .int)
  | 1 => .array (.array .int)
  | 2 => .object "BetweenCounts$Net"
  | 3 => .array .boolean
  | 4 => .array .boolean
  | _ => .boolean
abbrev wsX60 : List Cond := u_ws RX6 TX6 6
theorem nmX6 : ∀ a, a < 6 → ∀ b, b < 6 → a ≠ b → (TX6 a).2.1 ≠ (TX6 b).2.1 := by decide +kernel
theorem tyX6_ok : ∀ k, k < 6 → parseFieldDescriptor (TX6 k).2.2.1 = some (tyX6 k) := by decide +kernel
abbrev cX6_init : ByteArray := prog_8_method_1_code
def yX6_init : MethodName := ⟨RX6, "<init>", "(LBetweenCounts$Net;[Z)V"⟩
abbrev cX6_forget : ByteArray := prog_8_method_2_code
def yX6_forget : MethodName := ⟨RX6, "forget", "()V"⟩
abbrev cX6_refresh : ByteArray := prog_8_method_3_code
def yX6_refresh : MethodName := ⟨RX6, "refresh", "()V"⟩
abbrev cX6_spreadFrom : ByteArray := prog_8_method_4_code
def yX6_spreadFrom : MethodName := ⟨RX6, "spreadFrom", "(I[I[I)V"⟩
abbrev cX6_nearestLeft : ByteArray := prog_8_method_5_code
def yX6_nearestLeft : MethodName := ⟨RX6, "nearestLeft", "([I)I"⟩
abbrev cX6_goBy : ByteArray := prog_8_method_6_code
def yX6_goBy : MethodName := ⟨RX6, "goBy", "(I[I[I)V"⟩
abbrev cX6_countThrough : ByteArray := prog_8_method_7_code
def yX6_countThrough : MethodName := ⟨RX6, "countThrough", "(III)I"⟩
abbrev cX6_countBy : ByteArray := prog_8_method_8_code
def yX6_countBy : MethodName := ⟨RX6, "countBy", "(III)I"⟩
def RX7 : String := "BetweenCounts"
def TX7 : u_T := fun k => match k with
  | 0 => ("BetweenCounts", "net", "LBetweenCounts$Net;", true)
  | 1 => ("BetweenCounts", "inGroup", "[Z", true)
  | 2 => ("BetweenCounts", "begins", "[Z", true)
  | 3 => ("BetweenCounts", "ends", "[Z", true)
  | 4 => ("BetweenCounts", "open", "LBetweenCounts$WayTable;", true)
  | 5 => ("BetweenCounts", "around", "LBetweenCounts$WayTable;", true)
  | 6 => ("BetweenCounts", "flow", "LBetweenCounts$Flow;", true)
  | 7 => ("BetweenCounts", "ranking", "LBetweenCounts$Ranking;", true)
  | 8 => ("BetweenCounts", "kept", "LBetweenCounts$Fraction;", true)
  | _ => ("BetweenCounts", "keptFor", "I", false)
def tyX7 : Nat → FieldType := fun k => match k with
  | 0 => .object "BetweenCounts$Net"
  | 1 => .array .boolean
  | 2 => .array .boolean
  | 3 => .array .boolean
  | 4 => .object "BetweenCounts$WayTable"
  | 5 => .object "BetweenCounts$WayTable"
  | 6 => .object "BetweenCounts$Flow"
  | 7 => .object "BetweenCounts$Ranking"
  | 8 => .object "BetweenCounts$Fraction"
  | _ => .int
abbrev wsX70 : List Cond := u_ws RX7 TX7 10
theorem nmX7 : ∀ a, a < 10 → ∀ b, b < 10 → a ≠ b → (TX7 a).2.1 ≠ (TX7 b).2.1 := by decide +kernel
theorem tyX7_ok : ∀ k, k < 10 → parseFieldDescriptor (TX7 k).2.2.1 = some (tyX7 k) := by decide +kernel
abbrev cX7_init : ByteArray := prog_1_method_1_code
def yX7_init : MethodName := ⟨RX7, "<init>", "()V"⟩
abbrev cX7_node : ByteArray := prog_1_method_2_code
def yX7_node : MethodName := ⟨RX7, "node", "()I"⟩
abbrev cX7_arc : ByteArray := prog_1_method_3_code
def yX7_arc : MethodName := ⟨RX7, "arc", "(III)I"⟩
abbrev cX7_change : ByteArray := prog_1_method_4_code
def yX7_change : MethodName := ⟨RX7, "change", "(II)I"⟩
abbrev cX7_choose : ByteArray := prog_1_method_5_code
def yX7_choose : MethodName := ⟨RX7, "choose", "(II)Z"⟩
abbrev cX7_far : ByteArray := prog_1_method_6_code
def yX7_far : MethodName := ⟨RX7, "far", "(II)I"⟩
abbrev cX7_ways : ByteArray := prog_1_method_7_code
def yX7_ways : MethodName := ⟨RX7, "ways", "(II)I"⟩
abbrev cX7_stress : ByteArray := prog_1_method_8_code
def yX7_stress : MethodName := ⟨RX7, "stress", "(I)J"⟩
abbrev cX7_between : ByteArray := prog_1_method_9_code
def yX7_between : MethodName := ⟨RX7, "between", "(III)J"⟩
abbrev cX7_arcBetween : ByteArray := prog_1_method_10_code
def yX7_arcBetween : MethodName := ⟨RX7, "arcBetween", "(III)J"⟩
abbrev cX7_group : ByteArray := prog_1_method_11_code
def yX7_group : MethodName := ⟨RX7, "group", "(II)J"⟩
abbrev cX7_harmonic : ByteArray := prog_1_method_12_code
def yX7_harmonic : MethodName := ⟨RX7, "harmonic", "(III)J"⟩
abbrev cX7_close : ByteArray := prog_1_method_13_code
def yX7_close : MethodName := ⟨RX7, "close", "(III)J"⟩
abbrev cX7_top : ByteArray := prog_1_method_14_code
def yX7_top : MethodName := ⟨RX7, "top", "(I)I"⟩
abbrev cX7_resistance : ByteArray := prog_1_method_15_code
def yX7_resistance : MethodName := ⟨RX7, "resistance", "(IIII)J"⟩
abbrev cX7_carried : ByteArray := prog_1_method_16_code
def yX7_carried : MethodName := ⟨RX7, "carried", "(III)J"⟩
abbrev cX7_told : ByteArray := prog_1_method_17_code
def yX7_told : MethodName := ⟨RX7, "told", "(I)I"⟩
abbrev cX7_forgetNetwork : ByteArray := prog_1_method_18_code
def yX7_forgetNetwork : MethodName := ⟨RX7, "forgetNetwork", "()V"⟩
abbrev cX7_forgetChoice : ByteArray := prog_1_method_19_code
def yX7_forgetChoice : MethodName := ⟨RX7, "forgetChoice", "()V"⟩
abbrev cX7_isPlace : ByteArray := prog_1_method_20_code
def yX7_isPlace : MethodName := ⟨RX7, "isPlace", "(II)Z"⟩
abbrev cX7_isNewQuestion : ByteArray := prog_1_method_21_code
def yX7_isNewQuestion : MethodName := ⟨RX7, "isNewQuestion", "(I)Z"⟩
abbrev cX7_isPair : ByteArray := prog_1_method_22_code
def yX7_isPair : MethodName := ⟨RX7, "isPair", "(II)Z"⟩
abbrev cX7_countPairs : ByteArray := prog_1_method_23_code
def yX7_countPairs : MethodName := ⟨RX7, "countPairs", "()I"⟩
abbrev cX7_countGroup : ByteArray := prog_1_method_24_code
def yX7_countGroup : MethodName := ⟨RX7, "countGroup", "()I"⟩
abbrev cX7_needBetween : ByteArray := prog_1_method_25_code
def yX7_needBetween : MethodName := ⟨RX7, "needBetween", "(I)V"⟩
abbrev cX7_sumArc : ByteArray := prog_1_method_26_code
def yX7_sumArc : MethodName := ⟨RX7, "sumArc", "(I)V"⟩
abbrev cX7_sumGroup : ByteArray := prog_1_method_27_code
def yX7_sumGroup : MethodName := ⟨RX7, "sumGroup", "()V"⟩
abbrev cX7_countAround : ByteArray := prog_1_method_28_code
def yX7_countAround : MethodName := ⟨RX7, "countAround", "(II)I"⟩
abbrev cX7_sumHarmonic : ByteArray := prog_1_method_29_code
def yX7_sumHarmonic : MethodName := ⟨RX7, "sumHarmonic", "(I)V"⟩
abbrev cX7_sumClose : ByteArray := prog_1_method_30_code
def yX7_sumClose : MethodName := ⟨RX7, "sumClose", "(I)V"⟩
def RX8 : String := "BetweenCountsModel"
def TX8 : u_T := fun k => match k with
  | 0 => ("BetweenCountsModel", "nodes", "I", false)
  | 1 => ("BetweenCountsModel", "arcs", "I", false)
  | 2 => ("BetweenCountsModel", "from", "[I", true)
  | 3 => ("BetweenCountsModel", "to", "[I", true)
  | 4 => ("BetweenCountsModel", "weight", "[I", true)
  | 5 => ("BetweenCountsModel", "turned", "[Z", true)
  | 6 => ("BetweenCountsModel", "length", "[I", true)
  | 7 => ("BetweenCountsModel", "count", "[J", true)
  | 8 => ("BetweenCountsModel", "free", "[J", true)
  | 9 => ("BetweenCountsModel", "limbs", "I", false)
  | 10 => ("BetweenCountsModel", "up", "[J", true)
  | 11 => ("BetweenCountsModel", "below", "[J", true)
  | 12 => ("BetweenCountsModel", "help", "[J", true)
  | 13 => ("BetweenCountsModel", "other", "[J", true)
  | 14 => ("BetweenCountsModel", "third", "[J", true)
  | 15 => ("BetweenCountsModel", "sum", "[J", true)
  | 16 => ("BetweenCountsModel", "stands", "I", false)
  | 17 => ("BetweenCountsModel", "ups", "[J", true)
  | 18 => ("BetweenCountsModel", "belows", "[J", true)
  | 19 => ("BetweenCountsModel", "left", "[J", true)
  | 20 => ("BetweenCountsModel", "right", "[J", true)
  | 21 => ("BetweenCountsModel", "primes", "[J", true)
  | 22 => ("BetweenCountsModel", "piece", "[I", true)
  | 23 => ("BetweenCountsModel", "place", "[I", true)
  | 24 => ("BetweenCountsModel", "in", "[Z", true)
  | 25 => ("BetweenCountsModel", "many", "I", false)
  | 26 => ("BetweenCountsModel", "row", "[J", true)
  | 27 => ("BetweenCountsModel", "prime", "[J", true)
  | 28 => ("BetweenCountsModel", "trees", "[J", true)
  | 29 => ("BetweenCountsModel", "at", "[J", true)
  | _ => ("BetweenCountsModel", "digit", "[J", true)
def tyX8 : Nat → FieldType := fun k => match k with
  | 0 => .int
  | 1 => .int
  | 2 => .array .int
  | 3 => .array .int
  | 4 => .array .int
  | 5 => .array .boolean
  | 6 => .array .int
  | 7 => .array .long
  | 8 => .array .long
  | 9 => .int
  | 10 => .array .long
  | 11 => .array .long
  | 12 => .array .long
  | 13 => .array .long
  | 14 => .array .long
  | 15 => .array .long
  | 16 => .int
  | 17 => .array .long
  | 18 => .array .long
  | 19 => .array .long
  | 20 => .array .long
  | 21 => .array .long
  | 22 => .array .int
  | 23 => .array .int
  | 24 => .array .boolean
  | 25 => .int
  | 26 => .array .long
  | 27 => .array .long
  | 28 => .array .long
  | 29 => .array .long
  | _ => .array .long
abbrev wsX80 : List Cond := u_ws RX8 TX8 31
theorem nmX8 : ∀ a, a < 31 → ∀ b, b < 31 → a ≠ b → (TX8 a).2.1 ≠ (TX8 b).2.1 := by decide +kernel
theorem tyX8_ok : ∀ k, k < 31 → parseFieldDescriptor (TX8 k).2.2.1 = some (tyX8 k) := by decide +kernel
abbrev cX8_init : ByteArray := prog_10_method_1_code
def yX8_init : MethodName := ⟨RX8, "<init>", "()V"⟩
abbrev cX8_isNode : ByteArray := prog_10_method_2_code
def yX8_isNode : MethodName := ⟨RX8, "isNode", "(I)Z"⟩
abbrev cX8_isArc : ByteArray := prog_10_method_3_code
def yX8_isArc : MethodName := ⟨RX8, "isArc", "(I)Z"⟩
abbrev cX8_isChosen : ByteArray := prog_10_method_4_code
def yX8_isChosen : MethodName := ⟨RX8, "isChosen", "(II)Z"⟩
abbrev cX8_node : ByteArray := prog_10_method_5_code
def yX8_node : MethodName := ⟨RX8, "node", "()I"⟩
abbrev cX8_arc : ByteArray := prog_10_method_6_code
def yX8_arc : MethodName := ⟨RX8, "arc", "(III)I"⟩
abbrev cX8_change : ByteArray := prog_10_method_7_code
def yX8_change : MethodName := ⟨RX8, "change", "(II)I"⟩
abbrev cX8_choose : ByteArray := prog_10_method_8_code
def yX8_choose : MethodName := ⟨RX8, "choose", "(II)Z"⟩
abbrev cX8_cell : ByteArray := prog_10_method_9_code
def yX8_cell : MethodName := ⟨RX8, "cell", "(II)I"⟩
abbrev cX8_lengths : ByteArray := prog_10_method_10_code
def yX8_lengths : MethodName := ⟨RX8, "lengths", "()V"⟩
abbrev cX8_countAll : ByteArray := prog_10_method_11_code
def yX8_countAll : MethodName := ⟨RX8, "countAll", "(Z)V"⟩
abbrev cX8_intoNode : ByteArray := prog_10_method_12_code
def yX8_intoNode : MethodName := ⟨RX8, "intoNode", "(IIZ)J"⟩
abbrev cX8_isPair : ByteArray := prog_10_method_13_code
def yX8_isPair : MethodName := ⟨RX8, "isPair", "(II)Z"⟩
abbrev cX8_through : ByteArray := prog_10_method_14_code
def yX8_through : MethodName := ⟨RX8, "through", "(III)J"⟩
abbrev cX8_far : ByteArray := prog_10_method_15_code
def yX8_far : MethodName := ⟨RX8, "far", "(II)I"⟩
abbrev cX8_ways : ByteArray := prog_10_method_16_code
def yX8_ways : MethodName := ⟨RX8, "ways", "(II)I"⟩
abbrev cX8_stress : ByteArray := prog_10_method_17_code
def yX8_stress : MethodName := ⟨RX8, "stress", "(I)J"⟩
abbrev cX8_to : ByteArray := prog_10_method_18_code
def yX8_to : MethodName := ⟨RX8, "to", "([JJ)V"⟩
abbrev cX8_copy : ByteArray := prog_10_method_19_code
def yX8_copy : MethodName := ⟨RX8, "copy", "([J[J)V"⟩
abbrev cX8_times : ByteArray := prog_10_method_20_code
def yX8_times : MethodName := ⟨RX8, "times", "([JJ)V"⟩
abbrev cX8_add : ByteArray := prog_10_method_21_code
def yX8_add : MethodName := ⟨RX8, "add", "([J[J)V"⟩
abbrev cX8_less : ByteArray := prog_10_method_22_code
def yX8_less : MethodName := ⟨RX8, "less", "([J[J)V"⟩
abbrev cX8_compare : ByteArray := prog_10_method_23_code
def yX8_compare : MethodName := ⟨RX8, "compare", "([J[J)I"⟩
abbrev cX8_isZero : ByteArray := prog_10_method_24_code
def yX8_isZero : MethodName := ⟨RX8, "isZero", "([J)Z"⟩
abbrev cX8_by : ByteArray := prog_10_method_25_code
def yX8_by : MethodName := ⟨RX8, "by", "([JJ)J"⟩
abbrev cX8_rest : ByteArray := prog_10_method_26_code
def yX8_rest : MethodName := ⟨RX8, "rest", "([JJ)J"⟩
abbrev cX8_divisor : ByteArray := prog_10_method_27_code
def yX8_divisor : MethodName := ⟨RX8, "divisor", "(JJ)J"⟩
abbrev cX8_nothing : ByteArray := prog_10_method_28_code
def yX8_nothing : MethodName := ⟨RX8, "nothing", "()V"⟩
abbrev cX8_more : ByteArray := prog_10_method_29_code
def yX8_more : MethodName := ⟨RX8, "more", "(JJ)V"⟩
abbrev cX8_half : ByteArray := prog_10_method_30_code
def yX8_half : MethodName := ⟨RX8, "half", "([J)V"⟩
abbrev cX8_lowest : ByteArray := prog_10_method_31_code
def yX8_lowest : MethodName := ⟨RX8, "lowest", "()V"⟩
abbrev cX8_divide : ByteArray := prog_10_method_32_code
def yX8_divide : MethodName := ⟨RX8, "divide", "([J)V"⟩
abbrev cX8_told : ByteArray := prog_10_method_33_code
def yX8_told : MethodName := ⟨RX8, "told", "(II)J"⟩
abbrev cX8_isAsked : ByteArray := prog_10_method_34_code
def yX8_isAsked : MethodName := ⟨RX8, "isAsked", "(II)Z"⟩
abbrev cX8_isOther : ByteArray := prog_10_method_35_code
def yX8_isOther : MethodName := ⟨RX8, "isOther", "(III)Z"⟩
abbrev cX8_addBetween : ByteArray := prog_10_method_36_code
def yX8_addBetween : MethodName := ⟨RX8, "addBetween", "(I)V"⟩
abbrev cX8_between : ByteArray := prog_10_method_37_code
def yX8_between : MethodName := ⟨RX8, "between", "(III)J"⟩
abbrev cX8_arcBetween : ByteArray := prog_10_method_38_code
def yX8_arcBetween : MethodName := ⟨RX8, "arcBetween", "(III)J"⟩
abbrev cX8_group : ByteArray := prog_10_method_39_code
def yX8_group : MethodName := ⟨RX8, "group", "(II)J"⟩
abbrev cX8_harmonic : ByteArray := prog_10_method_40_code
def yX8_harmonic : MethodName := ⟨RX8, "harmonic", "(III)J"⟩
abbrev cX8_close : ByteArray := prog_10_method_41_code
def yX8_close : MethodName := ⟨RX8, "close", "(III)J"⟩
abbrev cX8_product : ByteArray := prog_10_method_42_code
def yX8_product : MethodName := ⟨RX8, "product", "([J[JI[JI)V"⟩
abbrev cX8_isGreater : ByteArray := prog_10_method_43_code
def yX8_isGreater : MethodName := ⟨RX8, "isGreater", "(II)Z"⟩
abbrev cX8_top : ByteArray := prog_10_method_44_code
def yX8_top : MethodName := ⟨RX8, "top", "(I)I"⟩
abbrev cX8_lookAtPiece : ByteArray := prog_10_method_45_code
def yX8_lookAtPiece : MethodName := ⟨RX8, "lookAtPiece", "(I)V"⟩
abbrev cX8_power : ByteArray := prog_10_method_46_code
def yX8_power : MethodName := ⟨RX8, "power", "(JJJ)J"⟩
abbrev cX8_invert : ByteArray := prog_10_method_47_code
def yX8_invert : MethodName := ⟨RX8, "invert", "(IJ)Z"⟩
abbrev cX8_whole : ByteArray := prog_10_method_48_code
def yX8_whole : MethodName := ⟨RX8, "whole", "([J)V"⟩
abbrev cX8_treesOf : ByteArray := prog_10_method_49_code
def yX8_treesOf : MethodName := ⟨RX8, "treesOf", "([J)V"⟩
abbrev cX8_begin : ByteArray := prog_10_method_50_code
def yX8_begin : MethodName := ⟨RX8, "begin", "()V"⟩
abbrev cX8_potential : ByteArray := prog_10_method_51_code
def yX8_potential : MethodName := ⟨RX8, "potential", "(III)J"⟩
abbrev cX8_resistance : ByteArray := prog_10_method_52_code
def yX8_resistance : MethodName := ⟨RX8, "resistance", "(IIII)J"⟩
abbrev cX8_carried : ByteArray := prog_10_method_53_code
def yX8_carried : MethodName := ⟨RX8, "carried", "(III)J"⟩
abbrev cX8_addFlow : ByteArray := prog_10_method_54_code
def yX8_addFlow : MethodName := ⟨RX8, "addFlow", "(III)V"⟩
abbrev cX8_told_ : ByteArray := prog_10_method_55_code
def yX8_told_ : MethodName := ⟨RX8, "told", "(I)I"⟩
def RJ9 : String := "java/lang/Math"
def TJ9 : u_T := fun k => match k with
  | _ => ("", "", "", false)
def tyJ9 : Nat → FieldType := fun k => match k with
  | _ => .int
abbrev wsJ90 : List Cond := u_ws RJ9 TJ9 0
theorem nmJ9 : ∀ a, a < 0 → ∀ b, b < 0 → a ≠ b → (TJ9 a).2.1 ≠ (TJ9 b).2.1 := by decide +kernel
theorem tyJ9_ok : ∀ k, k < 0 → parseFieldDescriptor (TJ9 k).2.2.1 = some (tyJ9 k) := by decide +kernel
abbrev cJ9_max_7cf53 : ByteArray := prog_11_method_65_code
def yJ9_max_7cf53 : MethodName := ⟨RJ9, "max", "(II)I"⟩
abbrev cJ9_min_7cf53 : ByteArray := prog_11_method_69_code
def yJ9_min_7cf53 : MethodName := ⟨RJ9, "min", "(II)I"⟩
def RJ10 : String := "java/lang/System"
def TJ10 : u_T := fun k => match k with
  | _ => ("", "", "", false)
def tyJ10 : Nat → FieldType := fun k => match k with
  | _ => .int
abbrev wsJ100 : List Cond := u_ws RJ10 TJ10 0
theorem nmJ10 : ∀ a, a < 0 → ∀ b, b < 0 → a ≠ b → (TJ10 a).2.1 ≠ (TJ10 b).2.1 := by decide +kernel
theorem tyJ10_ok : ∀ k, k < 0 → parseFieldDescriptor (TJ10 k).2.2.1 = some (tyJ10 k) := by decide +kernel
def RJ7 : String := "java/util/Arrays"
def TJ7 : u_T := fun k => match k with
  | _ => ("", "", "", false)
def tyJ7 : Nat → FieldType := fun k => match k with
  | _ => .int
abbrev wsJ70 : List Cond := u_ws RJ7 TJ7 0
theorem nmJ7 : ∀ a, a < 0 → ∀ b, b < 0 → a ≠ b → (TJ7 a).2.1 ≠ (TJ7 b).2.1 := by decide +kernel
theorem tyJ7_ok : ∀ k, k < 0 → parseFieldDescriptor (TJ7 k).2.2.1 = some (tyJ7 k) := by decide +kernel
abbrev cJ7_fill_53178 : ByteArray := prog_13_method_103_code
def yJ7_fill_53178 : MethodName := ⟨RJ7, "fill", "([II)V"⟩
def RL : String := "BetweenCountsLaw"
abbrev cL_law : ByteArray := code
def yL_law : MethodName := ⟨RL, "law", "([I)Z"⟩

def TS : List Cond := lw_tbl.filter goodWord
theorem TS_in {w : Cond} (h : w ∈ lw_tbl) (g : goodWord w = true) : w ∈ TS := List.mem_filter.mpr ⟨h, g⟩
theorem TS_all {w : Cond} (h : w ∈ TS) : w ∈ lw_tbl := (List.mem_filter.mp h).1
theorem TS_gd {w : Cond} (h : w ∈ TS) : (w.onTables && w.keeps) = true ∨ ∃ ty, w = .arrayClass ty := good_of_word (List.mem_filter.mp h).2
theorem inX0 : ∀ w ∈ wsX00, w ∈ TS := fun w h => TS_in (goodIn_r _ [174, 176] (by decide +kernel) (by decide +kernel) w h).1 (List.all_eq_true.mp (show wsX00.all goodWord = true by decide +kernel) w h)
theorem inX1 : ∀ w ∈ wsX10, w ∈ TS := fun w h => TS_in (goodIn_r _ [193, 195, 197, 199] (by decide +kernel) (by decide +kernel) w h).1 (List.all_eq_true.mp (show wsX10.all goodWord = true by decide +kernel) w h)
theorem inX2 : ∀ w ∈ wsX20, w ∈ TS := fun w h => TS_in (goodIn_r _ [214, 216, 218, 220, 222, 224, 226, 228, 230, 232, 234] (by decide +kernel) (by decide +kernel) w h).1 (List.all_eq_true.mp (show wsX20.all goodWord = true by decide +kernel) w h)
theorem inX3 : ∀ w ∈ wsX30, w ∈ TS := fun w h => TS_in (goodIn_r _ [270, 272] (by decide +kernel) (by decide +kernel) w h).1 (List.all_eq_true.mp (show wsX30.all goodWord = true by decide +kernel) w h)
theorem inX4 : ∀ w ∈ wsX40, w ∈ TS := fun w h => TS_in (goodIn_r _ [111, 113, 115, 117, 119] (by decide +kernel) (by decide +kernel) w h).1 (List.all_eq_true.mp (show wsX40.all goodWord = true by decide +kernel) w h)
theorem inX5 : ∀ w ∈ wsX50, w ∈ TS := fun w h => TS_in (goodIn_r _ [283, 285, 287, 289, 291, 293] (by decide +kernel) (by decide +kernel) w h).1 (List.all_eq_true.mp (show wsX50.all goodWord = true by decide +kernel) w h)
theorem inX6 : ∀ w ∈ wsX60, w ∈ TS := fun w h => TS_in (goodIn_r _ [139, 141, 143, 145, 147, 149] (by decide +kernel) (by decide +kernel) w h).1 (List.all_eq_true.mp (show wsX60.all goodWord = true by decide +kernel) w h)
theorem inX7 : ∀ w ∈ wsX70, w ∈ TS := fun w h => TS_in (goodIn_r _ [308, 310, 312, 314, 316, 318, 320, 322, 324, 326] (by decide +kernel) (by decide +kernel) w h).1 (List.all_eq_true.mp (show wsX70.all goodWord = true by decide +kernel) w h)
theorem inX8 : ∀ w ∈ wsX80, w ∈ TS := fun w h => TS_in (goodIn_r _ [752, 754, 756, 758, 760, 762, 764, 766, 768, 770, 772, 774, 776, 778, 780, 782, 784, 786, 788, 790, 792, 794, 796, 798, 800, 802, 804, 806, 808, 810, 812] (by decide +kernel) (by decide +kernel) w h).1 (List.all_eq_true.mp (show wsX80.all goodWord = true by decide +kernel) w h)
abbrev vwCl : List vw_C := [(RX0, TX0, 2), (RX1, TX1, 4), (RX2, TX2, 11), (RX3, TX3, 2), (RX4, TX4, 5), (RX5, TX5, 6), (RX6, TX6, 6), (RX7, TX7, 10), (RX8, TX8, 31)]
def SH_0 : List (Nat × Nat × List (Option Nat)) := [(7, 10, [some 1, some 5, some 6, some 7, some 8, some 33, some 57, some 198, some 256, none]), (4, 5, [none, none, some 2, some 3, some 4]), (10, 30, []), (10, 30, []), (10, 30, []), (12, 10, []), (12, 10, []), (12, 10, []), (6, 6, [some 10, some 21, some 1, some 9, some 32, none]), (12, 10, []), (13, 10, [some 11, some 12, some 13, some 14, some 15, some 16, some 17, some 18, some 19, some 20]), (10, 10, []), (10, 10, []), (10, 10, []), (10, 10, []), (10, 10, []), (10, 10, []), (10, 10, []), (10, 10, []), (10, 10, []), (10, 10, []), (13, 10, [some 22, some 23, some 24, some 25, some 26, some 27, some 28, some 29, some 30, some 31]), (10, 10, []), (10, 10, []), (10, 10, []), (10, 10, []), (10, 10, []), (10, 10, []), (10, 10, []), (10, 10, []), (10, 10, []), (10, 10, []), (12, 10, []), (6, 6, [some 34, some 45, some 1, some 5, some 56, none]), (13, 10, [some 35, some 36, some 37, some 38, some 39, some 40, some 41, some 42, some 43, some 44]), (10, 10, []), (10, 10, []), (10, 10, []), (10, 10, []), (10, 10, []), (10, 10, []), (10, 10, []), (10, 10, []), (10, 10, []), (10, 10, []), (13, 10, [some 46, some 47, some 48, some 49, some 50, some 51, some 52, some 53, some 54, some 55]), (10, 10, []), (10, 10, []), (10, 10, []), (10, 10, []), (10, 10, []), (10, 10, []), (10, 10, []), (10, 10, []), (10, 10, []), (10, 10, []), (12, 10, []), (2, 11, [some 58, some 1, some 59, some 70, some 71, some 73, some 75, some 77, some 79, none, none]), (10, 10, []), (13, 10, [some 60, some 61, some 62, some 63, some 64, some 65, some 66, some 67, some 68, some 69])]
def SH_1 : List (Nat × Nat × List (Option Nat)) := [(10, 10, []), (10, 10, []), (10, 10, []), (10, 10, []), (10, 10, []), (10, 10, []), (10, 10, []), (10, 10, []), (10, 10, []), (10, 10, []), (14, 100, [some 88, some 90, some 92, some 94, some 96, some 98, some 100, some 102, some 104, some 106, some 90, some 108, some 110, some 112, some 114, some 116, some 118, some 120, some 122, some 124, some 92, some 110, some 126, some 128, some 130, some 132, some 134, some 136, some 138, some 140, some 94, some 112, some 128, some 142, some 144, some 146, some 148, some 150, some 152, some 154, some 96, some 114, some 130, some 144, some 156, some 158, some 160, some 162, some 164, some 166, some 98, some 116, some 132, some 146, some 158, some 168, some 170, some 172, some 174, some 176, some 100, some 118, some 134, some 148, some 160, some 170, some 178, some 180, some 182, some 184, some 102, some 120, some 136, some 150, some 162, some 172, some 180, some 186, some 188, some 190, some 104, some 122, some 138, some 152, some 164, some 174, some 182, some 188, some 192, some 194, some 106, some 124, some 140, some 154, some 166, some 176, some 184, some 190, some 194, some 196]), (0, 2, [some 72, none]), (11, 6, []), (0, 2, [some 74, none]), (11, 6, []), (0, 2, [some 76, none]), (11, 12, []), (0, 2, [some 78, none]), (11, 12, []), (1, 4, [some 80, some 82, some 84, some 86]), (0, 2, [some 81, none]), (11, 12, []), (0, 2, [some 83, none]), (11, 12, []), (0, 2, [some 85, none]), (11, 12, []), (0, 2, [some 87, none]), (11, 12, []), (0, 2, [some 89, none]), (11, 6, []), (0, 2, [some 91, none]), (11, 6, []), (0, 2, [some 93, none]), (11, 6, []), (0, 2, [some 95, none]), (11, 6, []), (0, 2, [some 97, none]), (11, 6, []), (0, 2, [some 99, none]), (11, 6, []), (0, 2, [some 101, none]), (11, 6, []), (0, 2, [some 103, none]), (11, 6, []), (0, 2, [some 105, none]), (11, 6, []), (0, 2, [some 107, none]), (11, 6, []), (0, 2, [some 109, none]), (11, 6, []), (0, 2, [some 111, none]), (11, 6, []), (0, 2, [some 113, none]), (11, 6, []), (0, 2, [some 115, none]), (11, 6, []), (0, 2, [some 117, none]), (11, 6, []), (0, 2, [some 119, none]), (11, 6, [])]
def SH_2 : List (Nat × Nat × List (Option Nat)) := [(0, 2, [some 121, none]), (11, 6, []), (0, 2, [some 123, none]), (11, 6, []), (0, 2, [some 125, none]), (11, 6, []), (0, 2, [some 127, none]), (11, 6, []), (0, 2, [some 129, none]), (11, 6, []), (0, 2, [some 131, none]), (11, 6, []), (0, 2, [some 133, none]), (11, 6, []), (0, 2, [some 135, none]), (11, 6, []), (0, 2, [some 137, none]), (11, 6, []), (0, 2, [some 139, none]), (11, 6, []), (0, 2, [some 141, none]), (11, 6, []), (0, 2, [some 143, none]), (11, 6, []), (0, 2, [some 145, none]), (11, 6, []), (0, 2, [some 147, none]), (11, 6, []), (0, 2, [some 149, none]), (11, 6, []), (0, 2, [some 151, none]), (11, 6, []), (0, 2, [some 153, none]), (11, 6, []), (0, 2, [some 155, none]), (11, 6, []), (0, 2, [some 157, none]), (11, 6, []), (0, 2, [some 159, none]), (11, 6, []), (0, 2, [some 161, none]), (11, 6, []), (0, 2, [some 163, none]), (11, 6, []), (0, 2, [some 165, none]), (11, 6, []), (0, 2, [some 167, none]), (11, 6, []), (0, 2, [some 169, none]), (11, 6, []), (0, 2, [some 171, none]), (11, 6, []), (0, 2, [some 173, none]), (11, 6, []), (0, 2, [some 175, none]), (11, 6, []), (0, 2, [some 177, none]), (11, 6, []), (0, 2, [some 179, none]), (11, 6, [])]
def SH_3 : List (Nat × Nat × List (Option Nat)) := [(0, 2, [some 181, none]), (11, 6, []), (0, 2, [some 183, none]), (11, 6, []), (0, 2, [some 185, none]), (11, 6, []), (0, 2, [some 187, none]), (11, 6, []), (0, 2, [some 189, none]), (11, 6, []), (0, 2, [some 191, none]), (11, 6, []), (0, 2, [some 193, none]), (11, 6, []), (0, 2, [some 195, none]), (11, 6, []), (0, 2, [some 197, none]), (11, 6, []), (5, 6, [some 199, some 200, some 201, none, some 202, some 204]), (15, 10, [some 206, some 211, some 216, some 221, some 226, some 231, some 236, some 241, some 246, some 251]), (12, 10, []), (10, 10, []), (0, 2, [some 203, none]), (11, 100, []), (0, 2, [some 205, none]), (11, 100, []), (3, 2, [some 207, some 209]), (0, 2, [some 208, none]), (11, 50, []), (0, 2, [some 210, none]), (11, 50, []), (3, 2, [some 212, some 214]), (0, 2, [some 213, none]), (11, 50, []), (0, 2, [some 215, none]), (11, 50, []), (3, 2, [some 217, some 219]), (0, 2, [some 218, none]), (11, 50, []), (0, 2, [some 220, none]), (11, 50, []), (3, 2, [some 222, some 224]), (0, 2, [some 223, none]), (11, 50, []), (0, 2, [some 225, none]), (11, 50, []), (3, 2, [some 227, some 229]), (0, 2, [some 228, none]), (11, 50, []), (0, 2, [some 230, none]), (11, 50, []), (3, 2, [some 232, some 234]), (0, 2, [some 233, none]), (11, 50, []), (0, 2, [some 235, none]), (11, 50, []), (3, 2, [some 237, some 239]), (0, 2, [some 238, none]), (11, 50, []), (0, 2, [some 240, none])]
def SH_4 : List (Nat × Nat × List (Option Nat)) := [(11, 50, []), (3, 2, [some 242, some 244]), (0, 2, [some 243, none]), (11, 50, []), (0, 2, [some 245, none]), (11, 50, []), (3, 2, [some 247, some 249]), (0, 2, [some 248, none]), (11, 50, []), (0, 2, [some 250, none]), (11, 50, []), (3, 2, [some 252, some 254]), (0, 2, [some 253, none]), (11, 50, []), (0, 2, [some 255, none]), (11, 50, []), (3, 2, [some 257, some 259]), (0, 2, [some 258, none]), (11, 50, []), (0, 2, [some 260, none]), (11, 50, []), (8, 31, [none, none, some 262, some 263, some 264, some 265, some 266, some 267, some 268, none, some 269, some 270, some 271, some 272, some 273, some 274, none, some 275, some 276, some 277, some 278, some 279, some 280, some 281, some 282, none, some 283, some 284, some 285, some 286, some 287]), (10, 30, []), (10, 30, []), (10, 30, []), (12, 30, []), (10, 100, []), (11, 100, []), (11, 100, []), (11, 64, []), (11, 64, []), (11, 64, []), (11, 64, []), (11, 64, []), (11, 64, []), (11, 640, []), (11, 640, []), (11, 128, []), (11, 128, []), (11, 8, []), (10, 10, []), (10, 10, []), (12, 10, []), (11, 200, []), (11, 5, []), (11, 5, []), (11, 500, []), (11, 5, [])]
def SH : List (Nat × Nat × List (Option Nat)) := SH_0 ++ SH_1 ++ SH_2 ++ SH_3 ++ SH_4
def NF (c : Nat) : Nat := ([2, 4, 11, 2, 5, 6, 6, 10, 31] : List Nat).getD c 0
def FTs : List (List (Option Nat)) := [[some 11, none], [some 0, some 0, some 0, some 0], [some 10, some 4, some 13, some 14, some 0, some 0, some 0, some 0, some 1, none, none], [some 0, some 0], [none, none, some 10, some 10, some 10], [some 15, some 12, some 10, none, some 0, some 0], [some 13, some 13, some 4, some 12, some 12, none], [some 4, some 12, some 12, some 12, some 6, some 6, some 2, some 5, some 3, none], [none, none, some 10, some 10, some 10, some 12, some 10, some 11, some 11, none, some 11, some 11, some 11, some 11, some 11, some 11, none, some 11, some 11, some 11, some 11, some 11, some 10, some 10, some 12, none, some 11, some 11, some 11, some 11, some 11], [], [], [], [], [some 10], [some 0], [some 3]]
def FT (c k : Nat) : Option Nat := (FTs.getD c []).getD k none
end
section
theorem tw_0 : Cond.selects "BetweenCounts$Big" ⟨"BetweenCounts$Big", "append", "(J)V"⟩ ⟨"BetweenCounts$Big", "append", "(J)V"⟩ ∈ TS := TS_in (List.mem_of_getElem? (i := 0) (by decide +kernel)) rfl
theorem tw_1 : Cond.selects "BetweenCounts" ⟨"BetweenCounts", "forgetNetwork", "()V"⟩ ⟨"BetweenCounts", "forgetNetwork", "()V"⟩ ∈ TS := TS_in (List.mem_of_getElem? (i := 1) (by decide +kernel)) rfl
theorem tw_2 : Cond.selects "BetweenCounts" ⟨"BetweenCounts", "forgetChoice", "()V"⟩ ⟨"BetweenCounts", "forgetChoice", "()V"⟩ ∈ TS := TS_in (List.mem_of_getElem? (i := 2) (by decide +kernel)) rfl
theorem tw_3 : Cond.selects "BetweenCounts$WayTable" ⟨"BetweenCounts$WayTable", "spreadFrom", "(I[I[I)V"⟩ ⟨"BetweenCounts$WayTable", "spreadFrom", "(I[I[I)V"⟩ ∈ TS := TS_in (List.mem_of_getElem? (i := 3) (by decide +kernel)) rfl
theorem tw_4 : Cond.selects "BetweenCounts$WayTable" ⟨"BetweenCounts$WayTable", "nearestLeft", "([I)I"⟩ ⟨"BetweenCounts$WayTable", "nearestLeft", "([I)I"⟩ ∈ TS := TS_in (List.mem_of_getElem? (i := 4) (by decide +kernel)) rfl
theorem tw_5 : Cond.selects "BetweenCounts$WayTable" ⟨"BetweenCounts$WayTable", "goBy", "(I[I[I)V"⟩ ⟨"BetweenCounts$WayTable", "goBy", "(I[I[I)V"⟩ ∈ TS := TS_in (List.mem_of_getElem? (i := 5) (by decide +kernel)) rfl
theorem tw_6 : Cond.selects "BetweenCounts" ⟨"BetweenCounts", "isPair", "(II)Z"⟩ ⟨"BetweenCounts", "isPair", "(II)Z"⟩ ∈ TS := TS_in (List.mem_of_getElem? (i := 6) (by decide +kernel)) rfl
theorem tw_7 : Cond.selects "BetweenCounts" ⟨"BetweenCounts", "needBetween", "(I)V"⟩ ⟨"BetweenCounts", "needBetween", "(I)V"⟩ ∈ TS := TS_in (List.mem_of_getElem? (i := 7) (by decide +kernel)) rfl
theorem tw_8 : Cond.selects "BetweenCounts$Big" ⟨"BetweenCounts$Big", "carryFrom", "(IJ)V"⟩ ⟨"BetweenCounts$Big", "carryFrom", "(IJ)V"⟩ ∈ TS := TS_in (List.mem_of_getElem? (i := 8) (by decide +kernel)) rfl
theorem tw_9 : Cond.selects "BetweenCounts" ⟨"BetweenCounts", "isNewQuestion", "(I)Z"⟩ ⟨"BetweenCounts", "isNewQuestion", "(I)Z"⟩ ∈ TS := TS_in (List.mem_of_getElem? (i := 9) (by decide +kernel)) rfl
theorem tw_10 : Cond.selects "BetweenCounts" ⟨"BetweenCounts", "sumArc", "(I)V"⟩ ⟨"BetweenCounts", "sumArc", "(I)V"⟩ ∈ TS := TS_in (List.mem_of_getElem? (i := 10) (by decide +kernel)) rfl
theorem tw_11 : Cond.selects "BetweenCounts" ⟨"BetweenCounts", "sumGroup", "()V"⟩ ⟨"BetweenCounts", "sumGroup", "()V"⟩ ∈ TS := TS_in (List.mem_of_getElem? (i := 11) (by decide +kernel)) rfl
theorem tw_12 : Cond.selects "BetweenCounts" ⟨"BetweenCounts", "countAround", "(II)I"⟩ ⟨"BetweenCounts", "countAround", "(II)I"⟩ ∈ TS := TS_in (List.mem_of_getElem? (i := 12) (by decide +kernel)) rfl
theorem tw_13 : Cond.selects "BetweenCounts" ⟨"BetweenCounts", "sumHarmonic", "(I)V"⟩ ⟨"BetweenCounts", "sumHarmonic", "(I)V"⟩ ∈ TS := TS_in (List.mem_of_getElem? (i := 13) (by decide +kernel)) rfl
theorem tw_14 : Cond.selects "BetweenCounts" ⟨"BetweenCounts", "sumClose", "(I)V"⟩ ⟨"BetweenCounts", "sumClose", "(I)V"⟩ ∈ TS := TS_in (List.mem_of_getElem? (i := 14) (by decide +kernel)) rfl
theorem tw_15 : Cond.selects "BetweenCounts$Ranking" ⟨"BetweenCounts$Ranking", "countAhead", "(I)V"⟩ ⟨"BetweenCounts$Ranking", "countAhead", "(I)V"⟩ ∈ TS := TS_in (List.mem_of_getElem? (i := 15) (by decide +kernel)) rfl
theorem tw_16 : Cond.selects "BetweenCounts$Ranking" ⟨"BetweenCounts$Ranking", "isLess", "(LBetweenCounts$Fraction;LBetweenCounts$Fraction;)Z"⟩ ⟨"BetweenCounts$Ranking", "isLess", "(LBetweenCounts$Fraction;LBetweenCounts$Fraction;)Z"⟩ ∈ TS := TS_in (List.mem_of_getElem? (i := 16) (by decide +kernel)) rfl
theorem tw_17 : Cond.selects "BetweenCounts$Flow" ⟨"BetweenCounts$Flow", "lowerGrounds", "()V"⟩ ⟨"BetweenCounts$Flow", "lowerGrounds", "()V"⟩ ∈ TS := TS_in (List.mem_of_getElem? (i := 17) (by decide +kernel)) rfl
theorem tw_18 : Cond.selects "BetweenCounts$Flow" ⟨"BetweenCounts$Flow", "isInner", "(II)Z"⟩ ⟨"BetweenCounts$Flow", "isInner", "(II)Z"⟩ ∈ TS := TS_in (List.mem_of_getElem? (i := 18) (by decide +kernel)) rfl
theorem tw_19 : Cond.selects "BetweenCounts$Flow" ⟨"BetweenCounts$Flow", "entryOf", "(II)LBetweenCounts$Big;"⟩ ⟨"BetweenCounts$Flow", "entryOf", "(II)LBetweenCounts$Big;"⟩ ∈ TS := TS_in (List.mem_of_getElem? (i := 19) (by decide +kernel)) rfl
theorem tw_20 : Cond.selects "BetweenCounts$Flow" ⟨"BetweenCounts$Flow", "startOf", "(II)I"⟩ ⟨"BetweenCounts$Flow", "startOf", "(II)I"⟩ ∈ TS := TS_in (List.mem_of_getElem? (i := 20) (by decide +kernel)) rfl
theorem tw_21 : Cond.selects "BetweenCounts$Flow" ⟨"BetweenCounts$Flow", "sweep", "(II)V"⟩ ⟨"BetweenCounts$Flow", "sweep", "(II)V"⟩ ∈ TS := TS_in (List.mem_of_getElem? (i := 21) (by decide +kernel)) rfl
theorem tw_22 : Cond.selects "BetweenCounts$Flow" ⟨"BetweenCounts$Flow", "sweepEntry", "(III)V"⟩ ⟨"BetweenCounts$Flow", "sweepEntry", "(III)V"⟩ ∈ TS := TS_in (List.mem_of_getElem? (i := 22) (by decide +kernel)) rfl
theorem tw_23 : Cond.selects "BetweenCounts$Divider" ⟨"BetweenCounts$Divider", "takeDigit", "(LBetweenCounts$Big;I)J"⟩ ⟨"BetweenCounts$Divider", "takeDigit", "(LBetweenCounts$Big;I)J"⟩ ∈ TS := TS_in (List.mem_of_getElem? (i := 23) (by decide +kernel)) rfl
theorem tw_24 : Cond.selects "BetweenCounts$Divider" ⟨"BetweenCounts$Divider", "guess", "(LBetweenCounts$Big;I)J"⟩ ⟨"BetweenCounts$Divider", "guess", "(LBetweenCounts$Big;I)J"⟩ ∈ TS := TS_in (List.mem_of_getElem? (i := 24) (by decide +kernel)) rfl
theorem tw_25 : Cond.selects "BetweenCounts$Divider" ⟨"BetweenCounts$Divider", "takeAway", "(LBetweenCounts$Big;IJ)J"⟩ ⟨"BetweenCounts$Divider", "takeAway", "(LBetweenCounts$Big;IJ)J"⟩ ∈ TS := TS_in (List.mem_of_getElem? (i := 25) (by decide +kernel)) rfl
theorem tw_26 : Cond.selects "BetweenCounts$Divider" ⟨"BetweenCounts$Divider", "putBack", "(LBetweenCounts$Big;I)V"⟩ ⟨"BetweenCounts$Divider", "putBack", "(LBetweenCounts$Big;I)V"⟩ ∈ TS := TS_in (List.mem_of_getElem? (i := 26) (by decide +kernel)) rfl
theorem tw_27 : Cond.selects "BetweenCounts$Flow" ⟨"BetweenCounts$Flow", "isOther", "(II)Z"⟩ ⟨"BetweenCounts$Flow", "isOther", "(II)Z"⟩ ∈ TS := TS_in (List.mem_of_getElem? (i := 27) (by decide +kernel)) rfl
theorem tw_28 : Cond.selects "BetweenCounts$Flow" ⟨"BetweenCounts$Flow", "addFlows", "(IIILBetweenCounts$Big;)V"⟩ ⟨"BetweenCounts$Flow", "addFlows", "(IIILBetweenCounts$Big;)V"⟩ ∈ TS := TS_in (List.mem_of_getElem? (i := 28) (by decide +kernel)) rfl
theorem tw_29 : Cond.selects "BetweenCounts$Flow" ⟨"BetweenCounts$Flow", "dropOf", "(IIII)LBetweenCounts$Big;"⟩ ⟨"BetweenCounts$Flow", "dropOf", "(IIII)LBetweenCounts$Big;"⟩ ∈ TS := TS_in (List.mem_of_getElem? (i := 29) (by decide +kernel)) rfl
theorem tw_30 : Cond.selects "BetweenCounts" ⟨"BetweenCounts", "countPairs", "()I"⟩ ⟨"BetweenCounts", "countPairs", "()I"⟩ ∈ TS := TS_in (List.mem_of_getElem? (i := 30) (by decide +kernel)) rfl
theorem tw_31 : Cond.selects "BetweenCounts" ⟨"BetweenCounts", "countGroup", "()I"⟩ ⟨"BetweenCounts", "countGroup", "()I"⟩ ∈ TS := TS_in (List.mem_of_getElem? (i := 31) (by decide +kernel)) rfl
theorem tw_32 : Cond.selects "BetweenCountsModel" ⟨"BetweenCountsModel", "isNode", "(I)Z"⟩ ⟨"BetweenCountsModel", "isNode", "(I)Z"⟩ ∈ TS := TS_in (List.mem_of_getElem? (i := 32) (by decide +kernel)) rfl
theorem tw_33 : Cond.selects "BetweenCountsModel" ⟨"BetweenCountsModel", "isArc", "(I)Z"⟩ ⟨"BetweenCountsModel", "isArc", "(I)Z"⟩ ∈ TS := TS_in (List.mem_of_getElem? (i := 33) (by decide +kernel)) rfl
theorem tw_34 : Cond.selects "BetweenCountsModel" ⟨"BetweenCountsModel", "isChosen", "(II)Z"⟩ ⟨"BetweenCountsModel", "isChosen", "(II)Z"⟩ ∈ TS := TS_in (List.mem_of_getElem? (i := 34) (by decide +kernel)) rfl
theorem tw_35 : Cond.selects "BetweenCountsModel" ⟨"BetweenCountsModel", "lengths", "()V"⟩ ⟨"BetweenCountsModel", "lengths", "()V"⟩ ∈ TS := TS_in (List.mem_of_getElem? (i := 35) (by decide +kernel)) rfl
theorem tw_36 : Cond.selects "BetweenCountsModel" ⟨"BetweenCountsModel", "cell", "(II)I"⟩ ⟨"BetweenCountsModel", "cell", "(II)I"⟩ ∈ TS := TS_in (List.mem_of_getElem? (i := 36) (by decide +kernel)) rfl
theorem tw_37 : Cond.selects "BetweenCountsModel" ⟨"BetweenCountsModel", "countAll", "(Z)V"⟩ ⟨"BetweenCountsModel", "countAll", "(Z)V"⟩ ∈ TS := TS_in (List.mem_of_getElem? (i := 37) (by decide +kernel)) rfl
theorem tw_38 : Cond.selects "BetweenCountsModel" ⟨"BetweenCountsModel", "intoNode", "(IIZ)J"⟩ ⟨"BetweenCountsModel", "intoNode", "(IIZ)J"⟩ ∈ TS := TS_in (List.mem_of_getElem? (i := 38) (by decide +kernel)) rfl
theorem tw_39 : Cond.selects "BetweenCountsModel" ⟨"BetweenCountsModel", "isPair", "(II)Z"⟩ ⟨"BetweenCountsModel", "isPair", "(II)Z"⟩ ∈ TS := TS_in (List.mem_of_getElem? (i := 39) (by decide +kernel)) rfl
theorem tw_40 : Cond.selects "BetweenCountsModel" ⟨"BetweenCountsModel", "through", "(III)J"⟩ ⟨"BetweenCountsModel", "through", "(III)J"⟩ ∈ TS := TS_in (List.mem_of_getElem? (i := 40) (by decide +kernel)) rfl
theorem tw_41 : Cond.selects "BetweenCountsModel" ⟨"BetweenCountsModel", "isOther", "(III)Z"⟩ ⟨"BetweenCountsModel", "isOther", "(III)Z"⟩ ∈ TS := TS_in (List.mem_of_getElem? (i := 41) (by decide +kernel)) rfl
theorem tw_42 : Cond.selects "BetweenCountsModel" ⟨"BetweenCountsModel", "addBetween", "(I)V"⟩ ⟨"BetweenCountsModel", "addBetween", "(I)V"⟩ ∈ TS := TS_in (List.mem_of_getElem? (i := 42) (by decide +kernel)) rfl
theorem tw_43 : Cond.selects "BetweenCountsModel" ⟨"BetweenCountsModel", "nothing", "()V"⟩ ⟨"BetweenCountsModel", "nothing", "()V"⟩ ∈ TS := TS_in (List.mem_of_getElem? (i := 43) (by decide +kernel)) rfl
theorem tw_44 : Cond.selects "BetweenCountsModel" ⟨"BetweenCountsModel", "more", "(JJ)V"⟩ ⟨"BetweenCountsModel", "more", "(JJ)V"⟩ ∈ TS := TS_in (List.mem_of_getElem? (i := 44) (by decide +kernel)) rfl
theorem tw_45 : Cond.selects "BetweenCountsModel" ⟨"BetweenCountsModel", "rest", "([JJ)J"⟩ ⟨"BetweenCountsModel", "rest", "([JJ)J"⟩ ∈ TS := TS_in (List.mem_of_getElem? (i := 45) (by decide +kernel)) rfl
theorem tw_46 : Cond.selects "BetweenCountsModel" ⟨"BetweenCountsModel", "copy", "([J[J)V"⟩ ⟨"BetweenCountsModel", "copy", "([J[J)V"⟩ ∈ TS := TS_in (List.mem_of_getElem? (i := 46) (by decide +kernel)) rfl
theorem tw_47 : Cond.selects "BetweenCountsModel" ⟨"BetweenCountsModel", "by", "([JJ)J"⟩ ⟨"BetweenCountsModel", "by", "([JJ)J"⟩ ∈ TS := TS_in (List.mem_of_getElem? (i := 47) (by decide +kernel)) rfl
theorem tw_48 : Cond.selects "BetweenCountsModel" ⟨"BetweenCountsModel", "times", "([JJ)V"⟩ ⟨"BetweenCountsModel", "times", "([JJ)V"⟩ ∈ TS := TS_in (List.mem_of_getElem? (i := 48) (by decide +kernel)) rfl
theorem tw_49 : Cond.selects "BetweenCountsModel" ⟨"BetweenCountsModel", "add", "([J[J)V"⟩ ⟨"BetweenCountsModel", "add", "([J[J)V"⟩ ∈ TS := TS_in (List.mem_of_getElem? (i := 49) (by decide +kernel)) rfl
theorem tw_50 : Cond.selects "BetweenCountsModel" ⟨"BetweenCountsModel", "isZero", "([J)Z"⟩ ⟨"BetweenCountsModel", "isZero", "([J)Z"⟩ ∈ TS := TS_in (List.mem_of_getElem? (i := 50) (by decide +kernel)) rfl
theorem tw_51 : Cond.selects "BetweenCountsModel" ⟨"BetweenCountsModel", "told", "(II)J"⟩ ⟨"BetweenCountsModel", "told", "(II)J"⟩ ∈ TS := TS_in (List.mem_of_getElem? (i := 51) (by decide +kernel)) rfl
theorem tw_52 : Cond.selects "BetweenCountsModel" ⟨"BetweenCountsModel", "isGreater", "(II)Z"⟩ ⟨"BetweenCountsModel", "isGreater", "(II)Z"⟩ ∈ TS := TS_in (List.mem_of_getElem? (i := 52) (by decide +kernel)) rfl
theorem tw_53 : Cond.selects "BetweenCountsModel" ⟨"BetweenCountsModel", "product", "([J[JI[JI)V"⟩ ⟨"BetweenCountsModel", "product", "([J[JI[JI)V"⟩ ∈ TS := TS_in (List.mem_of_getElem? (i := 53) (by decide +kernel)) rfl
theorem tw_54 : Cond.selects "BetweenCountsModel" ⟨"BetweenCountsModel", "lookAtPiece", "(I)V"⟩ ⟨"BetweenCountsModel", "lookAtPiece", "(I)V"⟩ ∈ TS := TS_in (List.mem_of_getElem? (i := 54) (by decide +kernel)) rfl
theorem tw_55 : Cond.selects "BetweenCountsModel" ⟨"BetweenCountsModel", "invert", "(IJ)Z"⟩ ⟨"BetweenCountsModel", "invert", "(IJ)Z"⟩ ∈ TS := TS_in (List.mem_of_getElem? (i := 55) (by decide +kernel)) rfl
theorem tw_56 : Cond.selects "BetweenCountsModel" ⟨"BetweenCountsModel", "begin", "()V"⟩ ⟨"BetweenCountsModel", "begin", "()V"⟩ ∈ TS := TS_in (List.mem_of_getElem? (i := 56) (by decide +kernel)) rfl
theorem tw_57 : Cond.selects "BetweenCountsModel" ⟨"BetweenCountsModel", "potential", "(III)J"⟩ ⟨"BetweenCountsModel", "potential", "(III)J"⟩ ∈ TS := TS_in (List.mem_of_getElem? (i := 57) (by decide +kernel)) rfl
theorem tw_58 : Cond.selects "BetweenCountsModel" ⟨"BetweenCountsModel", "whole", "([J)V"⟩ ⟨"BetweenCountsModel", "whole", "([J)V"⟩ ∈ TS := TS_in (List.mem_of_getElem? (i := 58) (by decide +kernel)) rfl
theorem tw_59 : Cond.selects "BetweenCountsModel" ⟨"BetweenCountsModel", "less", "([J[J)V"⟩ ⟨"BetweenCountsModel", "less", "([J[J)V"⟩ ∈ TS := TS_in (List.mem_of_getElem? (i := 59) (by decide +kernel)) rfl
theorem tw_60 : Cond.selects "BetweenCountsModel" ⟨"BetweenCountsModel", "compare", "([J[J)I"⟩ ⟨"BetweenCountsModel", "compare", "([J[J)I"⟩ ∈ TS := TS_in (List.mem_of_getElem? (i := 60) (by decide +kernel)) rfl
theorem tw_61 : Cond.selects "BetweenCountsModel" ⟨"BetweenCountsModel", "treesOf", "([J)V"⟩ ⟨"BetweenCountsModel", "treesOf", "([J)V"⟩ ∈ TS := TS_in (List.mem_of_getElem? (i := 61) (by decide +kernel)) rfl
theorem tw_62 : Cond.selects "BetweenCountsModel" ⟨"BetweenCountsModel", "lowest", "()V"⟩ ⟨"BetweenCountsModel", "lowest", "()V"⟩ ∈ TS := TS_in (List.mem_of_getElem? (i := 62) (by decide +kernel)) rfl
theorem tw_63 : Cond.selects "BetweenCountsModel" ⟨"BetweenCountsModel", "half", "([J)V"⟩ ⟨"BetweenCountsModel", "half", "([J)V"⟩ ∈ TS := TS_in (List.mem_of_getElem? (i := 63) (by decide +kernel)) rfl
theorem tw_64 : Cond.selects "BetweenCountsModel" ⟨"BetweenCountsModel", "divide", "([J)V"⟩ ⟨"BetweenCountsModel", "divide", "([J)V"⟩ ∈ TS := TS_in (List.mem_of_getElem? (i := 64) (by decide +kernel)) rfl
theorem tw_65 : Cond.selects "BetweenCountsModel" ⟨"BetweenCountsModel", "addFlow", "(III)V"⟩ ⟨"BetweenCountsModel", "addFlow", "(III)V"⟩ ∈ TS := TS_in (List.mem_of_getElem? (i := 65) (by decide +kernel)) rfl
theorem tw_66 : (Jvm.Cond.initialized "BetweenCountsLaw") ∈ TS := TS_in (List.mem_of_getElem? (i := 66) (by decide +kernel)) rfl
theorem tw_67 : (Jvm.Cond.initialized "BetweenCounts") ∈ TS := TS_in (List.mem_of_getElem? (i := 67) (by decide +kernel)) rfl
theorem tw_68 : (Jvm.Cond.initialized "BetweenCounts$Net") ∈ TS := TS_in (List.mem_of_getElem? (i := 68) (by decide +kernel)) rfl
theorem tw_69 : (Jvm.Cond.initialized "BetweenCounts$WayTable") ∈ TS := TS_in (List.mem_of_getElem? (i := 69) (by decide +kernel)) rfl
theorem tw_70 : (Jvm.Cond.initialized "BetweenCounts$Flow") ∈ TS := TS_in (List.mem_of_getElem? (i := 70) (by decide +kernel)) rfl
theorem tw_71 : (Jvm.Cond.initialized "BetweenCounts$Big") ∈ TS := TS_in (List.mem_of_getElem? (i := 71) (by decide +kernel)) rfl
theorem tw_72 : (Jvm.Cond.initialized "java/lang/Math") ∈ TS := TS_in (List.mem_of_getElem? (i := 72) (by decide +kernel)) rfl
theorem tw_73 : (Jvm.Cond.initialized "BetweenCounts$Divider") ∈ TS := TS_in (List.mem_of_getElem? (i := 73) (by decide +kernel)) rfl
theorem tw_74 : (Jvm.Cond.initialized "BetweenCounts$Ranking") ∈ TS := TS_in (List.mem_of_getElem? (i := 74) (by decide +kernel)) rfl
theorem tw_75 : (Jvm.Cond.initialized "BetweenCounts$Fraction") ∈ TS := TS_in (List.mem_of_getElem? (i := 75) (by decide +kernel)) rfl
theorem tw_76 : (Jvm.Cond.initialized "BetweenCountsModel") ∈ TS := TS_in (List.mem_of_getElem? (i := 76) (by decide +kernel)) rfl
theorem tw_77 : (Jvm.Cond.initialized "java/util/Arrays") ∈ TS := TS_in (List.mem_of_getElem? (i := 77) (by decide +kernel)) rfl
theorem tw_78 : (Jvm.Cond.initialized "java/lang/System") ∈ TS := TS_in (List.mem_of_getElem? (i := 78) (by decide +kernel)) rfl
theorem tw_79 : (Jvm.Cond.classLink "BetweenCountsLaw" (7 : Nat) "BetweenCounts") ∈ TS := TS_in (List.mem_of_getElem? (i := 79) (by decide +kernel)) rfl
theorem tw_80 : (Jvm.Cond.instantiable "BetweenCounts" (10 : Nat)) ∈ TS := TS_in (List.mem_of_getElem? (i := 80) (by decide +kernel)) rfl
theorem tw_81 : (Jvm.Cond.methodLink "BetweenCountsLaw" (9 : Nat) ({ cls := "BetweenCounts", name := "<init>", desc := "()V" } : Jvm.MethodName)) ∈ TS := TS_in (List.mem_of_getElem? (i := 81) (by decide +kernel)) rfl
theorem tw_82 : (Jvm.Cond.instanceMethod ({ cls := "BetweenCounts", name := "<init>", desc := "()V" } : Jvm.MethodName)) ∈ TS := TS_in (List.mem_of_getElem? (i := 82) (by decide +kernel)) rfl
set_option maxRecDepth 20000 in
theorem tw_83 : (Jvm.Cond.code ({ cls := "BetweenCounts", name := "<init>", desc := "()V" } : Jvm.MethodName) prog_1_method_1_code (2 : Nat) (Option.none : Option Jvm.ClassFile.FieldType)) ∈ TS := TS_in (List.mem_of_getElem? (i := 83) rfl) rfl
theorem tw_84 : (Jvm.Cond.methodLink "BetweenCounts" (3 : Nat) ({ cls := "java/lang/Object", name := "<init>", desc := "()V" } : Jvm.MethodName)) ∈ TS := TS_in (List.mem_of_getElem? (i := 84) (by decide +kernel)) rfl
theorem tw_85 : (Jvm.Cond.instanceMethod ({ cls := "java/lang/Object", name := "<init>", desc := "()V" } : Jvm.MethodName)) ∈ TS := TS_in (List.mem_of_getElem? (i := 85) (by decide +kernel)) rfl
set_option maxRecDepth 20000 in
theorem tw_86 : (Jvm.Cond.code ({ cls := "java/lang/Object", name := "<init>", desc := "()V" } : Jvm.MethodName) object_method_1_code (1 : Nat) (Option.none : Option Jvm.ClassFile.FieldType)) ∈ TS := TS_in (List.mem_of_getElem? (i := 86) rfl) rfl
theorem tw_87 : (Jvm.Cond.classLink "BetweenCounts" (9 : Nat) "BetweenCounts$Net") ∈ TS := TS_in (List.mem_of_getElem? (i := 87) (by decide +kernel)) rfl
theorem tw_88 : (Jvm.Cond.instantiable "BetweenCounts$Net" (5 : Nat)) ∈ TS := TS_in (List.mem_of_getElem? (i := 88) (by decide +kernel)) rfl
theorem tw_89 : (Jvm.Cond.methodLinkNest "BetweenCounts" (11 : Nat) ({ cls := "BetweenCounts$Net", name := "<init>", desc := "()V" } : Jvm.MethodName) "BetweenCounts") ∈ lw_tbl := List.mem_of_getElem? (i := 89) (by decide +kernel)
theorem tw_90 : (Jvm.Cond.instanceMethod ({ cls := "BetweenCounts$Net", name := "<init>", desc := "()V" } : Jvm.MethodName)) ∈ TS := TS_in (List.mem_of_getElem? (i := 90) (by decide +kernel)) rfl
set_option maxRecDepth 20000 in
theorem tw_91 : (Jvm.Cond.code ({ cls := "BetweenCounts$Net", name := "<init>", desc := "()V" } : Jvm.MethodName) prog_6_method_1_code (1 : Nat) (Option.none : Option Jvm.ClassFile.FieldType)) ∈ TS := TS_in (List.mem_of_getElem? (i := 91) rfl) rfl
theorem tw_92 : (Jvm.Cond.methodLink "BetweenCounts$Net" (3 : Nat) ({ cls := "java/lang/Object", name := "<init>", desc := "()V" } : Jvm.MethodName)) ∈ TS := TS_in (List.mem_of_getElem? (i := 92) (by decide +kernel)) rfl
theorem tw_93 : (Jvm.Cond.fieldLink "BetweenCounts$Net" (9 : Nat) "BetweenCounts$Net" "nodes" "I") ∈ TS := TS_in (List.mem_of_getElem? (i := 93) (by decide +kernel)) rfl
theorem tw_94 : (Jvm.Cond.fieldLink "BetweenCounts$WayTable" (34 : Nat) "BetweenCounts$Net" "nodes" "I") ∈ TS := TS_in (List.mem_of_getElem? (i := 94) (by decide +kernel)) rfl
theorem tw_95 : (Jvm.Cond.fieldLink "BetweenCounts$Flow" (61 : Nat) "BetweenCounts$Net" "nodes" "I") ∈ TS := TS_in (List.mem_of_getElem? (i := 95) (by decide +kernel)) rfl
theorem tw_96 : (Jvm.Cond.fieldLink "BetweenCounts" (105 : Nat) "BetweenCounts$Net" "nodes" "I") ∈ TS := TS_in (List.mem_of_getElem? (i := 96) (by decide +kernel)) rfl
theorem tw_97 : (Jvm.Cond.fieldLink "BetweenCounts$Net" (15 : Nat) "BetweenCounts$Net" "arcs" "I") ∈ TS := TS_in (List.mem_of_getElem? (i := 97) (by decide +kernel)) rfl
theorem tw_98 : (Jvm.Cond.fieldLink "BetweenCounts$Flow" (72 : Nat) "BetweenCounts$Net" "arcs" "I") ∈ TS := TS_in (List.mem_of_getElem? (i := 98) (by decide +kernel)) rfl
theorem tw_99 : (Jvm.Cond.fieldLink "BetweenCounts$WayTable" (54 : Nat) "BetweenCounts$Net" "arcs" "I") ∈ TS := TS_in (List.mem_of_getElem? (i := 99) (by decide +kernel)) rfl
theorem tw_100 : (Jvm.Cond.fieldLink "BetweenCounts" (164 : Nat) "BetweenCounts$Net" "arcs" "I") ∈ TS := TS_in (List.mem_of_getElem? (i := 100) (by decide +kernel)) rfl
theorem tw_101 : (Jvm.Cond.fieldLink "BetweenCounts$Net" (18 : Nat) "BetweenCounts$Net" "from" "[I") ∈ TS := TS_in (List.mem_of_getElem? (i := 101) (by decide +kernel)) rfl
theorem tw_102 : (Jvm.Cond.fieldLink "BetweenCounts$Flow" (75 : Nat) "BetweenCounts$Net" "from" "[I") ∈ TS := TS_in (List.mem_of_getElem? (i := 102) (by decide +kernel)) rfl
theorem tw_103 : (Jvm.Cond.fieldLink "BetweenCounts$WayTable" (57 : Nat) "BetweenCounts$Net" "from" "[I") ∈ TS := TS_in (List.mem_of_getElem? (i := 103) (by decide +kernel)) rfl
theorem tw_104 : (Jvm.Cond.fieldLink "BetweenCounts$Net" (22 : Nat) "BetweenCounts$Net" "to" "[I") ∈ TS := TS_in (List.mem_of_getElem? (i := 104) (by decide +kernel)) rfl
theorem tw_105 : (Jvm.Cond.fieldLink "BetweenCounts$Flow" (78 : Nat) "BetweenCounts$Net" "to" "[I") ∈ TS := TS_in (List.mem_of_getElem? (i := 105) (by decide +kernel)) rfl
theorem tw_106 : (Jvm.Cond.fieldLink "BetweenCounts$WayTable" (64 : Nat) "BetweenCounts$Net" "to" "[I") ∈ TS := TS_in (List.mem_of_getElem? (i := 106) (by decide +kernel)) rfl
theorem tw_107 : (Jvm.Cond.fieldLink "BetweenCounts$Net" (25 : Nat) "BetweenCounts$Net" "weight" "[I") ∈ TS := TS_in (List.mem_of_getElem? (i := 107) (by decide +kernel)) rfl
theorem tw_108 : (Jvm.Cond.fieldLink "BetweenCounts$Flow" (81 : Nat) "BetweenCounts$Net" "weight" "[I") ∈ TS := TS_in (List.mem_of_getElem? (i := 108) (by decide +kernel)) rfl
theorem tw_109 : (Jvm.Cond.fieldLink "BetweenCounts" (83 : Nat) "BetweenCounts$Net" "weight" "[I") ∈ TS := TS_in (List.mem_of_getElem? (i := 109) (by decide +kernel)) rfl
theorem tw_110 : (Jvm.Cond.fieldLink "BetweenCounts$WayTable" (61 : Nat) "BetweenCounts$Net" "weight" "[I") ∈ TS := TS_in (List.mem_of_getElem? (i := 110) (by decide +kernel)) rfl
theorem tw_122 : (Jvm.Cond.arrayClass Jvm.ClassFile.FieldType.int) ∈ TS := TS_in (List.mem_of_getElem? (i := 122) (by decide +kernel)) rfl
theorem tw_123 : (Jvm.Cond.classLink "BetweenCounts" (26 : Nat) "BetweenCounts$WayTable") ∈ TS := TS_in (List.mem_of_getElem? (i := 123) (by decide +kernel)) rfl
theorem tw_124 : (Jvm.Cond.instantiable "BetweenCounts$WayTable" (6 : Nat)) ∈ TS := TS_in (List.mem_of_getElem? (i := 124) (by decide +kernel)) rfl
theorem tw_125 : (Jvm.Cond.methodLink "BetweenCounts" (28 : Nat) ({ cls := "BetweenCounts$WayTable", name := "<init>", desc := "(LBetweenCounts$Net;[Z)V" } : Jvm.MethodName)) ∈ TS := TS_in (List.mem_of_getElem? (i := 125) (by decide +kernel)) rfl
theorem tw_126 : (Jvm.Cond.instanceMethod ({ cls := "BetweenCounts$WayTable", name := "<init>", desc := "(LBetweenCounts$Net;[Z)V" } : Jvm.MethodName)) ∈ TS := TS_in (List.mem_of_getElem? (i := 126) (by decide +kernel)) rfl
set_option maxRecDepth 20000 in
theorem tw_127 : (Jvm.Cond.code ({ cls := "BetweenCounts$WayTable", name := "<init>", desc := "(LBetweenCounts$Net;[Z)V" } : Jvm.MethodName) prog_8_method_1_code (3 : Nat) (Option.none : Option Jvm.ClassFile.FieldType)) ∈ TS := TS_in (List.mem_of_getElem? (i := 127) rfl) rfl
theorem tw_128 : (Jvm.Cond.methodLink "BetweenCounts$WayTable" (3 : Nat) ({ cls := "java/lang/Object", name := "<init>", desc := "()V" } : Jvm.MethodName)) ∈ TS := TS_in (List.mem_of_getElem? (i := 128) (by decide +kernel)) rfl
theorem tw_129 : (Jvm.Cond.classLink "BetweenCounts$WayTable" (9 : Nat) "[[I") ∈ TS := TS_in (List.mem_of_getElem? (i := 129) (by decide +kernel)) rfl
theorem tw_130 : (Jvm.Cond.arrayOver (Jvm.ClassFile.FieldType.array Jvm.ClassFile.FieldType.int)) ∈ lw_tbl := List.mem_of_getElem? (i := 130) (by decide +kernel)
theorem tw_131 : (Jvm.Cond.fieldLink "BetweenCounts$WayTable" (11 : Nat) "BetweenCounts$WayTable" "length" "[[I") ∈ TS := TS_in (List.mem_of_getElem? (i := 131) (by decide +kernel)) rfl
theorem tw_132 : (Jvm.Cond.fieldLink "BetweenCounts" (96 : Nat) "BetweenCounts$WayTable" "length" "[[I") ∈ TS := TS_in (List.mem_of_getElem? (i := 132) (by decide +kernel)) rfl
theorem tw_133 : (Jvm.Cond.fieldLink "BetweenCounts$WayTable" (16 : Nat) "BetweenCounts$WayTable" "count" "[[I") ∈ TS := TS_in (List.mem_of_getElem? (i := 133) (by decide +kernel)) rfl
theorem tw_134 : (Jvm.Cond.fieldLink "BetweenCounts" (100 : Nat) "BetweenCounts$WayTable" "count" "[[I") ∈ TS := TS_in (List.mem_of_getElem? (i := 134) (by decide +kernel)) rfl
theorem tw_135 : (Jvm.Cond.fieldLink "BetweenCounts$WayTable" (27 : Nat) "BetweenCounts$WayTable" "net" "LBetweenCounts$Net;") ∈ TS := TS_in (List.mem_of_getElem? (i := 135) (by decide +kernel)) rfl
theorem tw_136 : (Jvm.Cond.fieldLink "BetweenCounts$WayTable" (31 : Nat) "BetweenCounts$WayTable" "shut" "[Z") ∈ TS := TS_in (List.mem_of_getElem? (i := 136) (by decide +kernel)) rfl
theorem tw_137 : (Jvm.Cond.fieldLink "BetweenCounts$WayTable" (19 : Nat) "BetweenCounts$WayTable" "done" "[Z") ∈ TS := TS_in (List.mem_of_getElem? (i := 137) (by decide +kernel)) rfl
theorem tw_138 : (Jvm.Cond.fieldLink "BetweenCounts$WayTable" (23 : Nat) "BetweenCounts$WayTable" "fresh" "Z") ∈ TS := TS_in (List.mem_of_getElem? (i := 138) (by decide +kernel)) rfl
theorem tw_152 : (Jvm.Cond.arrayClass Jvm.ClassFile.FieldType.boolean) ∈ TS := TS_in (List.mem_of_getElem? (i := 152) (by decide +kernel)) rfl
theorem tw_153 : (Jvm.Cond.classLink "BetweenCounts" (38 : Nat) "BetweenCounts$Flow") ∈ TS := TS_in (List.mem_of_getElem? (i := 153) (by decide +kernel)) rfl
theorem tw_154 : (Jvm.Cond.instantiable "BetweenCounts$Flow" (11 : Nat)) ∈ TS := TS_in (List.mem_of_getElem? (i := 154) (by decide +kernel)) rfl
theorem tw_155 : (Jvm.Cond.methodLink "BetweenCounts" (40 : Nat) ({ cls := "BetweenCounts$Flow", name := "<init>", desc := "(LBetweenCounts$Net;)V" } : Jvm.MethodName)) ∈ TS := TS_in (List.mem_of_getElem? (i := 155) (by decide +kernel)) rfl
theorem tw_156 : (Jvm.Cond.instanceMethod ({ cls := "BetweenCounts$Flow", name := "<init>", desc := "(LBetweenCounts$Net;)V" } : Jvm.MethodName)) ∈ TS := TS_in (List.mem_of_getElem? (i := 156) (by decide +kernel)) rfl
set_option maxRecDepth 20000 in
theorem tw_157 : (Jvm.Cond.code ({ cls := "BetweenCounts$Flow", name := "<init>", desc := "(LBetweenCounts$Net;)V" } : Jvm.MethodName) prog_4_method_1_code (5 : Nat) (Option.none : Option Jvm.ClassFile.FieldType)) ∈ TS := TS_in (List.mem_of_getElem? (i := 157) rfl) rfl
theorem tw_158 : (Jvm.Cond.methodLink "BetweenCounts$Flow" (3 : Nat) ({ cls := "java/lang/Object", name := "<init>", desc := "()V" } : Jvm.MethodName)) ∈ TS := TS_in (List.mem_of_getElem? (i := 158) (by decide +kernel)) rfl
theorem tw_159 : (Jvm.Cond.classLink "BetweenCounts$Flow" (15 : Nat) "[[I") ∈ TS := TS_in (List.mem_of_getElem? (i := 159) (by decide +kernel)) rfl
theorem tw_160 : (Jvm.Cond.classLink "BetweenCounts$Flow" (20 : Nat) "BetweenCounts$Big") ∈ TS := TS_in (List.mem_of_getElem? (i := 160) (by decide +kernel)) rfl
theorem tw_161 : (Jvm.Cond.arrayOver (Jvm.ClassFile.FieldType.object "BetweenCounts$Big")) ∈ lw_tbl := List.mem_of_getElem? (i := 161) (by decide +kernel)
theorem tw_162 : (Jvm.Cond.instantiable "BetweenCounts$Big" (2 : Nat)) ∈ TS := TS_in (List.mem_of_getElem? (i := 162) (by decide +kernel)) rfl
theorem tw_163 : (Jvm.Cond.methodLink "BetweenCounts$Flow" (26 : Nat) ({ cls := "BetweenCounts$Big", name := "<init>", desc := "(I)V" } : Jvm.MethodName)) ∈ TS := TS_in (List.mem_of_getElem? (i := 163) (by decide +kernel)) rfl
theorem tw_164 : (Jvm.Cond.instanceMethod ({ cls := "BetweenCounts$Big", name := "<init>", desc := "(I)V" } : Jvm.MethodName)) ∈ TS := TS_in (List.mem_of_getElem? (i := 164) (by decide +kernel)) rfl
set_option maxRecDepth 20000 in
theorem tw_165 : (Jvm.Cond.code ({ cls := "BetweenCounts$Big", name := "<init>", desc := "(I)V" } : Jvm.MethodName) prog_2_method_1_code (2 : Nat) (Option.none : Option Jvm.ClassFile.FieldType)) ∈ TS := TS_in (List.mem_of_getElem? (i := 165) rfl) rfl
theorem tw_166 : (Jvm.Cond.methodLink "BetweenCounts$Big" (3 : Nat) ({ cls := "java/lang/Object", name := "<init>", desc := "()V" } : Jvm.MethodName)) ∈ TS := TS_in (List.mem_of_getElem? (i := 166) (by decide +kernel)) rfl
theorem tw_167 : (Jvm.Cond.methodLink "BetweenCounts$Big" (15 : Nat) ({ cls := "java/lang/Math", name := "max", desc := "(II)I" } : Jvm.MethodName)) ∈ TS := TS_in (List.mem_of_getElem? (i := 167) (by decide +kernel)) rfl
theorem tw_168 : (Jvm.Cond.static ({ cls := "java/lang/Math", name := "max", desc := "(II)I" } : Jvm.MethodName)) ∈ TS := TS_in (List.mem_of_getElem? (i := 168) (by decide +kernel)) rfl
set_option maxRecDepth 20000 in
theorem tw_169 : (Jvm.Cond.code ({ cls := "java/lang/Math", name := "max", desc := "(II)I" } : Jvm.MethodName) prog_11_method_65_code (2 : Nat) (Option.some Jvm.ClassFile.FieldType.int)) ∈ TS := TS_in (List.mem_of_getElem? (i := 169) rfl) rfl
theorem tw_170 : (Jvm.Cond.fieldLink "BetweenCounts$Big" (21 : Nat) "BetweenCounts$Big" "digit" "[J") ∈ TS := TS_in (List.mem_of_getElem? (i := 170) (by decide +kernel)) rfl
theorem tw_171 : (Jvm.Cond.fieldLink "BetweenCounts$Divider" (45 : Nat) "BetweenCounts$Big" "digit" "[J") ∈ TS := TS_in (List.mem_of_getElem? (i := 171) (by decide +kernel)) rfl
theorem tw_172 : (Jvm.Cond.fieldLink "BetweenCounts$Big" (9 : Nat) "BetweenCounts$Big" "size" "I") ∈ TS := TS_in (List.mem_of_getElem? (i := 172) (by decide +kernel)) rfl
theorem tw_173 : (Jvm.Cond.fieldLink "BetweenCounts$Divider" (33 : Nat) "BetweenCounts$Big" "size" "I") ∈ TS := TS_in (List.mem_of_getElem? (i := 173) (by decide +kernel)) rfl
theorem tw_179 : (Jvm.Cond.arrayClass Jvm.ClassFile.FieldType.long) ∈ TS := TS_in (List.mem_of_getElem? (i := 179) (by decide +kernel)) rfl
theorem tw_180 : (Jvm.Cond.classLink "BetweenCounts$Flow" (42 : Nat) "BetweenCounts$Divider") ∈ TS := TS_in (List.mem_of_getElem? (i := 180) (by decide +kernel)) rfl
theorem tw_181 : (Jvm.Cond.instantiable "BetweenCounts$Divider" (4 : Nat)) ∈ TS := TS_in (List.mem_of_getElem? (i := 181) (by decide +kernel)) rfl
theorem tw_182 : (Jvm.Cond.methodLinkNest "BetweenCounts$Flow" (44 : Nat) ({ cls := "BetweenCounts$Divider", name := "<init>", desc := "()V" } : Jvm.MethodName) "BetweenCounts") ∈ lw_tbl := List.mem_of_getElem? (i := 182) (by decide +kernel)
theorem tw_183 : (Jvm.Cond.instanceMethod ({ cls := "BetweenCounts$Divider", name := "<init>", desc := "()V" } : Jvm.MethodName)) ∈ TS := TS_in (List.mem_of_getElem? (i := 183) (by decide +kernel)) rfl
set_option maxRecDepth 20000 in
theorem tw_184 : (Jvm.Cond.code ({ cls := "BetweenCounts$Divider", name := "<init>", desc := "()V" } : Jvm.MethodName) prog_3_method_1_code (1 : Nat) (Option.none : Option Jvm.ClassFile.FieldType)) ∈ TS := TS_in (List.mem_of_getElem? (i := 184) rfl) rfl
theorem tw_185 : (Jvm.Cond.methodLink "BetweenCounts$Divider" (3 : Nat) ({ cls := "java/lang/Object", name := "<init>", desc := "()V" } : Jvm.MethodName)) ∈ TS := TS_in (List.mem_of_getElem? (i := 185) (by decide +kernel)) rfl
theorem tw_186 : (Jvm.Cond.classLink "BetweenCounts$Divider" (9 : Nat) "BetweenCounts$Big") ∈ TS := TS_in (List.mem_of_getElem? (i := 186) (by decide +kernel)) rfl
theorem tw_187 : (Jvm.Cond.methodLink "BetweenCounts$Divider" (11 : Nat) ({ cls := "BetweenCounts$Big", name := "<init>", desc := "(I)V" } : Jvm.MethodName)) ∈ TS := TS_in (List.mem_of_getElem? (i := 187) (by decide +kernel)) rfl
theorem tw_188 : (Jvm.Cond.fieldLink "BetweenCounts$Divider" (14 : Nat) "BetweenCounts$Divider" "quotient" "LBetweenCounts$Big;") ∈ TS := TS_in (List.mem_of_getElem? (i := 188) (by decide +kernel)) rfl
theorem tw_189 : (Jvm.Cond.fieldLink "BetweenCounts$Flow" (133 : Nat) "BetweenCounts$Divider" "quotient" "LBetweenCounts$Big;") ∈ TS := TS_in (List.mem_of_getElem? (i := 189) (by decide +kernel)) rfl
theorem tw_190 : (Jvm.Cond.fieldLink "BetweenCounts$Divider" (20 : Nat) "BetweenCounts$Divider" "scaled" "LBetweenCounts$Big;") ∈ TS := TS_in (List.mem_of_getElem? (i := 190) (by decide +kernel)) rfl
theorem tw_191 : (Jvm.Cond.fieldLink "BetweenCounts$Divider" (23 : Nat) "BetweenCounts$Divider" "left" "LBetweenCounts$Big;") ∈ TS := TS_in (List.mem_of_getElem? (i := 191) (by decide +kernel)) rfl
theorem tw_192 : (Jvm.Cond.fieldLink "BetweenCounts$Divider" (26 : Nat) "BetweenCounts$Divider" "right" "LBetweenCounts$Big;") ∈ TS := TS_in (List.mem_of_getElem? (i := 192) (by decide +kernel)) rfl
theorem tw_202 : (Jvm.Cond.fieldLink "BetweenCounts$Flow" (9 : Nat) "BetweenCounts$Flow" "ground" "[I") ∈ TS := TS_in (List.mem_of_getElem? (i := 202) (by decide +kernel)) rfl
theorem tw_203 : (Jvm.Cond.fieldLink "BetweenCounts" (150 : Nat) "BetweenCounts$Flow" "ground" "[I") ∈ TS := TS_in (List.mem_of_getElem? (i := 203) (by decide +kernel)) rfl
theorem tw_204 : (Jvm.Cond.fieldLink "BetweenCounts$Flow" (57 : Nat) "BetweenCounts$Flow" "net" "LBetweenCounts$Net;") ∈ TS := TS_in (List.mem_of_getElem? (i := 204) (by decide +kernel)) rfl
theorem tw_205 : (Jvm.Cond.fieldLink "BetweenCounts$Flow" (17 : Nat) "BetweenCounts$Flow" "conducts" "[[I") ∈ TS := TS_in (List.mem_of_getElem? (i := 205) (by decide +kernel)) rfl
theorem tw_206 : (Jvm.Cond.fieldLink "BetweenCounts$Flow" (22 : Nat) "BetweenCounts$Flow" "entry" "[LBetweenCounts$Big;") ∈ TS := TS_in (List.mem_of_getElem? (i := 206) (by decide +kernel)) rfl
theorem tw_207 : (Jvm.Cond.fieldLink "BetweenCounts$Flow" (29 : Nat) "BetweenCounts$Flow" "whole" "LBetweenCounts$Big;") ∈ TS := TS_in (List.mem_of_getElem? (i := 207) (by decide +kernel)) rfl
theorem tw_208 : (Jvm.Cond.fieldLink "BetweenCounts$Flow" (33 : Nat) "BetweenCounts$Flow" "pivot" "LBetweenCounts$Big;") ∈ TS := TS_in (List.mem_of_getElem? (i := 208) (by decide +kernel)) rfl
theorem tw_209 : (Jvm.Cond.fieldLink "BetweenCounts$Flow" (36 : Nat) "BetweenCounts$Flow" "one" "LBetweenCounts$Big;") ∈ TS := TS_in (List.mem_of_getElem? (i := 209) (by decide +kernel)) rfl
theorem tw_210 : (Jvm.Cond.fieldLink "BetweenCounts$Flow" (39 : Nat) "BetweenCounts$Flow" "other" "LBetweenCounts$Big;") ∈ TS := TS_in (List.mem_of_getElem? (i := 210) (by decide +kernel)) rfl
theorem tw_211 : (Jvm.Cond.fieldLink "BetweenCounts$Flow" (45 : Nat) "BetweenCounts$Flow" "divider" "LBetweenCounts$Divider;") ∈ TS := TS_in (List.mem_of_getElem? (i := 211) (by decide +kernel)) rfl
theorem tw_212 : (Jvm.Cond.fieldLink "BetweenCounts$Flow" (49 : Nat) "BetweenCounts$Flow" "fresh" "Z") ∈ TS := TS_in (List.mem_of_getElem? (i := 212) (by decide +kernel)) rfl
theorem tw_213 : (Jvm.Cond.fieldLink "BetweenCounts$Flow" (53 : Nat) "BetweenCounts$Flow" "settledFor" "I") ∈ TS := TS_in (List.mem_of_getElem? (i := 213) (by decide +kernel)) rfl
theorem tw_237 : (Jvm.Cond.classLink "BetweenCounts" (47 : Nat) "BetweenCounts$Ranking") ∈ TS := TS_in (List.mem_of_getElem? (i := 237) (by decide +kernel)) rfl
theorem tw_238 : (Jvm.Cond.instantiable "BetweenCounts$Ranking" (6 : Nat)) ∈ TS := TS_in (List.mem_of_getElem? (i := 238) (by decide +kernel)) rfl
theorem tw_239 : (Jvm.Cond.methodLink "BetweenCounts" (49 : Nat) ({ cls := "BetweenCounts$Ranking", name := "<init>", desc := "()V" } : Jvm.MethodName)) ∈ TS := TS_in (List.mem_of_getElem? (i := 239) (by decide +kernel)) rfl
theorem tw_240 : (Jvm.Cond.instanceMethod ({ cls := "BetweenCounts$Ranking", name := "<init>", desc := "()V" } : Jvm.MethodName)) ∈ TS := TS_in (List.mem_of_getElem? (i := 240) (by decide +kernel)) rfl
set_option maxRecDepth 20000 in
theorem tw_241 : (Jvm.Cond.code ({ cls := "BetweenCounts$Ranking", name := "<init>", desc := "()V" } : Jvm.MethodName) prog_7_method_1_code (2 : Nat) (Option.none : Option Jvm.ClassFile.FieldType)) ∈ TS := TS_in (List.mem_of_getElem? (i := 241) rfl) rfl
theorem tw_242 : (Jvm.Cond.methodLink "BetweenCounts$Ranking" (3 : Nat) ({ cls := "java/lang/Object", name := "<init>", desc := "()V" } : Jvm.MethodName)) ∈ TS := TS_in (List.mem_of_getElem? (i := 242) (by decide +kernel)) rfl
theorem tw_243 : (Jvm.Cond.classLink "BetweenCounts$Ranking" (9 : Nat) "BetweenCounts$Fraction") ∈ TS := TS_in (List.mem_of_getElem? (i := 243) (by decide +kernel)) rfl
theorem tw_244 : (Jvm.Cond.arrayOver (Jvm.ClassFile.FieldType.object "BetweenCounts$Fraction")) ∈ lw_tbl := List.mem_of_getElem? (i := 244) (by decide +kernel)
theorem tw_245 : (Jvm.Cond.classLink "BetweenCounts$Ranking" (29 : Nat) "BetweenCounts$Big") ∈ TS := TS_in (List.mem_of_getElem? (i := 245) (by decide +kernel)) rfl
theorem tw_246 : (Jvm.Cond.methodLink "BetweenCounts$Ranking" (31 : Nat) ({ cls := "BetweenCounts$Big", name := "<init>", desc := "(I)V" } : Jvm.MethodName)) ∈ TS := TS_in (List.mem_of_getElem? (i := 246) (by decide +kernel)) rfl
theorem tw_247 : (Jvm.Cond.instantiable "BetweenCounts$Fraction" (2 : Nat)) ∈ TS := TS_in (List.mem_of_getElem? (i := 247) (by decide +kernel)) rfl
theorem tw_248 : (Jvm.Cond.methodLink "BetweenCounts$Ranking" (41 : Nat) ({ cls := "BetweenCounts$Fraction", name := "<init>", desc := "()V" } : Jvm.MethodName)) ∈ TS := TS_in (List.mem_of_getElem? (i := 248) (by decide +kernel)) rfl
theorem tw_249 : (Jvm.Cond.instanceMethod ({ cls := "BetweenCounts$Fraction", name := "<init>", desc := "()V" } : Jvm.MethodName)) ∈ TS := TS_in (List.mem_of_getElem? (i := 249) (by decide +kernel)) rfl
set_option maxRecDepth 20000 in
theorem tw_250 : (Jvm.Cond.code ({ cls := "BetweenCounts$Fraction", name := "<init>", desc := "()V" } : Jvm.MethodName) prog_5_method_1_code (1 : Nat) (Option.none : Option Jvm.ClassFile.FieldType)) ∈ TS := TS_in (List.mem_of_getElem? (i := 250) rfl) rfl
theorem tw_251 : (Jvm.Cond.methodLink "BetweenCounts$Fraction" (3 : Nat) ({ cls := "java/lang/Object", name := "<init>", desc := "()V" } : Jvm.MethodName)) ∈ TS := TS_in (List.mem_of_getElem? (i := 251) (by decide +kernel)) rfl
theorem tw_252 : (Jvm.Cond.classLink "BetweenCounts$Fraction" (9 : Nat) "BetweenCounts$Big") ∈ TS := TS_in (List.mem_of_getElem? (i := 252) (by decide +kernel)) rfl
theorem tw_253 : (Jvm.Cond.methodLink "BetweenCounts$Fraction" (11 : Nat) ({ cls := "BetweenCounts$Big", name := "<init>", desc := "(I)V" } : Jvm.MethodName)) ∈ TS := TS_in (List.mem_of_getElem? (i := 253) (by decide +kernel)) rfl
theorem tw_254 : (Jvm.Cond.methodLink "BetweenCounts$Fraction" (23 : Nat) ({ cls := "BetweenCounts$Big", name := "setSmall", desc := "(J)V" } : Jvm.MethodName)) ∈ TS := TS_in (List.mem_of_getElem? (i := 254) (by decide +kernel)) rfl
theorem tw_255 : (Jvm.Cond.instanceMethod ({ cls := "BetweenCounts$Big", name := "setSmall", desc := "(J)V" } : Jvm.MethodName)) ∈ TS := TS_in (List.mem_of_getElem? (i := 255) (by decide +kernel)) rfl
theorem tw_256 : (Jvm.Cond.selects "BetweenCounts$Big" ({ cls := "BetweenCounts$Big", name := "setSmall", desc := "(J)V" } : Jvm.MethodName) ({ cls := "BetweenCounts$Big", name := "setSmall", desc := "(J)V" } : Jvm.MethodName)) ∈ TS := TS_in (List.mem_of_getElem? (i := 256) (by decide +kernel)) rfl
set_option maxRecDepth 20000 in
theorem tw_257 : (Jvm.Cond.code ({ cls := "BetweenCounts$Big", name := "setSmall", desc := "(J)V" } : Jvm.MethodName) prog_2_method_2_code (3 : Nat) (Option.none : Option Jvm.ClassFile.FieldType)) ∈ TS := TS_in (List.mem_of_getElem? (i := 257) rfl) rfl
theorem tw_258 : (Jvm.Cond.methodLink "BetweenCounts$Big" (25 : Nat) ({ cls := "BetweenCounts$Big", name := "append", desc := "(J)V" } : Jvm.MethodName)) ∈ TS := TS_in (List.mem_of_getElem? (i := 258) (by decide +kernel)) rfl
theorem tw_260 : (Jvm.Cond.instanceMethod ({ cls := "BetweenCounts$Big", name := "append", desc := "(J)V" } : Jvm.MethodName)) ∈ TS := TS_in (List.mem_of_getElem? (i := 260) (by decide +kernel)) rfl
set_option maxRecDepth 20000 in
theorem tw_261 : (Jvm.Cond.code ({ cls := "BetweenCounts$Big", name := "append", desc := "(J)V" } : Jvm.MethodName) prog_2_method_4_code (3 : Nat) (Option.none : Option Jvm.ClassFile.FieldType)) ∈ TS := TS_in (List.mem_of_getElem? (i := 261) rfl) rfl
theorem tw_262 : (Jvm.Cond.fieldLink "BetweenCounts$Fraction" (14 : Nat) "BetweenCounts$Fraction" "above" "LBetweenCounts$Big;") ∈ TS := TS_in (List.mem_of_getElem? (i := 262) (by decide +kernel)) rfl
theorem tw_263 : (Jvm.Cond.fieldLink "BetweenCounts$Ranking" (55 : Nat) "BetweenCounts$Fraction" "above" "LBetweenCounts$Big;") ∈ TS := TS_in (List.mem_of_getElem? (i := 263) (by decide +kernel)) rfl
theorem tw_264 : (Jvm.Cond.fieldLink "BetweenCounts$Divider" (88 : Nat) "BetweenCounts$Fraction" "above" "LBetweenCounts$Big;") ∈ TS := TS_in (List.mem_of_getElem? (i := 264) (by decide +kernel)) rfl
theorem tw_265 : (Jvm.Cond.fieldLink "BetweenCounts$Flow" (141 : Nat) "BetweenCounts$Fraction" "above" "LBetweenCounts$Big;") ∈ TS := TS_in (List.mem_of_getElem? (i := 265) (by decide +kernel)) rfl
theorem tw_266 : (Jvm.Cond.fieldLink "BetweenCounts$Fraction" (20 : Nat) "BetweenCounts$Fraction" "below" "LBetweenCounts$Big;") ∈ TS := TS_in (List.mem_of_getElem? (i := 266) (by decide +kernel)) rfl
theorem tw_267 : (Jvm.Cond.fieldLink "BetweenCounts$Ranking" (58 : Nat) "BetweenCounts$Fraction" "below" "LBetweenCounts$Big;") ∈ TS := TS_in (List.mem_of_getElem? (i := 267) (by decide +kernel)) rfl
theorem tw_268 : (Jvm.Cond.fieldLink "BetweenCounts$Divider" (93 : Nat) "BetweenCounts$Fraction" "below" "LBetweenCounts$Big;") ∈ TS := TS_in (List.mem_of_getElem? (i := 268) (by decide +kernel)) rfl
theorem tw_269 : (Jvm.Cond.fieldLink "BetweenCounts$Flow" (150 : Nat) "BetweenCounts$Fraction" "below" "LBetweenCounts$Big;") ∈ TS := TS_in (List.mem_of_getElem? (i := 269) (by decide +kernel)) rfl
theorem tw_275 : (Jvm.Cond.fieldLink "BetweenCounts$Ranking" (11 : Nat) "BetweenCounts$Ranking" "value" "[LBetweenCounts$Fraction;") ∈ TS := TS_in (List.mem_of_getElem? (i := 275) (by decide +kernel)) rfl
theorem tw_276 : (Jvm.Cond.fieldLink "BetweenCounts" (122 : Nat) "BetweenCounts$Ranking" "value" "[LBetweenCounts$Fraction;") ∈ TS := TS_in (List.mem_of_getElem? (i := 276) (by decide +kernel)) rfl
theorem tw_277 : (Jvm.Cond.fieldLink "BetweenCounts$Ranking" (17 : Nat) "BetweenCounts$Ranking" "known" "[Z") ∈ TS := TS_in (List.mem_of_getElem? (i := 277) (by decide +kernel)) rfl
theorem tw_278 : (Jvm.Cond.fieldLink "BetweenCounts" (187 : Nat) "BetweenCounts$Ranking" "known" "[Z") ∈ TS := TS_in (List.mem_of_getElem? (i := 278) (by decide +kernel)) rfl
theorem tw_279 : (Jvm.Cond.fieldLink "BetweenCounts$Ranking" (21 : Nat) "BetweenCounts$Ranking" "ahead" "[I") ∈ TS := TS_in (List.mem_of_getElem? (i := 279) (by decide +kernel)) rfl
theorem tw_280 : (Jvm.Cond.fieldLink "BetweenCounts$Ranking" (25 : Nat) "BetweenCounts$Ranking" "ranked" "Z") ∈ TS := TS_in (List.mem_of_getElem? (i := 280) (by decide +kernel)) rfl
theorem tw_281 : (Jvm.Cond.fieldLink "BetweenCounts$Ranking" (34 : Nat) "BetweenCounts$Ranking" "left" "LBetweenCounts$Big;") ∈ TS := TS_in (List.mem_of_getElem? (i := 281) (by decide +kernel)) rfl
theorem tw_282 : (Jvm.Cond.fieldLink "BetweenCounts$Ranking" (38 : Nat) "BetweenCounts$Ranking" "right" "LBetweenCounts$Big;") ∈ TS := TS_in (List.mem_of_getElem? (i := 282) (by decide +kernel)) rfl
theorem tw_296 : (Jvm.Cond.classLink "BetweenCounts" (54 : Nat) "BetweenCounts$Fraction") ∈ TS := TS_in (List.mem_of_getElem? (i := 296) (by decide +kernel)) rfl
theorem tw_297 : (Jvm.Cond.methodLink "BetweenCounts" (56 : Nat) ({ cls := "BetweenCounts$Fraction", name := "<init>", desc := "()V" } : Jvm.MethodName)) ∈ TS := TS_in (List.mem_of_getElem? (i := 297) (by decide +kernel)) rfl
theorem tw_298 : (Jvm.Cond.fieldLink "BetweenCounts" (12 : Nat) "BetweenCounts" "net" "LBetweenCounts$Net;") ∈ TS := TS_in (List.mem_of_getElem? (i := 298) (by decide +kernel)) rfl
theorem tw_299 : (Jvm.Cond.fieldLink "BetweenCounts" (16 : Nat) "BetweenCounts" "inGroup" "[Z") ∈ TS := TS_in (List.mem_of_getElem? (i := 299) (by decide +kernel)) rfl
theorem tw_300 : (Jvm.Cond.fieldLink "BetweenCounts" (20 : Nat) "BetweenCounts" "begins" "[Z") ∈ TS := TS_in (List.mem_of_getElem? (i := 300) (by decide +kernel)) rfl
theorem tw_301 : (Jvm.Cond.fieldLink "BetweenCounts" (23 : Nat) "BetweenCounts" "ends" "[Z") ∈ TS := TS_in (List.mem_of_getElem? (i := 301) (by decide +kernel)) rfl
theorem tw_302 : (Jvm.Cond.fieldLink "BetweenCounts" (31 : Nat) "BetweenCounts" "open" "LBetweenCounts$WayTable;") ∈ TS := TS_in (List.mem_of_getElem? (i := 302) (by decide +kernel)) rfl
theorem tw_303 : (Jvm.Cond.fieldLink "BetweenCounts" (35 : Nat) "BetweenCounts" "around" "LBetweenCounts$WayTable;") ∈ TS := TS_in (List.mem_of_getElem? (i := 303) (by decide +kernel)) rfl
theorem tw_304 : (Jvm.Cond.fieldLink "BetweenCounts" (43 : Nat) "BetweenCounts" "flow" "LBetweenCounts$Flow;") ∈ TS := TS_in (List.mem_of_getElem? (i := 304) (by decide +kernel)) rfl
theorem tw_305 : (Jvm.Cond.fieldLink "BetweenCounts" (50 : Nat) "BetweenCounts" "ranking" "LBetweenCounts$Ranking;") ∈ TS := TS_in (List.mem_of_getElem? (i := 305) (by decide +kernel)) rfl
theorem tw_306 : (Jvm.Cond.fieldLink "BetweenCounts" (57 : Nat) "BetweenCounts" "kept" "LBetweenCounts$Fraction;") ∈ TS := TS_in (List.mem_of_getElem? (i := 306) (by decide +kernel)) rfl
theorem tw_307 : (Jvm.Cond.fieldLink "BetweenCounts" (61 : Nat) "BetweenCounts" "keptFor" "I") ∈ TS := TS_in (List.mem_of_getElem? (i := 307) (by decide +kernel)) rfl
theorem tw_329 : (Jvm.Cond.methodLink "BetweenCountsLaw" (13 : Nat) ({ cls := "BetweenCounts", name := "node", desc := "()I" } : Jvm.MethodName)) ∈ TS := TS_in (List.mem_of_getElem? (i := 329) (by decide +kernel)) rfl
theorem tw_330 : (Jvm.Cond.instanceMethod ({ cls := "BetweenCounts", name := "node", desc := "()I" } : Jvm.MethodName)) ∈ TS := TS_in (List.mem_of_getElem? (i := 330) (by decide +kernel)) rfl
theorem tw_331 : (Jvm.Cond.selects "BetweenCounts" ({ cls := "BetweenCounts", name := "node", desc := "()I" } : Jvm.MethodName) ({ cls := "BetweenCounts", name := "node", desc := "()I" } : Jvm.MethodName)) ∈ TS := TS_in (List.mem_of_getElem? (i := 331) (by decide +kernel)) rfl
set_option maxRecDepth 20000 in
theorem tw_332 : (Jvm.Cond.code ({ cls := "BetweenCounts", name := "node", desc := "()I" } : Jvm.MethodName) prog_1_method_2_code (2 : Nat) (Option.some Jvm.ClassFile.FieldType.int)) ∈ TS := TS_in (List.mem_of_getElem? (i := 332) rfl) rfl
theorem tw_333 : (Jvm.Cond.methodLink "BetweenCounts" (65 : Nat) ({ cls := "BetweenCounts$Net", name := "addNode", desc := "()I" } : Jvm.MethodName)) ∈ TS := TS_in (List.mem_of_getElem? (i := 333) (by decide +kernel)) rfl
theorem tw_334 : (Jvm.Cond.instanceMethod ({ cls := "BetweenCounts$Net", name := "addNode", desc := "()I" } : Jvm.MethodName)) ∈ TS := TS_in (List.mem_of_getElem? (i := 334) (by decide +kernel)) rfl
theorem tw_335 : (Jvm.Cond.selects "BetweenCounts$Net" ({ cls := "BetweenCounts$Net", name := "addNode", desc := "()I" } : Jvm.MethodName) ({ cls := "BetweenCounts$Net", name := "addNode", desc := "()I" } : Jvm.MethodName)) ∈ TS := TS_in (List.mem_of_getElem? (i := 335) (by decide +kernel)) rfl
set_option maxRecDepth 20000 in
theorem tw_336 : (Jvm.Cond.code ({ cls := "BetweenCounts$Net", name := "addNode", desc := "()I" } : Jvm.MethodName) prog_6_method_5_code (1 : Nat) (Option.some Jvm.ClassFile.FieldType.int)) ∈ TS := TS_in (List.mem_of_getElem? (i := 336) rfl) rfl
theorem tw_337 : (Jvm.Cond.methodLink "BetweenCounts" (69 : Nat) ({ cls := "BetweenCounts", name := "forgetNetwork", desc := "()V" } : Jvm.MethodName)) ∈ TS := TS_in (List.mem_of_getElem? (i := 337) (by decide +kernel)) rfl
theorem tw_339 : (Jvm.Cond.instanceMethod ({ cls := "BetweenCounts", name := "forgetNetwork", desc := "()V" } : Jvm.MethodName)) ∈ TS := TS_in (List.mem_of_getElem? (i := 339) (by decide +kernel)) rfl
set_option maxRecDepth 20000 in
theorem tw_340 : (Jvm.Cond.code ({ cls := "BetweenCounts", name := "forgetNetwork", desc := "()V" } : Jvm.MethodName) prog_1_method_18_code (1 : Nat) (Option.none : Option Jvm.ClassFile.FieldType)) ∈ TS := TS_in (List.mem_of_getElem? (i := 340) rfl) rfl
theorem tw_341 : (Jvm.Cond.methodLink "BetweenCounts" (179 : Nat) ({ cls := "BetweenCounts$WayTable", name := "forget", desc := "()V" } : Jvm.MethodName)) ∈ TS := TS_in (List.mem_of_getElem? (i := 341) (by decide +kernel)) rfl
theorem tw_342 : (Jvm.Cond.instanceMethod ({ cls := "BetweenCounts$WayTable", name := "forget", desc := "()V" } : Jvm.MethodName)) ∈ TS := TS_in (List.mem_of_getElem? (i := 342) (by decide +kernel)) rfl
theorem tw_343 : (Jvm.Cond.selects "BetweenCounts$WayTable" ({ cls := "BetweenCounts$WayTable", name := "forget", desc := "()V" } : Jvm.MethodName) ({ cls := "BetweenCounts$WayTable", name := "forget", desc := "()V" } : Jvm.MethodName)) ∈ TS := TS_in (List.mem_of_getElem? (i := 343) (by decide +kernel)) rfl
set_option maxRecDepth 20000 in
theorem tw_344 : (Jvm.Cond.code ({ cls := "BetweenCounts$WayTable", name := "forget", desc := "()V" } : Jvm.MethodName) prog_8_method_2_code (1 : Nat) (Option.none : Option Jvm.ClassFile.FieldType)) ∈ TS := TS_in (List.mem_of_getElem? (i := 344) rfl) rfl
theorem tw_345 : (Jvm.Cond.methodLink "BetweenCounts" (182 : Nat) ({ cls := "BetweenCounts$Flow", name := "forget", desc := "()V" } : Jvm.MethodName)) ∈ TS := TS_in (List.mem_of_getElem? (i := 345) (by decide +kernel)) rfl
theorem tw_346 : (Jvm.Cond.instanceMethod ({ cls := "BetweenCounts$Flow", name := "forget", desc := "()V" } : Jvm.MethodName)) ∈ TS := TS_in (List.mem_of_getElem? (i := 346) (by decide +kernel)) rfl
theorem tw_347 : (Jvm.Cond.selects "BetweenCounts$Flow" ({ cls := "BetweenCounts$Flow", name := "forget", desc := "()V" } : Jvm.MethodName) ({ cls := "BetweenCounts$Flow", name := "forget", desc := "()V" } : Jvm.MethodName)) ∈ TS := TS_in (List.mem_of_getElem? (i := 347) (by decide +kernel)) rfl
set_option maxRecDepth 20000 in
theorem tw_348 : (Jvm.Cond.code ({ cls := "BetweenCounts$Flow", name := "forget", desc := "()V" } : Jvm.MethodName) prog_4_method_2_code (1 : Nat) (Option.none : Option Jvm.ClassFile.FieldType)) ∈ TS := TS_in (List.mem_of_getElem? (i := 348) rfl) rfl
theorem tw_349 : (Jvm.Cond.methodLink "BetweenCounts" (90 : Nat) ({ cls := "BetweenCounts", name := "forgetChoice", desc := "()V" } : Jvm.MethodName)) ∈ TS := TS_in (List.mem_of_getElem? (i := 349) (by decide +kernel)) rfl
theorem tw_351 : (Jvm.Cond.instanceMethod ({ cls := "BetweenCounts", name := "forgetChoice", desc := "()V" } : Jvm.MethodName)) ∈ TS := TS_in (List.mem_of_getElem? (i := 351) (by decide +kernel)) rfl
set_option maxRecDepth 20000 in
theorem tw_352 : (Jvm.Cond.code ({ cls := "BetweenCounts", name := "forgetChoice", desc := "()V" } : Jvm.MethodName) prog_1_method_19_code (1 : Nat) (Option.none : Option Jvm.ClassFile.FieldType)) ∈ TS := TS_in (List.mem_of_getElem? (i := 352) rfl) rfl
theorem tw_353 : (Jvm.Cond.methodLink "BetweenCounts" (183 : Nat) ({ cls := "BetweenCounts$Ranking", name := "forget", desc := "()V" } : Jvm.MethodName)) ∈ TS := TS_in (List.mem_of_getElem? (i := 353) (by decide +kernel)) rfl
theorem tw_354 : (Jvm.Cond.instanceMethod ({ cls := "BetweenCounts$Ranking", name := "forget", desc := "()V" } : Jvm.MethodName)) ∈ TS := TS_in (List.mem_of_getElem? (i := 354) (by decide +kernel)) rfl
theorem tw_355 : (Jvm.Cond.selects "BetweenCounts$Ranking" ({ cls := "BetweenCounts$Ranking", name := "forget", desc := "()V" } : Jvm.MethodName) ({ cls := "BetweenCounts$Ranking", name := "forget", desc := "()V" } : Jvm.MethodName)) ∈ TS := TS_in (List.mem_of_getElem? (i := 355) (by decide +kernel)) rfl
set_option maxRecDepth 20000 in
theorem tw_356 : (Jvm.Cond.code ({ cls := "BetweenCounts$Ranking", name := "forget", desc := "()V" } : Jvm.MethodName) prog_7_method_2_code (2 : Nat) (Option.none : Option Jvm.ClassFile.FieldType)) ∈ TS := TS_in (List.mem_of_getElem? (i := 356) rfl) rfl
theorem tw_357 : (Jvm.Cond.methodLink "BetweenCountsLaw" (18 : Nat) ({ cls := "BetweenCounts", name := "arc", desc := "(III)I" } : Jvm.MethodName)) ∈ TS := TS_in (List.mem_of_getElem? (i := 357) (by decide +kernel)) rfl
theorem tw_358 : (Jvm.Cond.instanceMethod ({ cls := "BetweenCounts", name := "arc", desc := "(III)I" } : Jvm.MethodName)) ∈ TS := TS_in (List.mem_of_getElem? (i := 358) (by decide +kernel)) rfl
theorem tw_359 : (Jvm.Cond.selects "BetweenCounts" ({ cls := "BetweenCounts", name := "arc", desc := "(III)I" } : Jvm.MethodName) ({ cls := "BetweenCounts", name := "arc", desc := "(III)I" } : Jvm.MethodName)) ∈ TS := TS_in (List.mem_of_getElem? (i := 359) (by decide +kernel)) rfl
set_option maxRecDepth 20000 in
theorem tw_360 : (Jvm.Cond.code ({ cls := "BetweenCounts", name := "arc", desc := "(III)I" } : Jvm.MethodName) prog_1_method_3_code (5 : Nat) (Option.some Jvm.ClassFile.FieldType.int)) ∈ TS := TS_in (List.mem_of_getElem? (i := 360) rfl) rfl
theorem tw_361 : (Jvm.Cond.methodLink "BetweenCounts" (72 : Nat) ({ cls := "BetweenCounts$Net", name := "addArc", desc := "(III)I" } : Jvm.MethodName)) ∈ TS := TS_in (List.mem_of_getElem? (i := 361) (by decide +kernel)) rfl
theorem tw_362 : (Jvm.Cond.instanceMethod ({ cls := "BetweenCounts$Net", name := "addArc", desc := "(III)I" } : Jvm.MethodName)) ∈ TS := TS_in (List.mem_of_getElem? (i := 362) (by decide +kernel)) rfl
theorem tw_363 : (Jvm.Cond.selects "BetweenCounts$Net" ({ cls := "BetweenCounts$Net", name := "addArc", desc := "(III)I" } : Jvm.MethodName) ({ cls := "BetweenCounts$Net", name := "addArc", desc := "(III)I" } : Jvm.MethodName)) ∈ TS := TS_in (List.mem_of_getElem? (i := 363) (by decide +kernel)) rfl
set_option maxRecDepth 20000 in
theorem tw_364 : (Jvm.Cond.code ({ cls := "BetweenCounts$Net", name := "addArc", desc := "(III)I" } : Jvm.MethodName) prog_6_method_6_code (4 : Nat) (Option.some Jvm.ClassFile.FieldType.int)) ∈ TS := TS_in (List.mem_of_getElem? (i := 364) rfl) rfl
theorem tw_365 : (Jvm.Cond.methodLink "BetweenCounts$Net" (28 : Nat) ({ cls := "BetweenCounts$Net", name := "hasNode", desc := "(I)Z" } : Jvm.MethodName)) ∈ TS := TS_in (List.mem_of_getElem? (i := 365) (by decide +kernel)) rfl
theorem tw_366 : (Jvm.Cond.instanceMethod ({ cls := "BetweenCounts$Net", name := "hasNode", desc := "(I)Z" } : Jvm.MethodName)) ∈ TS := TS_in (List.mem_of_getElem? (i := 366) (by decide +kernel)) rfl
theorem tw_367 : (Jvm.Cond.selects "BetweenCounts$Net" ({ cls := "BetweenCounts$Net", name := "hasNode", desc := "(I)Z" } : Jvm.MethodName) ({ cls := "BetweenCounts$Net", name := "hasNode", desc := "(I)Z" } : Jvm.MethodName)) ∈ TS := TS_in (List.mem_of_getElem? (i := 367) (by decide +kernel)) rfl
set_option maxRecDepth 20000 in
theorem tw_368 : (Jvm.Cond.code ({ cls := "BetweenCounts$Net", name := "hasNode", desc := "(I)Z" } : Jvm.MethodName) prog_6_method_2_code (2 : Nat) (Option.some Jvm.ClassFile.FieldType.boolean)) ∈ TS := TS_in (List.mem_of_getElem? (i := 368) rfl) rfl
theorem tw_369 : (Jvm.Cond.methodLink "BetweenCounts$Net" (32 : Nat) ({ cls := "BetweenCounts$Net", name := "isWeight", desc := "(I)Z" } : Jvm.MethodName)) ∈ TS := TS_in (List.mem_of_getElem? (i := 369) (by decide +kernel)) rfl
theorem tw_370 : (Jvm.Cond.instanceMethod ({ cls := "BetweenCounts$Net", name := "isWeight", desc := "(I)Z" } : Jvm.MethodName)) ∈ TS := TS_in (List.mem_of_getElem? (i := 370) (by decide +kernel)) rfl
theorem tw_371 : (Jvm.Cond.selects "BetweenCounts$Net" ({ cls := "BetweenCounts$Net", name := "isWeight", desc := "(I)Z" } : Jvm.MethodName) ({ cls := "BetweenCounts$Net", name := "isWeight", desc := "(I)Z" } : Jvm.MethodName)) ∈ TS := TS_in (List.mem_of_getElem? (i := 371) (by decide +kernel)) rfl
set_option maxRecDepth 20000 in
theorem tw_372 : (Jvm.Cond.code ({ cls := "BetweenCounts$Net", name := "isWeight", desc := "(I)Z" } : Jvm.MethodName) prog_6_method_4_code (2 : Nat) (Option.some Jvm.ClassFile.FieldType.boolean)) ∈ TS := TS_in (List.mem_of_getElem? (i := 372) rfl) rfl
theorem tw_373 : (Jvm.Cond.methodLink "BetweenCountsLaw" (23 : Nat) ({ cls := "BetweenCounts", name := "change", desc := "(II)I" } : Jvm.MethodName)) ∈ TS := TS_in (List.mem_of_getElem? (i := 373) (by decide +kernel)) rfl
theorem tw_374 : (Jvm.Cond.instanceMethod ({ cls := "BetweenCounts", name := "change", desc := "(II)I" } : Jvm.MethodName)) ∈ TS := TS_in (List.mem_of_getElem? (i := 374) (by decide +kernel)) rfl
theorem tw_375 : (Jvm.Cond.selects "BetweenCounts" ({ cls := "BetweenCounts", name := "change", desc := "(II)I" } : Jvm.MethodName) ({ cls := "BetweenCounts", name := "change", desc := "(II)I" } : Jvm.MethodName)) ∈ TS := TS_in (List.mem_of_getElem? (i := 375) (by decide +kernel)) rfl
set_option maxRecDepth 20000 in
theorem tw_376 : (Jvm.Cond.code ({ cls := "BetweenCounts", name := "change", desc := "(II)I" } : Jvm.MethodName) prog_1_method_4_code (4 : Nat) (Option.some Jvm.ClassFile.FieldType.int)) ∈ TS := TS_in (List.mem_of_getElem? (i := 376) rfl) rfl
theorem tw_377 : (Jvm.Cond.methodLink "BetweenCounts" (76 : Nat) ({ cls := "BetweenCounts$Net", name := "hasArc", desc := "(I)Z" } : Jvm.MethodName)) ∈ TS := TS_in (List.mem_of_getElem? (i := 377) (by decide +kernel)) rfl
theorem tw_378 : (Jvm.Cond.instanceMethod ({ cls := "BetweenCounts$Net", name := "hasArc", desc := "(I)Z" } : Jvm.MethodName)) ∈ TS := TS_in (List.mem_of_getElem? (i := 378) (by decide +kernel)) rfl
theorem tw_379 : (Jvm.Cond.selects "BetweenCounts$Net" ({ cls := "BetweenCounts$Net", name := "hasArc", desc := "(I)Z" } : Jvm.MethodName) ({ cls := "BetweenCounts$Net", name := "hasArc", desc := "(I)Z" } : Jvm.MethodName)) ∈ TS := TS_in (List.mem_of_getElem? (i := 379) (by decide +kernel)) rfl
set_option maxRecDepth 20000 in
theorem tw_380 : (Jvm.Cond.code ({ cls := "BetweenCounts$Net", name := "hasArc", desc := "(I)Z" } : Jvm.MethodName) prog_6_method_3_code (2 : Nat) (Option.some Jvm.ClassFile.FieldType.boolean)) ∈ TS := TS_in (List.mem_of_getElem? (i := 380) rfl) rfl
theorem tw_381 : (Jvm.Cond.methodLink "BetweenCounts" (80 : Nat) ({ cls := "BetweenCounts$Net", name := "isWeight", desc := "(I)Z" } : Jvm.MethodName)) ∈ TS := TS_in (List.mem_of_getElem? (i := 381) (by decide +kernel)) rfl
theorem tw_382 : (Jvm.Cond.methodLink "BetweenCountsLaw" (28 : Nat) ({ cls := "BetweenCounts", name := "choose", desc := "(II)Z" } : Jvm.MethodName)) ∈ TS := TS_in (List.mem_of_getElem? (i := 382) (by decide +kernel)) rfl
theorem tw_383 : (Jvm.Cond.instanceMethod ({ cls := "BetweenCounts", name := "choose", desc := "(II)Z" } : Jvm.MethodName)) ∈ TS := TS_in (List.mem_of_getElem? (i := 383) (by decide +kernel)) rfl
theorem tw_384 : (Jvm.Cond.selects "BetweenCounts" ({ cls := "BetweenCounts", name := "choose", desc := "(II)Z" } : Jvm.MethodName) ({ cls := "BetweenCounts", name := "choose", desc := "(II)Z" } : Jvm.MethodName)) ∈ TS := TS_in (List.mem_of_getElem? (i := 384) (by decide +kernel)) rfl
set_option maxRecDepth 20000 in
theorem tw_385 : (Jvm.Cond.code ({ cls := "BetweenCounts", name := "choose", desc := "(II)Z" } : Jvm.MethodName) prog_1_method_5_code (4 : Nat) (Option.some Jvm.ClassFile.FieldType.boolean)) ∈ TS := TS_in (List.mem_of_getElem? (i := 385) rfl) rfl
theorem tw_386 : (Jvm.Cond.methodLink "BetweenCounts" (87 : Nat) ({ cls := "BetweenCounts$Net", name := "hasNode", desc := "(I)Z" } : Jvm.MethodName)) ∈ TS := TS_in (List.mem_of_getElem? (i := 386) (by decide +kernel)) rfl
theorem tw_387 : (Jvm.Cond.methodLink "BetweenCountsLaw" (33 : Nat) ({ cls := "BetweenCounts", name := "far", desc := "(II)I" } : Jvm.MethodName)) ∈ TS := TS_in (List.mem_of_getElem? (i := 387) (by decide +kernel)) rfl
theorem tw_388 : (Jvm.Cond.instanceMethod ({ cls := "BetweenCounts", name := "far", desc := "(II)I" } : Jvm.MethodName)) ∈ TS := TS_in (List.mem_of_getElem? (i := 388) (by decide +kernel)) rfl
theorem tw_389 : (Jvm.Cond.selects "BetweenCounts" ({ cls := "BetweenCounts", name := "far", desc := "(II)I" } : Jvm.MethodName) ({ cls := "BetweenCounts", name := "far", desc := "(II)I" } : Jvm.MethodName)) ∈ TS := TS_in (List.mem_of_getElem? (i := 389) (by decide +kernel)) rfl
set_option maxRecDepth 20000 in
theorem tw_390 : (Jvm.Cond.code ({ cls := "BetweenCounts", name := "far", desc := "(II)I" } : Jvm.MethodName) prog_1_method_6_code (3 : Nat) (Option.some Jvm.ClassFile.FieldType.int)) ∈ TS := TS_in (List.mem_of_getElem? (i := 390) rfl) rfl
theorem tw_391 : (Jvm.Cond.methodLink "BetweenCounts" (93 : Nat) ({ cls := "BetweenCounts$WayTable", name := "refresh", desc := "()V" } : Jvm.MethodName)) ∈ TS := TS_in (List.mem_of_getElem? (i := 391) (by decide +kernel)) rfl
theorem tw_392 : (Jvm.Cond.instanceMethod ({ cls := "BetweenCounts$WayTable", name := "refresh", desc := "()V" } : Jvm.MethodName)) ∈ TS := TS_in (List.mem_of_getElem? (i := 392) (by decide +kernel)) rfl
theorem tw_393 : (Jvm.Cond.selects "BetweenCounts$WayTable" ({ cls := "BetweenCounts$WayTable", name := "refresh", desc := "()V" } : Jvm.MethodName) ({ cls := "BetweenCounts$WayTable", name := "refresh", desc := "()V" } : Jvm.MethodName)) ∈ TS := TS_in (List.mem_of_getElem? (i := 393) (by decide +kernel)) rfl
set_option maxRecDepth 20000 in
theorem tw_394 : (Jvm.Cond.code ({ cls := "BetweenCounts$WayTable", name := "refresh", desc := "()V" } : Jvm.MethodName) prog_8_method_3_code (2 : Nat) (Option.none : Option Jvm.ClassFile.FieldType)) ∈ TS := TS_in (List.mem_of_getElem? (i := 394) rfl) rfl
theorem tw_395 : (Jvm.Cond.methodLink "BetweenCounts$WayTable" (40 : Nat) ({ cls := "java/util/Arrays", name := "fill", desc := "([II)V" } : Jvm.MethodName)) ∈ TS := TS_in (List.mem_of_getElem? (i := 395) (by decide +kernel)) rfl
theorem tw_396 : (Jvm.Cond.static ({ cls := "java/util/Arrays", name := "fill", desc := "([II)V" } : Jvm.MethodName)) ∈ TS := TS_in (List.mem_of_getElem? (i := 396) (by decide +kernel)) rfl
set_option maxRecDepth 20000 in
theorem tw_397 : (Jvm.Cond.code ({ cls := "java/util/Arrays", name := "fill", desc := "([II)V" } : Jvm.MethodName) prog_13_method_103_code (4 : Nat) (Option.none : Option Jvm.ClassFile.FieldType)) ∈ TS := TS_in (List.mem_of_getElem? (i := 397) rfl) rfl
theorem tw_398 : (Jvm.Cond.methodLink "BetweenCounts$WayTable" (46 : Nat) ({ cls := "BetweenCounts$WayTable", name := "spreadFrom", desc := "(I[I[I)V" } : Jvm.MethodName)) ∈ TS := TS_in (List.mem_of_getElem? (i := 398) (by decide +kernel)) rfl
theorem tw_400 : (Jvm.Cond.instanceMethod ({ cls := "BetweenCounts$WayTable", name := "spreadFrom", desc := "(I[I[I)V" } : Jvm.MethodName)) ∈ TS := TS_in (List.mem_of_getElem? (i := 400) (by decide +kernel)) rfl
set_option maxRecDepth 20000 in
theorem tw_401 : (Jvm.Cond.code ({ cls := "BetweenCounts$WayTable", name := "spreadFrom", desc := "(I[I[I)V" } : Jvm.MethodName) prog_8_method_4_code (7 : Nat) (Option.none : Option Jvm.ClassFile.FieldType)) ∈ TS := TS_in (List.mem_of_getElem? (i := 401) rfl) rfl
theorem tw_402 : (Jvm.Cond.methodLink "BetweenCounts$WayTable" (50 : Nat) ({ cls := "BetweenCounts$WayTable", name := "nearestLeft", desc := "([I)I" } : Jvm.MethodName)) ∈ TS := TS_in (List.mem_of_getElem? (i := 402) (by decide +kernel)) rfl
theorem tw_404 : (Jvm.Cond.instanceMethod ({ cls := "BetweenCounts$WayTable", name := "nearestLeft", desc := "([I)I" } : Jvm.MethodName)) ∈ TS := TS_in (List.mem_of_getElem? (i := 404) (by decide +kernel)) rfl
set_option maxRecDepth 20000 in
theorem tw_405 : (Jvm.Cond.code ({ cls := "BetweenCounts$WayTable", name := "nearestLeft", desc := "([I)I" } : Jvm.MethodName) prog_8_method_5_code (4 : Nat) (Option.some Jvm.ClassFile.FieldType.int)) ∈ TS := TS_in (List.mem_of_getElem? (i := 405) rfl) rfl
theorem tw_406 : (Jvm.Cond.methodLink "BetweenCounts$WayTable" (67 : Nat) ({ cls := "BetweenCounts$WayTable", name := "goBy", desc := "(I[I[I)V" } : Jvm.MethodName)) ∈ TS := TS_in (List.mem_of_getElem? (i := 406) (by decide +kernel)) rfl
theorem tw_408 : (Jvm.Cond.instanceMethod ({ cls := "BetweenCounts$WayTable", name := "goBy", desc := "(I[I[I)V" } : Jvm.MethodName)) ∈ TS := TS_in (List.mem_of_getElem? (i := 408) (by decide +kernel)) rfl
set_option maxRecDepth 20000 in
theorem tw_409 : (Jvm.Cond.code ({ cls := "BetweenCounts$WayTable", name := "goBy", desc := "(I[I[I)V" } : Jvm.MethodName) prog_8_method_6_code (7 : Nat) (Option.none : Option Jvm.ClassFile.FieldType)) ∈ TS := TS_in (List.mem_of_getElem? (i := 409) rfl) rfl
theorem tw_410 : (Jvm.Cond.methodLink "BetweenCountsLaw" (37 : Nat) ({ cls := "BetweenCounts", name := "ways", desc := "(II)I" } : Jvm.MethodName)) ∈ TS := TS_in (List.mem_of_getElem? (i := 410) (by decide +kernel)) rfl
theorem tw_411 : (Jvm.Cond.instanceMethod ({ cls := "BetweenCounts", name := "ways", desc := "(II)I" } : Jvm.MethodName)) ∈ TS := TS_in (List.mem_of_getElem? (i := 411) (by decide +kernel)) rfl
theorem tw_412 : (Jvm.Cond.selects "BetweenCounts" ({ cls := "BetweenCounts", name := "ways", desc := "(II)I" } : Jvm.MethodName) ({ cls := "BetweenCounts", name := "ways", desc := "(II)I" } : Jvm.MethodName)) ∈ TS := TS_in (List.mem_of_getElem? (i := 412) (by decide +kernel)) rfl
set_option maxRecDepth 20000 in
theorem tw_413 : (Jvm.Cond.code ({ cls := "BetweenCounts", name := "ways", desc := "(II)I" } : Jvm.MethodName) prog_1_method_7_code (3 : Nat) (Option.some Jvm.ClassFile.FieldType.int)) ∈ TS := TS_in (List.mem_of_getElem? (i := 413) rfl) rfl
theorem tw_414 : (Jvm.Cond.methodLink "BetweenCountsLaw" (41 : Nat) ({ cls := "BetweenCounts", name := "stress", desc := "(I)J" } : Jvm.MethodName)) ∈ TS := TS_in (List.mem_of_getElem? (i := 414) (by decide +kernel)) rfl
theorem tw_415 : (Jvm.Cond.instanceMethod ({ cls := "BetweenCounts", name := "stress", desc := "(I)J" } : Jvm.MethodName)) ∈ TS := TS_in (List.mem_of_getElem? (i := 415) (by decide +kernel)) rfl
theorem tw_416 : (Jvm.Cond.selects "BetweenCounts" ({ cls := "BetweenCounts", name := "stress", desc := "(I)J" } : Jvm.MethodName) ({ cls := "BetweenCounts", name := "stress", desc := "(I)J" } : Jvm.MethodName)) ∈ TS := TS_in (List.mem_of_getElem? (i := 416) (by decide +kernel)) rfl
set_option maxRecDepth 20000 in
theorem tw_417 : (Jvm.Cond.code ({ cls := "BetweenCounts", name := "stress", desc := "(I)J" } : Jvm.MethodName) prog_1_method_8_code (6 : Nat) (Option.some Jvm.ClassFile.FieldType.long)) ∈ TS := TS_in (List.mem_of_getElem? (i := 417) rfl) rfl
theorem tw_418 : (Jvm.Cond.constantLong "BetweenCounts" (103 : Nat) (-1 : Int64)) ∈ TS := TS_in (List.mem_of_getElem? (i := 418) (by decide +kernel)) rfl
theorem tw_419 : (Jvm.Cond.methodLink "BetweenCounts" (108 : Nat) ({ cls := "BetweenCounts", name := "isPair", desc := "(II)Z" } : Jvm.MethodName)) ∈ TS := TS_in (List.mem_of_getElem? (i := 419) (by decide +kernel)) rfl
theorem tw_421 : (Jvm.Cond.instanceMethod ({ cls := "BetweenCounts", name := "isPair", desc := "(II)Z" } : Jvm.MethodName)) ∈ TS := TS_in (List.mem_of_getElem? (i := 421) (by decide +kernel)) rfl
set_option maxRecDepth 20000 in
theorem tw_422 : (Jvm.Cond.code ({ cls := "BetweenCounts", name := "isPair", desc := "(II)Z" } : Jvm.MethodName) prog_1_method_22_code (3 : Nat) (Option.some Jvm.ClassFile.FieldType.boolean)) ∈ TS := TS_in (List.mem_of_getElem? (i := 422) rfl) rfl
theorem tw_423 : (Jvm.Cond.methodLink "BetweenCounts" (112 : Nat) ({ cls := "BetweenCounts$WayTable", name := "countThrough", desc := "(III)I" } : Jvm.MethodName)) ∈ TS := TS_in (List.mem_of_getElem? (i := 423) (by decide +kernel)) rfl
theorem tw_424 : (Jvm.Cond.instanceMethod ({ cls := "BetweenCounts$WayTable", name := "countThrough", desc := "(III)I" } : Jvm.MethodName)) ∈ TS := TS_in (List.mem_of_getElem? (i := 424) (by decide +kernel)) rfl
theorem tw_425 : (Jvm.Cond.selects "BetweenCounts$WayTable" ({ cls := "BetweenCounts$WayTable", name := "countThrough", desc := "(III)I" } : Jvm.MethodName) ({ cls := "BetweenCounts$WayTable", name := "countThrough", desc := "(III)I" } : Jvm.MethodName)) ∈ TS := TS_in (List.mem_of_getElem? (i := 425) (by decide +kernel)) rfl
set_option maxRecDepth 20000 in
theorem tw_426 : (Jvm.Cond.code ({ cls := "BetweenCounts$WayTable", name := "countThrough", desc := "(III)I" } : Jvm.MethodName) prog_8_method_7_code (6 : Nat) (Option.some Jvm.ClassFile.FieldType.int)) ∈ TS := TS_in (List.mem_of_getElem? (i := 426) rfl) rfl
theorem tw_427 : (Jvm.Cond.methodLink "BetweenCountsLaw" (46 : Nat) ({ cls := "BetweenCounts", name := "between", desc := "(III)J" } : Jvm.MethodName)) ∈ TS := TS_in (List.mem_of_getElem? (i := 427) (by decide +kernel)) rfl
theorem tw_428 : (Jvm.Cond.instanceMethod ({ cls := "BetweenCounts", name := "between", desc := "(III)J" } : Jvm.MethodName)) ∈ TS := TS_in (List.mem_of_getElem? (i := 428) (by decide +kernel)) rfl
theorem tw_429 : (Jvm.Cond.selects "BetweenCounts" ({ cls := "BetweenCounts", name := "between", desc := "(III)J" } : Jvm.MethodName) ({ cls := "BetweenCounts", name := "between", desc := "(III)J" } : Jvm.MethodName)) ∈ TS := TS_in (List.mem_of_getElem? (i := 429) (by decide +kernel)) rfl
set_option maxRecDepth 20000 in
theorem tw_430 : (Jvm.Cond.code ({ cls := "BetweenCounts", name := "between", desc := "(III)J" } : Jvm.MethodName) prog_1_method_9_code (4 : Nat) (Option.some Jvm.ClassFile.FieldType.long)) ∈ TS := TS_in (List.mem_of_getElem? (i := 430) rfl) rfl
theorem tw_431 : (Jvm.Cond.methodLink "BetweenCounts" (115 : Nat) ({ cls := "BetweenCounts", name := "isPlace", desc := "(II)Z" } : Jvm.MethodName)) ∈ TS := TS_in (List.mem_of_getElem? (i := 431) (by decide +kernel)) rfl
theorem tw_432 : (Jvm.Cond.static ({ cls := "BetweenCounts", name := "isPlace", desc := "(II)Z" } : Jvm.MethodName)) ∈ TS := TS_in (List.mem_of_getElem? (i := 432) (by decide +kernel)) rfl
set_option maxRecDepth 20000 in
theorem tw_433 : (Jvm.Cond.code ({ cls := "BetweenCounts", name := "isPlace", desc := "(II)Z" } : Jvm.MethodName) prog_1_method_20_code (2 : Nat) (Option.some Jvm.ClassFile.FieldType.boolean)) ∈ TS := TS_in (List.mem_of_getElem? (i := 433) rfl) rfl
theorem tw_434 : (Jvm.Cond.methodLink "BetweenCounts" (118 : Nat) ({ cls := "BetweenCounts", name := "needBetween", desc := "(I)V" } : Jvm.MethodName)) ∈ TS := TS_in (List.mem_of_getElem? (i := 434) (by decide +kernel)) rfl
theorem tw_436 : (Jvm.Cond.instanceMethod ({ cls := "BetweenCounts", name := "needBetween", desc := "(I)V" } : Jvm.MethodName)) ∈ TS := TS_in (List.mem_of_getElem? (i := 436) (by decide +kernel)) rfl
set_option maxRecDepth 20000 in
theorem tw_437 : (Jvm.Cond.code ({ cls := "BetweenCounts", name := "needBetween", desc := "(I)V" } : Jvm.MethodName) prog_1_method_25_code (5 : Nat) (Option.none : Option Jvm.ClassFile.FieldType)) ∈ TS := TS_in (List.mem_of_getElem? (i := 437) rfl) rfl
theorem tw_438 : (Jvm.Cond.methodLink "BetweenCounts" (184 : Nat) ({ cls := "BetweenCounts$Fraction", name := "clear", desc := "()V" } : Jvm.MethodName)) ∈ TS := TS_in (List.mem_of_getElem? (i := 438) (by decide +kernel)) rfl
theorem tw_439 : (Jvm.Cond.instanceMethod ({ cls := "BetweenCounts$Fraction", name := "clear", desc := "()V" } : Jvm.MethodName)) ∈ TS := TS_in (List.mem_of_getElem? (i := 439) (by decide +kernel)) rfl
theorem tw_440 : (Jvm.Cond.selects "BetweenCounts$Fraction" ({ cls := "BetweenCounts$Fraction", name := "clear", desc := "()V" } : Jvm.MethodName) ({ cls := "BetweenCounts$Fraction", name := "clear", desc := "()V" } : Jvm.MethodName)) ∈ TS := TS_in (List.mem_of_getElem? (i := 440) (by decide +kernel)) rfl
set_option maxRecDepth 20000 in
theorem tw_441 : (Jvm.Cond.code ({ cls := "BetweenCounts$Fraction", name := "clear", desc := "()V" } : Jvm.MethodName) prog_5_method_2_code (1 : Nat) (Option.none : Option Jvm.ClassFile.FieldType)) ∈ TS := TS_in (List.mem_of_getElem? (i := 441) rfl) rfl
theorem tw_442 : (Jvm.Cond.methodLink "BetweenCounts" (190 : Nat) ({ cls := "BetweenCounts$Fraction", name := "addRatio", desc := "(II)V" } : Jvm.MethodName)) ∈ TS := TS_in (List.mem_of_getElem? (i := 442) (by decide +kernel)) rfl
theorem tw_443 : (Jvm.Cond.instanceMethod ({ cls := "BetweenCounts$Fraction", name := "addRatio", desc := "(II)V" } : Jvm.MethodName)) ∈ TS := TS_in (List.mem_of_getElem? (i := 443) (by decide +kernel)) rfl
theorem tw_444 : (Jvm.Cond.selects "BetweenCounts$Fraction" ({ cls := "BetweenCounts$Fraction", name := "addRatio", desc := "(II)V" } : Jvm.MethodName) ({ cls := "BetweenCounts$Fraction", name := "addRatio", desc := "(II)V" } : Jvm.MethodName)) ∈ TS := TS_in (List.mem_of_getElem? (i := 444) (by decide +kernel)) rfl
set_option maxRecDepth 20000 in
theorem tw_445 : (Jvm.Cond.code ({ cls := "BetweenCounts$Fraction", name := "addRatio", desc := "(II)V" } : Jvm.MethodName) prog_5_method_4_code (7 : Nat) (Option.none : Option Jvm.ClassFile.FieldType)) ∈ TS := TS_in (List.mem_of_getElem? (i := 445) rfl) rfl
theorem tw_446 : (Jvm.Cond.methodLink "BetweenCounts$Fraction" (31 : Nat) ({ cls := "BetweenCounts$Fraction", name := "commonDivisor", desc := "(II)I" } : Jvm.MethodName)) ∈ TS := TS_in (List.mem_of_getElem? (i := 446) (by decide +kernel)) rfl
theorem tw_447 : (Jvm.Cond.static ({ cls := "BetweenCounts$Fraction", name := "commonDivisor", desc := "(II)I" } : Jvm.MethodName)) ∈ TS := TS_in (List.mem_of_getElem? (i := 447) (by decide +kernel)) rfl
set_option maxRecDepth 20000 in
theorem tw_448 : (Jvm.Cond.code ({ cls := "BetweenCounts$Fraction", name := "commonDivisor", desc := "(II)I" } : Jvm.MethodName) prog_5_method_5_code (6 : Nat) (Option.some Jvm.ClassFile.FieldType.int)) ∈ TS := TS_in (List.mem_of_getElem? (i := 448) rfl) rfl
theorem tw_449 : (Jvm.Cond.methodLink "BetweenCounts$Fraction" (50 : Nat) ({ cls := "java/lang/Math", name := "max", desc := "(II)I" } : Jvm.MethodName)) ∈ TS := TS_in (List.mem_of_getElem? (i := 449) (by decide +kernel)) rfl
theorem tw_450 : (Jvm.Cond.methodLink "BetweenCounts$Fraction" (35 : Nat) ({ cls := "BetweenCounts$Big", name := "rest", desc := "(I)I" } : Jvm.MethodName)) ∈ TS := TS_in (List.mem_of_getElem? (i := 450) (by decide +kernel)) rfl
theorem tw_451 : (Jvm.Cond.instanceMethod ({ cls := "BetweenCounts$Big", name := "rest", desc := "(I)I" } : Jvm.MethodName)) ∈ TS := TS_in (List.mem_of_getElem? (i := 451) (by decide +kernel)) rfl
theorem tw_452 : (Jvm.Cond.selects "BetweenCounts$Big" ({ cls := "BetweenCounts$Big", name := "rest", desc := "(I)I" } : Jvm.MethodName) ({ cls := "BetweenCounts$Big", name := "rest", desc := "(I)I" } : Jvm.MethodName)) ∈ TS := TS_in (List.mem_of_getElem? (i := 452) (by decide +kernel)) rfl
set_option maxRecDepth 20000 in
theorem tw_453 : (Jvm.Cond.code ({ cls := "BetweenCounts$Big", name := "rest", desc := "(I)I" } : Jvm.MethodName) prog_2_method_17_code (5 : Nat) (Option.some Jvm.ClassFile.FieldType.int)) ∈ TS := TS_in (List.mem_of_getElem? (i := 453) rfl) rfl
theorem tw_454 : (Jvm.Cond.methodLink "BetweenCounts$Fraction" (39 : Nat) ({ cls := "BetweenCounts$Big", name := "divideSmall", desc := "(J)J" } : Jvm.MethodName)) ∈ TS := TS_in (List.mem_of_getElem? (i := 454) (by decide +kernel)) rfl
theorem tw_455 : (Jvm.Cond.instanceMethod ({ cls := "BetweenCounts$Big", name := "divideSmall", desc := "(J)J" } : Jvm.MethodName)) ∈ TS := TS_in (List.mem_of_getElem? (i := 455) (by decide +kernel)) rfl
theorem tw_456 : (Jvm.Cond.selects "BetweenCounts$Big" ({ cls := "BetweenCounts$Big", name := "divideSmall", desc := "(J)J" } : Jvm.MethodName) ({ cls := "BetweenCounts$Big", name := "divideSmall", desc := "(J)J" } : Jvm.MethodName)) ∈ TS := TS_in (List.mem_of_getElem? (i := 456) (by decide +kernel)) rfl
set_option maxRecDepth 20000 in
theorem tw_457 : (Jvm.Cond.code ({ cls := "BetweenCounts$Big", name := "divideSmall", desc := "(J)J" } : Jvm.MethodName) prog_2_method_16_code (8 : Nat) (Option.some Jvm.ClassFile.FieldType.long)) ∈ TS := TS_in (List.mem_of_getElem? (i := 457) rfl) rfl
end
section
theorem tw_458 : (Jvm.Cond.methodLink "BetweenCounts$Big" (40 : Nat) ({ cls := "BetweenCounts$Big", name := "trim", desc := "()V" } : Jvm.MethodName)) ∈ TS := TS_in (List.mem_of_getElem? (i := 458) (by decide +kernel)) rfl
theorem tw_459 : (Jvm.Cond.instanceMethod ({ cls := "BetweenCounts$Big", name := "trim", desc := "()V" } : Jvm.MethodName)) ∈ TS := TS_in (List.mem_of_getElem? (i := 459) (by decide +kernel)) rfl
theorem tw_460 : (Jvm.Cond.selects "BetweenCounts$Big" ({ cls := "BetweenCounts$Big", name := "trim", desc := "()V" } : Jvm.MethodName) ({ cls := "BetweenCounts$Big", name := "trim", desc := "()V" } : Jvm.MethodName)) ∈ TS := TS_in (List.mem_of_getElem? (i := 460) (by decide +kernel)) rfl
set_option maxRecDepth 20000 in
theorem tw_461 : (Jvm.Cond.code ({ cls := "BetweenCounts$Big", name := "trim", desc := "()V" } : Jvm.MethodName) prog_2_method_8_code (1 : Nat) (Option.none : Option Jvm.ClassFile.FieldType)) ∈ TS := TS_in (List.mem_of_getElem? (i := 461) rfl) rfl
theorem tw_462 : (Jvm.Cond.methodLink "BetweenCounts$Fraction" (43 : Nat) ({ cls := "BetweenCounts$Big", name := "times", desc := "(J)V" } : Jvm.MethodName)) ∈ TS := TS_in (List.mem_of_getElem? (i := 462) (by decide +kernel)) rfl
theorem tw_463 : (Jvm.Cond.instanceMethod ({ cls := "BetweenCounts$Big", name := "times", desc := "(J)V" } : Jvm.MethodName)) ∈ TS := TS_in (List.mem_of_getElem? (i := 463) (by decide +kernel)) rfl
theorem tw_464 : (Jvm.Cond.selects "BetweenCounts$Big" ({ cls := "BetweenCounts$Big", name := "times", desc := "(J)V" } : Jvm.MethodName) ({ cls := "BetweenCounts$Big", name := "times", desc := "(J)V" } : Jvm.MethodName)) ∈ TS := TS_in (List.mem_of_getElem? (i := 464) (by decide +kernel)) rfl
set_option maxRecDepth 20000 in
theorem tw_465 : (Jvm.Cond.code ({ cls := "BetweenCounts$Big", name := "times", desc := "(J)V" } : Jvm.MethodName) prog_2_method_10_code (8 : Nat) (Option.none : Option Jvm.ClassFile.FieldType)) ∈ TS := TS_in (List.mem_of_getElem? (i := 465) rfl) rfl
theorem tw_466 : (Jvm.Cond.constantLong "BetweenCounts$Big" (38 : Nat) (1073741823 : Int64)) ∈ TS := TS_in (List.mem_of_getElem? (i := 466) (by decide +kernel)) rfl
theorem tw_467 : (Jvm.Cond.methodLink "BetweenCounts$Fraction" (46 : Nat) ({ cls := "BetweenCounts$Big", name := "addTimes", desc := "(LBetweenCounts$Big;J)V" } : Jvm.MethodName)) ∈ TS := TS_in (List.mem_of_getElem? (i := 467) (by decide +kernel)) rfl
theorem tw_468 : (Jvm.Cond.instanceMethod ({ cls := "BetweenCounts$Big", name := "addTimes", desc := "(LBetweenCounts$Big;J)V" } : Jvm.MethodName)) ∈ TS := TS_in (List.mem_of_getElem? (i := 468) (by decide +kernel)) rfl
theorem tw_469 : (Jvm.Cond.selects "BetweenCounts$Big" ({ cls := "BetweenCounts$Big", name := "addTimes", desc := "(LBetweenCounts$Big;J)V" } : Jvm.MethodName) ({ cls := "BetweenCounts$Big", name := "addTimes", desc := "(LBetweenCounts$Big;J)V" } : Jvm.MethodName)) ∈ TS := TS_in (List.mem_of_getElem? (i := 469) (by decide +kernel)) rfl
set_option maxRecDepth 20000 in
theorem tw_470 : (Jvm.Cond.code ({ cls := "BetweenCounts$Big", name := "addTimes", desc := "(LBetweenCounts$Big;J)V" } : Jvm.MethodName) prog_2_method_11_code (9 : Nat) (Option.none : Option Jvm.ClassFile.FieldType)) ∈ TS := TS_in (List.mem_of_getElem? (i := 470) rfl) rfl
theorem tw_471 : (Jvm.Cond.methodLink "BetweenCounts$Big" (43 : Nat) ({ cls := "BetweenCounts$Big", name := "pad", desc := "(I)V" } : Jvm.MethodName)) ∈ TS := TS_in (List.mem_of_getElem? (i := 471) (by decide +kernel)) rfl
theorem tw_472 : (Jvm.Cond.instanceMethod ({ cls := "BetweenCounts$Big", name := "pad", desc := "(I)V" } : Jvm.MethodName)) ∈ TS := TS_in (List.mem_of_getElem? (i := 472) (by decide +kernel)) rfl
theorem tw_473 : (Jvm.Cond.selects "BetweenCounts$Big" ({ cls := "BetweenCounts$Big", name := "pad", desc := "(I)V" } : Jvm.MethodName) ({ cls := "BetweenCounts$Big", name := "pad", desc := "(I)V" } : Jvm.MethodName)) ∈ TS := TS_in (List.mem_of_getElem? (i := 473) (by decide +kernel)) rfl
set_option maxRecDepth 20000 in
theorem tw_474 : (Jvm.Cond.code ({ cls := "BetweenCounts$Big", name := "pad", desc := "(I)V" } : Jvm.MethodName) prog_2_method_6_code (4 : Nat) (Option.none : Option Jvm.ClassFile.FieldType)) ∈ TS := TS_in (List.mem_of_getElem? (i := 474) rfl) rfl
theorem tw_475 : (Jvm.Cond.methodLink "BetweenCounts$Big" (29 : Nat) ({ cls := "java/lang/Math", name := "min", desc := "(II)I" } : Jvm.MethodName)) ∈ TS := TS_in (List.mem_of_getElem? (i := 475) (by decide +kernel)) rfl
theorem tw_476 : (Jvm.Cond.static ({ cls := "java/lang/Math", name := "min", desc := "(II)I" } : Jvm.MethodName)) ∈ TS := TS_in (List.mem_of_getElem? (i := 476) (by decide +kernel)) rfl
set_option maxRecDepth 20000 in
theorem tw_477 : (Jvm.Cond.code ({ cls := "java/lang/Math", name := "min", desc := "(II)I" } : Jvm.MethodName) prog_11_method_69_code (2 : Nat) (Option.some Jvm.ClassFile.FieldType.int)) ∈ TS := TS_in (List.mem_of_getElem? (i := 477) rfl) rfl
theorem tw_478 : (Jvm.Cond.methodLink "BetweenCounts$Big" (47 : Nat) ({ cls := "BetweenCounts$Big", name := "carryFrom", desc := "(IJ)V" } : Jvm.MethodName)) ∈ TS := TS_in (List.mem_of_getElem? (i := 478) (by decide +kernel)) rfl
theorem tw_480 : (Jvm.Cond.instanceMethod ({ cls := "BetweenCounts$Big", name := "carryFrom", desc := "(IJ)V" } : Jvm.MethodName)) ∈ TS := TS_in (List.mem_of_getElem? (i := 480) (by decide +kernel)) rfl
set_option maxRecDepth 20000 in
theorem tw_481 : (Jvm.Cond.code ({ cls := "BetweenCounts$Big", name := "carryFrom", desc := "(IJ)V" } : Jvm.MethodName) prog_2_method_14_code (9 : Nat) (Option.none : Option Jvm.ClassFile.FieldType)) ∈ TS := TS_in (List.mem_of_getElem? (i := 481) rfl) rfl
theorem tw_482 : (Jvm.Cond.methodLink "BetweenCounts" (126 : Nat) ({ cls := "BetweenCounts$Fraction", name := "limb", desc := "(II)J" } : Jvm.MethodName)) ∈ TS := TS_in (List.mem_of_getElem? (i := 482) (by decide +kernel)) rfl
theorem tw_483 : (Jvm.Cond.instanceMethod ({ cls := "BetweenCounts$Fraction", name := "limb", desc := "(II)J" } : Jvm.MethodName)) ∈ TS := TS_in (List.mem_of_getElem? (i := 483) (by decide +kernel)) rfl
theorem tw_484 : (Jvm.Cond.selects "BetweenCounts$Fraction" ({ cls := "BetweenCounts$Fraction", name := "limb", desc := "(II)J" } : Jvm.MethodName) ({ cls := "BetweenCounts$Fraction", name := "limb", desc := "(II)J" } : Jvm.MethodName)) ∈ TS := TS_in (List.mem_of_getElem? (i := 484) (by decide +kernel)) rfl
set_option maxRecDepth 20000 in
theorem tw_485 : (Jvm.Cond.code ({ cls := "BetweenCounts$Fraction", name := "limb", desc := "(II)J" } : Jvm.MethodName) prog_5_method_3_code (3 : Nat) (Option.some Jvm.ClassFile.FieldType.long)) ∈ TS := TS_in (List.mem_of_getElem? (i := 485) rfl) rfl
theorem tw_486 : (Jvm.Cond.methodLink "BetweenCounts$Fraction" (27 : Nat) ({ cls := "BetweenCounts$Big", name := "bitsOfLimb", desc := "(I)J" } : Jvm.MethodName)) ∈ TS := TS_in (List.mem_of_getElem? (i := 486) (by decide +kernel)) rfl
theorem tw_487 : (Jvm.Cond.instanceMethod ({ cls := "BetweenCounts$Big", name := "bitsOfLimb", desc := "(I)J" } : Jvm.MethodName)) ∈ TS := TS_in (List.mem_of_getElem? (i := 487) (by decide +kernel)) rfl
theorem tw_488 : (Jvm.Cond.selects "BetweenCounts$Big" ({ cls := "BetweenCounts$Big", name := "bitsOfLimb", desc := "(I)J" } : Jvm.MethodName) ({ cls := "BetweenCounts$Big", name := "bitsOfLimb", desc := "(I)J" } : Jvm.MethodName)) ∈ TS := TS_in (List.mem_of_getElem? (i := 488) (by decide +kernel)) rfl
set_option maxRecDepth 20000 in
theorem tw_489 : (Jvm.Cond.code ({ cls := "BetweenCounts$Big", name := "bitsOfLimb", desc := "(I)J" } : Jvm.MethodName) prog_2_method_18_code (8 : Nat) (Option.some Jvm.ClassFile.FieldType.long)) ∈ TS := TS_in (List.mem_of_getElem? (i := 489) rfl) rfl
theorem tw_490 : (Jvm.Cond.methodLink "BetweenCounts$Big" (55 : Nat) ({ cls := "BetweenCounts$Big", name := "digitAt", desc := "(I)J" } : Jvm.MethodName)) ∈ TS := TS_in (List.mem_of_getElem? (i := 490) (by decide +kernel)) rfl
theorem tw_491 : (Jvm.Cond.instanceMethod ({ cls := "BetweenCounts$Big", name := "digitAt", desc := "(I)J" } : Jvm.MethodName)) ∈ TS := TS_in (List.mem_of_getElem? (i := 491) (by decide +kernel)) rfl
theorem tw_492 : (Jvm.Cond.selects "BetweenCounts$Big" ({ cls := "BetweenCounts$Big", name := "digitAt", desc := "(I)J" } : Jvm.MethodName) ({ cls := "BetweenCounts$Big", name := "digitAt", desc := "(I)J" } : Jvm.MethodName)) ∈ TS := TS_in (List.mem_of_getElem? (i := 492) (by decide +kernel)) rfl
set_option maxRecDepth 20000 in
theorem tw_493 : (Jvm.Cond.code ({ cls := "BetweenCounts$Big", name := "digitAt", desc := "(I)J" } : Jvm.MethodName) prog_2_method_5_code (2 : Nat) (Option.some Jvm.ClassFile.FieldType.long)) ∈ TS := TS_in (List.mem_of_getElem? (i := 493) rfl) rfl
theorem tw_494 : (Jvm.Cond.constantLong "BetweenCounts$Big" (59 : Nat) (4294967295 : Int64)) ∈ TS := TS_in (List.mem_of_getElem? (i := 494) (by decide +kernel)) rfl
theorem tw_495 : (Jvm.Cond.methodLink "BetweenCountsLaw" (51 : Nat) ({ cls := "BetweenCounts", name := "arcBetween", desc := "(III)J" } : Jvm.MethodName)) ∈ TS := TS_in (List.mem_of_getElem? (i := 495) (by decide +kernel)) rfl
theorem tw_496 : (Jvm.Cond.instanceMethod ({ cls := "BetweenCounts", name := "arcBetween", desc := "(III)J" } : Jvm.MethodName)) ∈ TS := TS_in (List.mem_of_getElem? (i := 496) (by decide +kernel)) rfl
theorem tw_497 : (Jvm.Cond.selects "BetweenCounts" ({ cls := "BetweenCounts", name := "arcBetween", desc := "(III)J" } : Jvm.MethodName) ({ cls := "BetweenCounts", name := "arcBetween", desc := "(III)J" } : Jvm.MethodName)) ∈ TS := TS_in (List.mem_of_getElem? (i := 497) (by decide +kernel)) rfl
set_option maxRecDepth 20000 in
theorem tw_498 : (Jvm.Cond.code ({ cls := "BetweenCounts", name := "arcBetween", desc := "(III)J" } : Jvm.MethodName) prog_1_method_10_code (4 : Nat) (Option.some Jvm.ClassFile.FieldType.long)) ∈ TS := TS_in (List.mem_of_getElem? (i := 498) rfl) rfl
theorem tw_499 : (Jvm.Cond.methodLink "BetweenCounts" (130 : Nat) ({ cls := "BetweenCounts", name := "isNewQuestion", desc := "(I)Z" } : Jvm.MethodName)) ∈ TS := TS_in (List.mem_of_getElem? (i := 499) (by decide +kernel)) rfl
theorem tw_501 : (Jvm.Cond.instanceMethod ({ cls := "BetweenCounts", name := "isNewQuestion", desc := "(I)Z" } : Jvm.MethodName)) ∈ TS := TS_in (List.mem_of_getElem? (i := 501) (by decide +kernel)) rfl
set_option maxRecDepth 20000 in
theorem tw_502 : (Jvm.Cond.code ({ cls := "BetweenCounts", name := "isNewQuestion", desc := "(I)Z" } : Jvm.MethodName) prog_1_method_21_code (2 : Nat) (Option.some Jvm.ClassFile.FieldType.boolean)) ∈ TS := TS_in (List.mem_of_getElem? (i := 502) rfl) rfl
theorem tw_503 : (Jvm.Cond.methodLink "BetweenCounts" (133 : Nat) ({ cls := "BetweenCounts", name := "sumArc", desc := "(I)V" } : Jvm.MethodName)) ∈ TS := TS_in (List.mem_of_getElem? (i := 503) (by decide +kernel)) rfl
theorem tw_505 : (Jvm.Cond.instanceMethod ({ cls := "BetweenCounts", name := "sumArc", desc := "(I)V" } : Jvm.MethodName)) ∈ TS := TS_in (List.mem_of_getElem? (i := 505) (by decide +kernel)) rfl
set_option maxRecDepth 20000 in
theorem tw_506 : (Jvm.Cond.code ({ cls := "BetweenCounts", name := "sumArc", desc := "(I)V" } : Jvm.MethodName) prog_1_method_26_code (4 : Nat) (Option.none : Option Jvm.ClassFile.FieldType)) ∈ TS := TS_in (List.mem_of_getElem? (i := 506) rfl) rfl
theorem tw_507 : (Jvm.Cond.methodLink "BetweenCounts" (194 : Nat) ({ cls := "BetweenCounts$WayTable", name := "countBy", desc := "(III)I" } : Jvm.MethodName)) ∈ TS := TS_in (List.mem_of_getElem? (i := 507) (by decide +kernel)) rfl
theorem tw_508 : (Jvm.Cond.instanceMethod ({ cls := "BetweenCounts$WayTable", name := "countBy", desc := "(III)I" } : Jvm.MethodName)) ∈ TS := TS_in (List.mem_of_getElem? (i := 508) (by decide +kernel)) rfl
theorem tw_509 : (Jvm.Cond.selects "BetweenCounts$WayTable" ({ cls := "BetweenCounts$WayTable", name := "countBy", desc := "(III)I" } : Jvm.MethodName) ({ cls := "BetweenCounts$WayTable", name := "countBy", desc := "(III)I" } : Jvm.MethodName)) ∈ TS := TS_in (List.mem_of_getElem? (i := 509) (by decide +kernel)) rfl
set_option maxRecDepth 20000 in
theorem tw_510 : (Jvm.Cond.code ({ cls := "BetweenCounts$WayTable", name := "countBy", desc := "(III)I" } : Jvm.MethodName) prog_8_method_8_code (6 : Nat) (Option.some Jvm.ClassFile.FieldType.int)) ∈ TS := TS_in (List.mem_of_getElem? (i := 510) rfl) rfl
theorem tw_511 : (Jvm.Cond.methodLink "BetweenCountsLaw" (55 : Nat) ({ cls := "BetweenCounts", name := "group", desc := "(II)J" } : Jvm.MethodName)) ∈ TS := TS_in (List.mem_of_getElem? (i := 511) (by decide +kernel)) rfl
theorem tw_512 : (Jvm.Cond.instanceMethod ({ cls := "BetweenCounts", name := "group", desc := "(II)J" } : Jvm.MethodName)) ∈ TS := TS_in (List.mem_of_getElem? (i := 512) (by decide +kernel)) rfl
theorem tw_513 : (Jvm.Cond.selects "BetweenCounts" ({ cls := "BetweenCounts", name := "group", desc := "(II)J" } : Jvm.MethodName) ({ cls := "BetweenCounts", name := "group", desc := "(II)J" } : Jvm.MethodName)) ∈ TS := TS_in (List.mem_of_getElem? (i := 513) (by decide +kernel)) rfl
set_option maxRecDepth 20000 in
theorem tw_514 : (Jvm.Cond.code ({ cls := "BetweenCounts", name := "group", desc := "(II)J" } : Jvm.MethodName) prog_1_method_11_code (3 : Nat) (Option.some Jvm.ClassFile.FieldType.long)) ∈ TS := TS_in (List.mem_of_getElem? (i := 514) rfl) rfl
theorem tw_515 : (Jvm.Cond.methodLink "BetweenCounts" (136 : Nat) ({ cls := "BetweenCounts", name := "sumGroup", desc := "()V" } : Jvm.MethodName)) ∈ TS := TS_in (List.mem_of_getElem? (i := 515) (by decide +kernel)) rfl
theorem tw_517 : (Jvm.Cond.instanceMethod ({ cls := "BetweenCounts", name := "sumGroup", desc := "()V" } : Jvm.MethodName)) ∈ TS := TS_in (List.mem_of_getElem? (i := 517) (by decide +kernel)) rfl
set_option maxRecDepth 20000 in
theorem tw_518 : (Jvm.Cond.code ({ cls := "BetweenCounts", name := "sumGroup", desc := "()V" } : Jvm.MethodName) prog_1_method_27_code (3 : Nat) (Option.none : Option Jvm.ClassFile.FieldType)) ∈ TS := TS_in (List.mem_of_getElem? (i := 518) rfl) rfl
theorem tw_519 : (Jvm.Cond.methodLink "BetweenCounts" (197 : Nat) ({ cls := "BetweenCounts", name := "countAround", desc := "(II)I" } : Jvm.MethodName)) ∈ TS := TS_in (List.mem_of_getElem? (i := 519) (by decide +kernel)) rfl
theorem tw_521 : (Jvm.Cond.instanceMethod ({ cls := "BetweenCounts", name := "countAround", desc := "(II)I" } : Jvm.MethodName)) ∈ TS := TS_in (List.mem_of_getElem? (i := 521) (by decide +kernel)) rfl
set_option maxRecDepth 20000 in
theorem tw_522 : (Jvm.Cond.code ({ cls := "BetweenCounts", name := "countAround", desc := "(II)I" } : Jvm.MethodName) prog_1_method_28_code (3 : Nat) (Option.some Jvm.ClassFile.FieldType.int)) ∈ TS := TS_in (List.mem_of_getElem? (i := 522) rfl) rfl
theorem tw_523 : (Jvm.Cond.methodLink "BetweenCountsLaw" (60 : Nat) ({ cls := "BetweenCounts", name := "harmonic", desc := "(III)J" } : Jvm.MethodName)) ∈ TS := TS_in (List.mem_of_getElem? (i := 523) (by decide +kernel)) rfl
theorem tw_524 : (Jvm.Cond.instanceMethod ({ cls := "BetweenCounts", name := "harmonic", desc := "(III)J" } : Jvm.MethodName)) ∈ TS := TS_in (List.mem_of_getElem? (i := 524) (by decide +kernel)) rfl
theorem tw_525 : (Jvm.Cond.selects "BetweenCounts" ({ cls := "BetweenCounts", name := "harmonic", desc := "(III)J" } : Jvm.MethodName) ({ cls := "BetweenCounts", name := "harmonic", desc := "(III)J" } : Jvm.MethodName)) ∈ TS := TS_in (List.mem_of_getElem? (i := 525) (by decide +kernel)) rfl
set_option maxRecDepth 20000 in
theorem tw_526 : (Jvm.Cond.code ({ cls := "BetweenCounts", name := "harmonic", desc := "(III)J" } : Jvm.MethodName) prog_1_method_12_code (4 : Nat) (Option.some Jvm.ClassFile.FieldType.long)) ∈ TS := TS_in (List.mem_of_getElem? (i := 526) rfl) rfl
theorem tw_527 : (Jvm.Cond.methodLink "BetweenCounts" (139 : Nat) ({ cls := "BetweenCounts", name := "sumHarmonic", desc := "(I)V" } : Jvm.MethodName)) ∈ TS := TS_in (List.mem_of_getElem? (i := 527) (by decide +kernel)) rfl
theorem tw_529 : (Jvm.Cond.instanceMethod ({ cls := "BetweenCounts", name := "sumHarmonic", desc := "(I)V" } : Jvm.MethodName)) ∈ TS := TS_in (List.mem_of_getElem? (i := 529) (by decide +kernel)) rfl
set_option maxRecDepth 20000 in
theorem tw_530 : (Jvm.Cond.code ({ cls := "BetweenCounts", name := "sumHarmonic", desc := "(I)V" } : Jvm.MethodName) prog_1_method_29_code (3 : Nat) (Option.none : Option Jvm.ClassFile.FieldType)) ∈ TS := TS_in (List.mem_of_getElem? (i := 530) rfl) rfl
theorem tw_531 : (Jvm.Cond.methodLink "BetweenCountsLaw" (64 : Nat) ({ cls := "BetweenCounts", name := "close", desc := "(III)J" } : Jvm.MethodName)) ∈ TS := TS_in (List.mem_of_getElem? (i := 531) (by decide +kernel)) rfl
theorem tw_532 : (Jvm.Cond.instanceMethod ({ cls := "BetweenCounts", name := "close", desc := "(III)J" } : Jvm.MethodName)) ∈ TS := TS_in (List.mem_of_getElem? (i := 532) (by decide +kernel)) rfl
theorem tw_533 : (Jvm.Cond.selects "BetweenCounts" ({ cls := "BetweenCounts", name := "close", desc := "(III)J" } : Jvm.MethodName) ({ cls := "BetweenCounts", name := "close", desc := "(III)J" } : Jvm.MethodName)) ∈ TS := TS_in (List.mem_of_getElem? (i := 533) (by decide +kernel)) rfl
set_option maxRecDepth 20000 in
theorem tw_534 : (Jvm.Cond.code ({ cls := "BetweenCounts", name := "close", desc := "(III)J" } : Jvm.MethodName) prog_1_method_13_code (4 : Nat) (Option.some Jvm.ClassFile.FieldType.long)) ∈ TS := TS_in (List.mem_of_getElem? (i := 534) rfl) rfl
theorem tw_535 : (Jvm.Cond.methodLink "BetweenCounts" (142 : Nat) ({ cls := "BetweenCounts", name := "sumClose", desc := "(I)V" } : Jvm.MethodName)) ∈ TS := TS_in (List.mem_of_getElem? (i := 535) (by decide +kernel)) rfl
theorem tw_537 : (Jvm.Cond.instanceMethod ({ cls := "BetweenCounts", name := "sumClose", desc := "(I)V" } : Jvm.MethodName)) ∈ TS := TS_in (List.mem_of_getElem? (i := 537) (by decide +kernel)) rfl
set_option maxRecDepth 20000 in
theorem tw_538 : (Jvm.Cond.code ({ cls := "BetweenCounts", name := "sumClose", desc := "(I)V" } : Jvm.MethodName) prog_1_method_30_code (5 : Nat) (Option.none : Option Jvm.ClassFile.FieldType)) ∈ TS := TS_in (List.mem_of_getElem? (i := 538) rfl) rfl
theorem tw_539 : (Jvm.Cond.methodLink "BetweenCountsLaw" (68 : Nat) ({ cls := "BetweenCounts", name := "top", desc := "(I)I" } : Jvm.MethodName)) ∈ TS := TS_in (List.mem_of_getElem? (i := 539) (by decide +kernel)) rfl
theorem tw_540 : (Jvm.Cond.instanceMethod ({ cls := "BetweenCounts", name := "top", desc := "(I)I" } : Jvm.MethodName)) ∈ TS := TS_in (List.mem_of_getElem? (i := 540) (by decide +kernel)) rfl
theorem tw_541 : (Jvm.Cond.selects "BetweenCounts" ({ cls := "BetweenCounts", name := "top", desc := "(I)I" } : Jvm.MethodName) ({ cls := "BetweenCounts", name := "top", desc := "(I)I" } : Jvm.MethodName)) ∈ TS := TS_in (List.mem_of_getElem? (i := 541) (by decide +kernel)) rfl
set_option maxRecDepth 20000 in
theorem tw_542 : (Jvm.Cond.code ({ cls := "BetweenCounts", name := "top", desc := "(I)I" } : Jvm.MethodName) prog_1_method_14_code (3 : Nat) (Option.some Jvm.ClassFile.FieldType.int)) ∈ TS := TS_in (List.mem_of_getElem? (i := 542) rfl) rfl
theorem tw_543 : (Jvm.Cond.methodLink "BetweenCounts" (145 : Nat) ({ cls := "BetweenCounts$Ranking", name := "nodeAt", desc := "(II)I" } : Jvm.MethodName)) ∈ TS := TS_in (List.mem_of_getElem? (i := 543) (by decide +kernel)) rfl
theorem tw_544 : (Jvm.Cond.instanceMethod ({ cls := "BetweenCounts$Ranking", name := "nodeAt", desc := "(II)I" } : Jvm.MethodName)) ∈ TS := TS_in (List.mem_of_getElem? (i := 544) (by decide +kernel)) rfl
theorem tw_545 : (Jvm.Cond.selects "BetweenCounts$Ranking" ({ cls := "BetweenCounts$Ranking", name := "nodeAt", desc := "(II)I" } : Jvm.MethodName) ({ cls := "BetweenCounts$Ranking", name := "nodeAt", desc := "(II)I" } : Jvm.MethodName)) ∈ TS := TS_in (List.mem_of_getElem? (i := 545) (by decide +kernel)) rfl
set_option maxRecDepth 20000 in
theorem tw_546 : (Jvm.Cond.code ({ cls := "BetweenCounts$Ranking", name := "nodeAt", desc := "(II)I" } : Jvm.MethodName) prog_7_method_3_code (4 : Nat) (Option.some Jvm.ClassFile.FieldType.int)) ∈ TS := TS_in (List.mem_of_getElem? (i := 546) rfl) rfl
theorem tw_547 : (Jvm.Cond.methodLink "BetweenCounts$Ranking" (42 : Nat) ({ cls := "BetweenCounts$Ranking", name := "countAhead", desc := "(I)V" } : Jvm.MethodName)) ∈ TS := TS_in (List.mem_of_getElem? (i := 547) (by decide +kernel)) rfl
theorem tw_549 : (Jvm.Cond.instanceMethod ({ cls := "BetweenCounts$Ranking", name := "countAhead", desc := "(I)V" } : Jvm.MethodName)) ∈ TS := TS_in (List.mem_of_getElem? (i := 549) (by decide +kernel)) rfl
set_option maxRecDepth 20000 in
theorem tw_550 : (Jvm.Cond.code ({ cls := "BetweenCounts$Ranking", name := "countAhead", desc := "(I)V" } : Jvm.MethodName) prog_7_method_4_code (4 : Nat) (Option.none : Option Jvm.ClassFile.FieldType)) ∈ TS := TS_in (List.mem_of_getElem? (i := 550) rfl) rfl
theorem tw_551 : (Jvm.Cond.methodLink "BetweenCounts$Ranking" (45 : Nat) ({ cls := "java/util/Arrays", name := "fill", desc := "([II)V" } : Jvm.MethodName)) ∈ TS := TS_in (List.mem_of_getElem? (i := 551) (by decide +kernel)) rfl
theorem tw_552 : (Jvm.Cond.methodLink "BetweenCounts$Ranking" (51 : Nat) ({ cls := "BetweenCounts$Ranking", name := "isLess", desc := "(LBetweenCounts$Fraction;LBetweenCounts$Fraction;)Z" } : Jvm.MethodName)) ∈ TS := TS_in (List.mem_of_getElem? (i := 552) (by decide +kernel)) rfl
theorem tw_554 : (Jvm.Cond.instanceMethod ({ cls := "BetweenCounts$Ranking", name := "isLess", desc := "(LBetweenCounts$Fraction;LBetweenCounts$Fraction;)Z" } : Jvm.MethodName)) ∈ TS := TS_in (List.mem_of_getElem? (i := 554) (by decide +kernel)) rfl
set_option maxRecDepth 20000 in
theorem tw_555 : (Jvm.Cond.code ({ cls := "BetweenCounts$Ranking", name := "isLess", desc := "(LBetweenCounts$Fraction;LBetweenCounts$Fraction;)Z" } : Jvm.MethodName) prog_7_method_5_code (3 : Nat) (Option.some Jvm.ClassFile.FieldType.boolean)) ∈ TS := TS_in (List.mem_of_getElem? (i := 555) rfl) rfl
theorem tw_556 : (Jvm.Cond.methodLink "BetweenCounts$Ranking" (61 : Nat) ({ cls := "BetweenCounts$Big", name := "setProduct", desc := "(LBetweenCounts$Big;LBetweenCounts$Big;)V" } : Jvm.MethodName)) ∈ TS := TS_in (List.mem_of_getElem? (i := 556) (by decide +kernel)) rfl
theorem tw_557 : (Jvm.Cond.instanceMethod ({ cls := "BetweenCounts$Big", name := "setProduct", desc := "(LBetweenCounts$Big;LBetweenCounts$Big;)V" } : Jvm.MethodName)) ∈ TS := TS_in (List.mem_of_getElem? (i := 557) (by decide +kernel)) rfl
theorem tw_558 : (Jvm.Cond.selects "BetweenCounts$Big" ({ cls := "BetweenCounts$Big", name := "setProduct", desc := "(LBetweenCounts$Big;LBetweenCounts$Big;)V" } : Jvm.MethodName) ({ cls := "BetweenCounts$Big", name := "setProduct", desc := "(LBetweenCounts$Big;LBetweenCounts$Big;)V" } : Jvm.MethodName)) ∈ TS := TS_in (List.mem_of_getElem? (i := 558) (by decide +kernel)) rfl
set_option maxRecDepth 20000 in
theorem tw_559 : (Jvm.Cond.code ({ cls := "BetweenCounts$Big", name := "setProduct", desc := "(LBetweenCounts$Big;LBetweenCounts$Big;)V" } : Jvm.MethodName) prog_2_method_12_code (3 : Nat) (Option.none : Option Jvm.ClassFile.FieldType)) ∈ TS := TS_in (List.mem_of_getElem? (i := 559) rfl) rfl
theorem tw_560 : (Jvm.Cond.methodLink "BetweenCounts$Big" (51 : Nat) ({ cls := "BetweenCounts$Big", name := "addProduct", desc := "(LBetweenCounts$Big;LBetweenCounts$Big;)V" } : Jvm.MethodName)) ∈ TS := TS_in (List.mem_of_getElem? (i := 560) (by decide +kernel)) rfl
theorem tw_561 : (Jvm.Cond.instanceMethod ({ cls := "BetweenCounts$Big", name := "addProduct", desc := "(LBetweenCounts$Big;LBetweenCounts$Big;)V" } : Jvm.MethodName)) ∈ TS := TS_in (List.mem_of_getElem? (i := 561) (by decide +kernel)) rfl
theorem tw_562 : (Jvm.Cond.selects "BetweenCounts$Big" ({ cls := "BetweenCounts$Big", name := "addProduct", desc := "(LBetweenCounts$Big;LBetweenCounts$Big;)V" } : Jvm.MethodName) ({ cls := "BetweenCounts$Big", name := "addProduct", desc := "(LBetweenCounts$Big;LBetweenCounts$Big;)V" } : Jvm.MethodName)) ∈ TS := TS_in (List.mem_of_getElem? (i := 562) (by decide +kernel)) rfl
set_option maxRecDepth 20000 in
theorem tw_563 : (Jvm.Cond.code ({ cls := "BetweenCounts$Big", name := "addProduct", desc := "(LBetweenCounts$Big;LBetweenCounts$Big;)V" } : Jvm.MethodName) prog_2_method_13_code (11 : Nat) (Option.none : Option Jvm.ClassFile.FieldType)) ∈ TS := TS_in (List.mem_of_getElem? (i := 563) rfl) rfl
theorem tw_564 : (Jvm.Cond.methodLink "BetweenCounts$Ranking" (65 : Nat) ({ cls := "BetweenCounts$Big", name := "compareWith", desc := "(LBetweenCounts$Big;)I" } : Jvm.MethodName)) ∈ TS := TS_in (List.mem_of_getElem? (i := 564) (by decide +kernel)) rfl
theorem tw_565 : (Jvm.Cond.instanceMethod ({ cls := "BetweenCounts$Big", name := "compareWith", desc := "(LBetweenCounts$Big;)I" } : Jvm.MethodName)) ∈ TS := TS_in (List.mem_of_getElem? (i := 565) (by decide +kernel)) rfl
theorem tw_566 : (Jvm.Cond.selects "BetweenCounts$Big" ({ cls := "BetweenCounts$Big", name := "compareWith", desc := "(LBetweenCounts$Big;)I" } : Jvm.MethodName) ({ cls := "BetweenCounts$Big", name := "compareWith", desc := "(LBetweenCounts$Big;)I" } : Jvm.MethodName)) ∈ TS := TS_in (List.mem_of_getElem? (i := 566) (by decide +kernel)) rfl
set_option maxRecDepth 20000 in
theorem tw_567 : (Jvm.Cond.code ({ cls := "BetweenCounts$Big", name := "compareWith", desc := "(LBetweenCounts$Big;)I" } : Jvm.MethodName) prog_2_method_9_code (3 : Nat) (Option.some Jvm.ClassFile.FieldType.int)) ∈ TS := TS_in (List.mem_of_getElem? (i := 567) rfl) rfl
theorem tw_568 : (Jvm.Cond.methodLink "BetweenCountsLaw" (73 : Nat) ({ cls := "BetweenCounts", name := "resistance", desc := "(IIII)J" } : Jvm.MethodName)) ∈ TS := TS_in (List.mem_of_getElem? (i := 568) (by decide +kernel)) rfl
theorem tw_569 : (Jvm.Cond.instanceMethod ({ cls := "BetweenCounts", name := "resistance", desc := "(IIII)J" } : Jvm.MethodName)) ∈ TS := TS_in (List.mem_of_getElem? (i := 569) (by decide +kernel)) rfl
theorem tw_570 : (Jvm.Cond.selects "BetweenCounts" ({ cls := "BetweenCounts", name := "resistance", desc := "(IIII)J" } : Jvm.MethodName) ({ cls := "BetweenCounts", name := "resistance", desc := "(IIII)J" } : Jvm.MethodName)) ∈ TS := TS_in (List.mem_of_getElem? (i := 570) (by decide +kernel)) rfl
set_option maxRecDepth 20000 in
theorem tw_571 : (Jvm.Cond.code ({ cls := "BetweenCounts", name := "resistance", desc := "(IIII)J" } : Jvm.MethodName) prog_1_method_15_code (5 : Nat) (Option.some Jvm.ClassFile.FieldType.long)) ∈ TS := TS_in (List.mem_of_getElem? (i := 571) rfl) rfl
theorem tw_572 : (Jvm.Cond.methodLink "BetweenCounts" (149 : Nat) ({ cls := "BetweenCounts$Flow", name := "refresh", desc := "()V" } : Jvm.MethodName)) ∈ TS := TS_in (List.mem_of_getElem? (i := 572) (by decide +kernel)) rfl
theorem tw_573 : (Jvm.Cond.instanceMethod ({ cls := "BetweenCounts$Flow", name := "refresh", desc := "()V" } : Jvm.MethodName)) ∈ TS := TS_in (List.mem_of_getElem? (i := 573) (by decide +kernel)) rfl
theorem tw_574 : (Jvm.Cond.selects "BetweenCounts$Flow" ({ cls := "BetweenCounts$Flow", name := "refresh", desc := "()V" } : Jvm.MethodName) ({ cls := "BetweenCounts$Flow", name := "refresh", desc := "()V" } : Jvm.MethodName)) ∈ TS := TS_in (List.mem_of_getElem? (i := 574) (by decide +kernel)) rfl
set_option maxRecDepth 20000 in
theorem tw_575 : (Jvm.Cond.code ({ cls := "BetweenCounts$Flow", name := "refresh", desc := "()V" } : Jvm.MethodName) prog_4_method_3_code (2 : Nat) (Option.none : Option Jvm.ClassFile.FieldType)) ∈ TS := TS_in (List.mem_of_getElem? (i := 575) rfl) rfl
theorem tw_576 : (Jvm.Cond.methodLink "BetweenCounts$Flow" (66 : Nat) ({ cls := "java/util/Arrays", name := "fill", desc := "([II)V" } : Jvm.MethodName)) ∈ TS := TS_in (List.mem_of_getElem? (i := 576) (by decide +kernel)) rfl
theorem tw_577 : (Jvm.Cond.methodLink "BetweenCounts$Flow" (84 : Nat) ({ cls := "BetweenCounts$Flow", name := "lowerGrounds", desc := "()V" } : Jvm.MethodName)) ∈ TS := TS_in (List.mem_of_getElem? (i := 577) (by decide +kernel)) rfl
theorem tw_579 : (Jvm.Cond.instanceMethod ({ cls := "BetweenCounts$Flow", name := "lowerGrounds", desc := "()V" } : Jvm.MethodName)) ∈ TS := TS_in (List.mem_of_getElem? (i := 579) (by decide +kernel)) rfl
set_option maxRecDepth 20000 in
theorem tw_580 : (Jvm.Cond.code ({ cls := "BetweenCounts$Flow", name := "lowerGrounds", desc := "()V" } : Jvm.MethodName) prog_4_method_4_code (3 : Nat) (Option.none : Option Jvm.ClassFile.FieldType)) ∈ TS := TS_in (List.mem_of_getElem? (i := 580) rfl) rfl
theorem tw_581 : (Jvm.Cond.methodLink "BetweenCounts$Flow" (87 : Nat) ({ cls := "java/lang/Math", name := "min", desc := "(II)I" } : Jvm.MethodName)) ∈ TS := TS_in (List.mem_of_getElem? (i := 581) (by decide +kernel)) rfl
theorem tw_582 : (Jvm.Cond.methodLink "BetweenCounts" (153 : Nat) ({ cls := "BetweenCounts$Flow", name := "settle", desc := "(I)V" } : Jvm.MethodName)) ∈ TS := TS_in (List.mem_of_getElem? (i := 582) (by decide +kernel)) rfl
theorem tw_583 : (Jvm.Cond.instanceMethod ({ cls := "BetweenCounts$Flow", name := "settle", desc := "(I)V" } : Jvm.MethodName)) ∈ TS := TS_in (List.mem_of_getElem? (i := 583) (by decide +kernel)) rfl
theorem tw_584 : (Jvm.Cond.selects "BetweenCounts$Flow" ({ cls := "BetweenCounts$Flow", name := "settle", desc := "(I)V" } : Jvm.MethodName) ({ cls := "BetweenCounts$Flow", name := "settle", desc := "(I)V" } : Jvm.MethodName)) ∈ TS := TS_in (List.mem_of_getElem? (i := 584) (by decide +kernel)) rfl
set_option maxRecDepth 20000 in
theorem tw_585 : (Jvm.Cond.code ({ cls := "BetweenCounts$Flow", name := "settle", desc := "(I)V" } : Jvm.MethodName) prog_4_method_8_code (5 : Nat) (Option.none : Option Jvm.ClassFile.FieldType)) ∈ TS := TS_in (List.mem_of_getElem? (i := 585) rfl) rfl
theorem tw_586 : (Jvm.Cond.methodLink "BetweenCounts$Flow" (93 : Nat) ({ cls := "BetweenCounts$Big", name := "setSmall", desc := "(J)V" } : Jvm.MethodName)) ∈ TS := TS_in (List.mem_of_getElem? (i := 586) (by decide +kernel)) rfl
theorem tw_587 : (Jvm.Cond.methodLink "BetweenCounts$Flow" (97 : Nat) ({ cls := "BetweenCounts$Flow", name := "isInner", desc := "(II)Z" } : Jvm.MethodName)) ∈ TS := TS_in (List.mem_of_getElem? (i := 587) (by decide +kernel)) rfl
theorem tw_589 : (Jvm.Cond.instanceMethod ({ cls := "BetweenCounts$Flow", name := "isInner", desc := "(II)Z" } : Jvm.MethodName)) ∈ TS := TS_in (List.mem_of_getElem? (i := 589) (by decide +kernel)) rfl
set_option maxRecDepth 20000 in
theorem tw_590 : (Jvm.Cond.code ({ cls := "BetweenCounts$Flow", name := "isInner", desc := "(II)Z" } : Jvm.MethodName) prog_4_method_7_code (3 : Nat) (Option.some Jvm.ClassFile.FieldType.boolean)) ∈ TS := TS_in (List.mem_of_getElem? (i := 590) rfl) rfl
theorem tw_591 : (Jvm.Cond.methodLink "BetweenCounts$Flow" (101 : Nat) ({ cls := "BetweenCounts$Flow", name := "entryOf", desc := "(II)LBetweenCounts$Big;" } : Jvm.MethodName)) ∈ TS := TS_in (List.mem_of_getElem? (i := 591) (by decide +kernel)) rfl
theorem tw_593 : (Jvm.Cond.instanceMethod ({ cls := "BetweenCounts$Flow", name := "entryOf", desc := "(II)LBetweenCounts$Big;" } : Jvm.MethodName)) ∈ TS := TS_in (List.mem_of_getElem? (i := 593) (by decide +kernel)) rfl
set_option maxRecDepth 20000 in
theorem tw_594 : (Jvm.Cond.code ({ cls := "BetweenCounts$Flow", name := "entryOf", desc := "(II)LBetweenCounts$Big;" } : Jvm.MethodName) prog_4_method_6_code (3 : Nat) (Option.some (Jvm.ClassFile.FieldType.object "BetweenCounts$Big"))) ∈ TS := TS_in (List.mem_of_getElem? (i := 594) rfl) rfl
theorem tw_595 : (Jvm.Cond.methodLink "BetweenCounts$Flow" (105 : Nat) ({ cls := "BetweenCounts$Flow", name := "startOf", desc := "(II)I" } : Jvm.MethodName)) ∈ TS := TS_in (List.mem_of_getElem? (i := 595) (by decide +kernel)) rfl
theorem tw_597 : (Jvm.Cond.instanceMethod ({ cls := "BetweenCounts$Flow", name := "startOf", desc := "(II)I" } : Jvm.MethodName)) ∈ TS := TS_in (List.mem_of_getElem? (i := 597) (by decide +kernel)) rfl
set_option maxRecDepth 20000 in
theorem tw_598 : (Jvm.Cond.code ({ cls := "BetweenCounts$Flow", name := "startOf", desc := "(II)I" } : Jvm.MethodName) prog_4_method_9_code (5 : Nat) (Option.some Jvm.ClassFile.FieldType.int)) ∈ TS := TS_in (List.mem_of_getElem? (i := 598) rfl) rfl
theorem tw_599 : (Jvm.Cond.methodLink "BetweenCounts$Flow" (108 : Nat) ({ cls := "BetweenCounts$Flow", name := "sweep", desc := "(II)V" } : Jvm.MethodName)) ∈ TS := TS_in (List.mem_of_getElem? (i := 599) (by decide +kernel)) rfl
theorem tw_601 : (Jvm.Cond.instanceMethod ({ cls := "BetweenCounts$Flow", name := "sweep", desc := "(II)V" } : Jvm.MethodName)) ∈ TS := TS_in (List.mem_of_getElem? (i := 601) (by decide +kernel)) rfl
set_option maxRecDepth 20000 in
theorem tw_602 : (Jvm.Cond.code ({ cls := "BetweenCounts$Flow", name := "sweep", desc := "(II)V" } : Jvm.MethodName) prog_4_method_10_code (5 : Nat) (Option.none : Option Jvm.ClassFile.FieldType)) ∈ TS := TS_in (List.mem_of_getElem? (i := 602) rfl) rfl
theorem tw_603 : (Jvm.Cond.methodLink "BetweenCounts$Flow" (112 : Nat) ({ cls := "BetweenCounts$Big", name := "set", desc := "(LBetweenCounts$Big;)V" } : Jvm.MethodName)) ∈ TS := TS_in (List.mem_of_getElem? (i := 603) (by decide +kernel)) rfl
theorem tw_604 : (Jvm.Cond.instanceMethod ({ cls := "BetweenCounts$Big", name := "set", desc := "(LBetweenCounts$Big;)V" } : Jvm.MethodName)) ∈ TS := TS_in (List.mem_of_getElem? (i := 604) (by decide +kernel)) rfl
theorem tw_605 : (Jvm.Cond.selects "BetweenCounts$Big" ({ cls := "BetweenCounts$Big", name := "set", desc := "(LBetweenCounts$Big;)V" } : Jvm.MethodName) ({ cls := "BetweenCounts$Big", name := "set", desc := "(LBetweenCounts$Big;)V" } : Jvm.MethodName)) ∈ TS := TS_in (List.mem_of_getElem? (i := 605) (by decide +kernel)) rfl
set_option maxRecDepth 20000 in
theorem tw_606 : (Jvm.Cond.code ({ cls := "BetweenCounts$Big", name := "set", desc := "(LBetweenCounts$Big;)V" } : Jvm.MethodName) prog_2_method_3_code (2 : Nat) (Option.none : Option Jvm.ClassFile.FieldType)) ∈ TS := TS_in (List.mem_of_getElem? (i := 606) rfl) rfl
theorem tw_607 : (Jvm.Cond.methodLink "BetweenCounts$Big" (32 : Nat) ({ cls := "java/lang/System", name := "arraycopy", desc := "(Ljava/lang/Object;ILjava/lang/Object;II)V" } : Jvm.MethodName)) ∈ TS := TS_in (List.mem_of_getElem? (i := 607) (by decide +kernel)) rfl
theorem tw_608 : (Jvm.Cond.static ({ cls := "java/lang/System", name := "arraycopy", desc := "(Ljava/lang/Object;ILjava/lang/Object;II)V" } : Jvm.MethodName)) ∈ TS := TS_in (List.mem_of_getElem? (i := 608) (by decide +kernel)) rfl
theorem tw_609 : (Jvm.Cond.native ({ cls := "java/lang/System", name := "arraycopy", desc := "(Ljava/lang/Object;ILjava/lang/Object;II)V" } : Jvm.MethodName)) ∈ TS := TS_in (List.mem_of_getElem? (i := 609) (by decide +kernel)) rfl
theorem tw_610 : (Jvm.Cond.methodLink "BetweenCounts$Flow" (116 : Nat) ({ cls := "BetweenCounts$Flow", name := "sweepEntry", desc := "(III)V" } : Jvm.MethodName)) ∈ TS := TS_in (List.mem_of_getElem? (i := 610) (by decide +kernel)) rfl
theorem tw_612 : (Jvm.Cond.instanceMethod ({ cls := "BetweenCounts$Flow", name := "sweepEntry", desc := "(III)V" } : Jvm.MethodName)) ∈ TS := TS_in (List.mem_of_getElem? (i := 612) (by decide +kernel)) rfl
set_option maxRecDepth 20000 in
theorem tw_613 : (Jvm.Cond.code ({ cls := "BetweenCounts$Flow", name := "sweepEntry", desc := "(III)V" } : Jvm.MethodName) prog_4_method_11_code (5 : Nat) (Option.none : Option Jvm.ClassFile.FieldType)) ∈ TS := TS_in (List.mem_of_getElem? (i := 613) rfl) rfl
theorem tw_614 : (Jvm.Cond.methodLink "BetweenCounts$Flow" (120 : Nat) ({ cls := "BetweenCounts$Big", name := "setProduct", desc := "(LBetweenCounts$Big;LBetweenCounts$Big;)V" } : Jvm.MethodName)) ∈ TS := TS_in (List.mem_of_getElem? (i := 614) (by decide +kernel)) rfl
theorem tw_615 : (Jvm.Cond.methodLink "BetweenCounts$Flow" (124 : Nat) ({ cls := "BetweenCounts$Big", name := "subtract", desc := "(LBetweenCounts$Big;)V" } : Jvm.MethodName)) ∈ TS := TS_in (List.mem_of_getElem? (i := 615) (by decide +kernel)) rfl
theorem tw_616 : (Jvm.Cond.instanceMethod ({ cls := "BetweenCounts$Big", name := "subtract", desc := "(LBetweenCounts$Big;)V" } : Jvm.MethodName)) ∈ TS := TS_in (List.mem_of_getElem? (i := 616) (by decide +kernel)) rfl
theorem tw_617 : (Jvm.Cond.selects "BetweenCounts$Big" ({ cls := "BetweenCounts$Big", name := "subtract", desc := "(LBetweenCounts$Big;)V" } : Jvm.MethodName) ({ cls := "BetweenCounts$Big", name := "subtract", desc := "(LBetweenCounts$Big;)V" } : Jvm.MethodName)) ∈ TS := TS_in (List.mem_of_getElem? (i := 617) (by decide +kernel)) rfl
set_option maxRecDepth 20000 in
theorem tw_618 : (Jvm.Cond.code ({ cls := "BetweenCounts$Big", name := "subtract", desc := "(LBetweenCounts$Big;)V" } : Jvm.MethodName) prog_2_method_15_code (7 : Nat) (Option.none : Option Jvm.ClassFile.FieldType)) ∈ TS := TS_in (List.mem_of_getElem? (i := 618) rfl) rfl
theorem tw_619 : (Jvm.Cond.methodLink "BetweenCounts$Flow" (127 : Nat) ({ cls := "BetweenCounts$Big", name := "addProduct", desc := "(LBetweenCounts$Big;LBetweenCounts$Big;)V" } : Jvm.MethodName)) ∈ TS := TS_in (List.mem_of_getElem? (i := 619) (by decide +kernel)) rfl
theorem tw_620 : (Jvm.Cond.methodLink "BetweenCounts$Flow" (130 : Nat) ({ cls := "BetweenCounts$Divider", name := "divide", desc := "(LBetweenCounts$Big;LBetweenCounts$Big;)V" } : Jvm.MethodName)) ∈ TS := TS_in (List.mem_of_getElem? (i := 620) (by decide +kernel)) rfl
theorem tw_621 : (Jvm.Cond.instanceMethod ({ cls := "BetweenCounts$Divider", name := "divide", desc := "(LBetweenCounts$Big;LBetweenCounts$Big;)V" } : Jvm.MethodName)) ∈ TS := TS_in (List.mem_of_getElem? (i := 621) (by decide +kernel)) rfl
theorem tw_622 : (Jvm.Cond.selects "BetweenCounts$Divider" ({ cls := "BetweenCounts$Divider", name := "divide", desc := "(LBetweenCounts$Big;LBetweenCounts$Big;)V" } : Jvm.MethodName) ({ cls := "BetweenCounts$Divider", name := "divide", desc := "(LBetweenCounts$Big;LBetweenCounts$Big;)V" } : Jvm.MethodName)) ∈ TS := TS_in (List.mem_of_getElem? (i := 622) (by decide +kernel)) rfl
set_option maxRecDepth 20000 in
theorem tw_623 : (Jvm.Cond.code ({ cls := "BetweenCounts$Divider", name := "divide", desc := "(LBetweenCounts$Big;LBetweenCounts$Big;)V" } : Jvm.MethodName) prog_3_method_2_code (7 : Nat) (Option.none : Option Jvm.ClassFile.FieldType)) ∈ TS := TS_in (List.mem_of_getElem? (i := 623) rfl) rfl
theorem tw_624 : (Jvm.Cond.methodLink "BetweenCounts$Divider" (29 : Nat) ({ cls := "BetweenCounts$Big", name := "setSmall", desc := "(J)V" } : Jvm.MethodName)) ∈ TS := TS_in (List.mem_of_getElem? (i := 624) (by decide +kernel)) rfl
theorem tw_625 : (Jvm.Cond.methodLink "BetweenCounts$Divider" (37 : Nat) ({ cls := "BetweenCounts$Big", name := "compareWith", desc := "(LBetweenCounts$Big;)I" } : Jvm.MethodName)) ∈ TS := TS_in (List.mem_of_getElem? (i := 625) (by decide +kernel)) rfl
theorem tw_626 : (Jvm.Cond.methodLink "BetweenCounts$Divider" (41 : Nat) ({ cls := "BetweenCounts$Big", name := "set", desc := "(LBetweenCounts$Big;)V" } : Jvm.MethodName)) ∈ TS := TS_in (List.mem_of_getElem? (i := 626) (by decide +kernel)) rfl
theorem tw_627 : (Jvm.Cond.methodLink "BetweenCounts$Divider" (49 : Nat) ({ cls := "BetweenCounts$Big", name := "divideSmall", desc := "(J)J" } : Jvm.MethodName)) ∈ TS := TS_in (List.mem_of_getElem? (i := 627) (by decide +kernel)) rfl
theorem tw_628 : (Jvm.Cond.constantLong "BetweenCounts$Divider" (53 : Nat) (1073741824 : Int64)) ∈ TS := TS_in (List.mem_of_getElem? (i := 628) (by decide +kernel)) rfl
theorem tw_629 : (Jvm.Cond.methodLink "BetweenCounts$Divider" (55 : Nat) ({ cls := "BetweenCounts$Big", name := "times", desc := "(J)V" } : Jvm.MethodName)) ∈ TS := TS_in (List.mem_of_getElem? (i := 629) (by decide +kernel)) rfl
theorem tw_630 : (Jvm.Cond.methodLink "BetweenCounts$Divider" (58 : Nat) ({ cls := "BetweenCounts$Big", name := "pad", desc := "(I)V" } : Jvm.MethodName)) ∈ TS := TS_in (List.mem_of_getElem? (i := 630) (by decide +kernel)) rfl
theorem tw_631 : (Jvm.Cond.methodLink "BetweenCounts$Divider" (61 : Nat) ({ cls := "BetweenCounts$Divider", name := "takeDigit", desc := "(LBetweenCounts$Big;I)J" } : Jvm.MethodName)) ∈ TS := TS_in (List.mem_of_getElem? (i := 631) (by decide +kernel)) rfl
theorem tw_633 : (Jvm.Cond.instanceMethod ({ cls := "BetweenCounts$Divider", name := "takeDigit", desc := "(LBetweenCounts$Big;I)J" } : Jvm.MethodName)) ∈ TS := TS_in (List.mem_of_getElem? (i := 633) (by decide +kernel)) rfl
set_option maxRecDepth 20000 in
theorem tw_634 : (Jvm.Cond.code ({ cls := "BetweenCounts$Divider", name := "takeDigit", desc := "(LBetweenCounts$Big;I)J" } : Jvm.MethodName) prog_3_method_3_code (7 : Nat) (Option.some Jvm.ClassFile.FieldType.long)) ∈ TS := TS_in (List.mem_of_getElem? (i := 634) rfl) rfl
theorem tw_635 : (Jvm.Cond.methodLink "BetweenCounts$Divider" (68 : Nat) ({ cls := "BetweenCounts$Big", name := "digitAt", desc := "(I)J" } : Jvm.MethodName)) ∈ TS := TS_in (List.mem_of_getElem? (i := 635) (by decide +kernel)) rfl
theorem tw_636 : (Jvm.Cond.methodLink "BetweenCounts$Divider" (72 : Nat) ({ cls := "BetweenCounts$Divider", name := "guess", desc := "(LBetweenCounts$Big;I)J" } : Jvm.MethodName)) ∈ TS := TS_in (List.mem_of_getElem? (i := 636) (by decide +kernel)) rfl
theorem tw_638 : (Jvm.Cond.instanceMethod ({ cls := "BetweenCounts$Divider", name := "guess", desc := "(LBetweenCounts$Big;I)J" } : Jvm.MethodName)) ∈ TS := TS_in (List.mem_of_getElem? (i := 638) (by decide +kernel)) rfl
set_option maxRecDepth 20000 in
theorem tw_639 : (Jvm.Cond.code ({ cls := "BetweenCounts$Divider", name := "guess", desc := "(LBetweenCounts$Big;I)J" } : Jvm.MethodName) prog_3_method_4_code (17 : Nat) (Option.some Jvm.ClassFile.FieldType.long)) ∈ TS := TS_in (List.mem_of_getElem? (i := 639) rfl) rfl
theorem tw_640 : (Jvm.Cond.methodLink "BetweenCounts$Divider" (75 : Nat) ({ cls := "BetweenCounts$Divider", name := "takeAway", desc := "(LBetweenCounts$Big;IJ)J" } : Jvm.MethodName)) ∈ TS := TS_in (List.mem_of_getElem? (i := 640) (by decide +kernel)) rfl
theorem tw_642 : (Jvm.Cond.instanceMethod ({ cls := "BetweenCounts$Divider", name := "takeAway", desc := "(LBetweenCounts$Big;IJ)J" } : Jvm.MethodName)) ∈ TS := TS_in (List.mem_of_getElem? (i := 642) (by decide +kernel)) rfl
set_option maxRecDepth 20000 in
theorem tw_643 : (Jvm.Cond.code ({ cls := "BetweenCounts$Divider", name := "takeAway", desc := "(LBetweenCounts$Big;IJ)J" } : Jvm.MethodName) prog_3_method_5_code (10 : Nat) (Option.some Jvm.ClassFile.FieldType.long)) ∈ TS := TS_in (List.mem_of_getElem? (i := 643) rfl) rfl
theorem tw_644 : (Jvm.Cond.constantLong "BetweenCounts$Divider" (86 : Nat) (1073741823 : Int64)) ∈ TS := TS_in (List.mem_of_getElem? (i := 644) (by decide +kernel)) rfl
theorem tw_645 : (Jvm.Cond.methodLink "BetweenCounts$Divider" (79 : Nat) ({ cls := "BetweenCounts$Divider", name := "putBack", desc := "(LBetweenCounts$Big;I)V" } : Jvm.MethodName)) ∈ TS := TS_in (List.mem_of_getElem? (i := 645) (by decide +kernel)) rfl
theorem tw_647 : (Jvm.Cond.instanceMethod ({ cls := "BetweenCounts$Divider", name := "putBack", desc := "(LBetweenCounts$Big;I)V" } : Jvm.MethodName)) ∈ TS := TS_in (List.mem_of_getElem? (i := 647) (by decide +kernel)) rfl
set_option maxRecDepth 20000 in
theorem tw_648 : (Jvm.Cond.code ({ cls := "BetweenCounts$Divider", name := "putBack", desc := "(LBetweenCounts$Big;I)V" } : Jvm.MethodName) prog_3_method_6_code (8 : Nat) (Option.none : Option Jvm.ClassFile.FieldType)) ∈ TS := TS_in (List.mem_of_getElem? (i := 648) rfl) rfl
theorem tw_649 : (Jvm.Cond.methodLink "BetweenCounts$Divider" (83 : Nat) ({ cls := "BetweenCounts$Big", name := "cutAt", desc := "(I)V" } : Jvm.MethodName)) ∈ TS := TS_in (List.mem_of_getElem? (i := 649) (by decide +kernel)) rfl
theorem tw_650 : (Jvm.Cond.instanceMethod ({ cls := "BetweenCounts$Big", name := "cutAt", desc := "(I)V" } : Jvm.MethodName)) ∈ TS := TS_in (List.mem_of_getElem? (i := 650) (by decide +kernel)) rfl
theorem tw_651 : (Jvm.Cond.selects "BetweenCounts$Big" ({ cls := "BetweenCounts$Big", name := "cutAt", desc := "(I)V" } : Jvm.MethodName) ({ cls := "BetweenCounts$Big", name := "cutAt", desc := "(I)V" } : Jvm.MethodName)) ∈ TS := TS_in (List.mem_of_getElem? (i := 651) (by decide +kernel)) rfl
set_option maxRecDepth 20000 in
theorem tw_652 : (Jvm.Cond.code ({ cls := "BetweenCounts$Big", name := "cutAt", desc := "(I)V" } : Jvm.MethodName) prog_2_method_7_code (2 : Nat) (Option.none : Option Jvm.ClassFile.FieldType)) ∈ TS := TS_in (List.mem_of_getElem? (i := 652) rfl) rfl
theorem tw_653 : (Jvm.Cond.methodLink "BetweenCounts$Divider" (65 : Nat) ({ cls := "BetweenCounts$Big", name := "trim", desc := "()V" } : Jvm.MethodName)) ∈ TS := TS_in (List.mem_of_getElem? (i := 653) (by decide +kernel)) rfl
theorem tw_654 : (Jvm.Cond.methodLink "BetweenCounts" (156 : Nat) ({ cls := "BetweenCounts$Flow", name := "tellResistance", desc := "(IILBetweenCounts$Fraction;)V" } : Jvm.MethodName)) ∈ TS := TS_in (List.mem_of_getElem? (i := 654) (by decide +kernel)) rfl
theorem tw_655 : (Jvm.Cond.instanceMethod ({ cls := "BetweenCounts$Flow", name := "tellResistance", desc := "(IILBetweenCounts$Fraction;)V" } : Jvm.MethodName)) ∈ TS := TS_in (List.mem_of_getElem? (i := 655) (by decide +kernel)) rfl
theorem tw_656 : (Jvm.Cond.selects "BetweenCounts$Flow" ({ cls := "BetweenCounts$Flow", name := "tellResistance", desc := "(IILBetweenCounts$Fraction;)V" } : Jvm.MethodName) ({ cls := "BetweenCounts$Flow", name := "tellResistance", desc := "(IILBetweenCounts$Fraction;)V" } : Jvm.MethodName)) ∈ TS := TS_in (List.mem_of_getElem? (i := 656) (by decide +kernel)) rfl
set_option maxRecDepth 20000 in
theorem tw_657 : (Jvm.Cond.code ({ cls := "BetweenCounts$Flow", name := "tellResistance", desc := "(IILBetweenCounts$Fraction;)V" } : Jvm.MethodName) prog_4_method_12_code (4 : Nat) (Option.none : Option Jvm.ClassFile.FieldType)) ∈ TS := TS_in (List.mem_of_getElem? (i := 657) rfl) rfl
theorem tw_658 : (Jvm.Cond.constantLong "BetweenCounts$Flow" (136 : Nat) (2 : Int64)) ∈ TS := TS_in (List.mem_of_getElem? (i := 658) (by decide +kernel)) rfl
theorem tw_659 : (Jvm.Cond.methodLink "BetweenCounts$Flow" (138 : Nat) ({ cls := "BetweenCounts$Big", name := "times", desc := "(J)V" } : Jvm.MethodName)) ∈ TS := TS_in (List.mem_of_getElem? (i := 659) (by decide +kernel)) rfl
theorem tw_660 : (Jvm.Cond.methodLink "BetweenCounts$Flow" (146 : Nat) ({ cls := "BetweenCounts$Big", name := "addTimes", desc := "(LBetweenCounts$Big;J)V" } : Jvm.MethodName)) ∈ TS := TS_in (List.mem_of_getElem? (i := 660) (by decide +kernel)) rfl
theorem tw_661 : (Jvm.Cond.methodLink "BetweenCounts$Flow" (153 : Nat) ({ cls := "BetweenCounts$Divider", name := "reduce", desc := "(LBetweenCounts$Fraction;)V" } : Jvm.MethodName)) ∈ TS := TS_in (List.mem_of_getElem? (i := 661) (by decide +kernel)) rfl
theorem tw_662 : (Jvm.Cond.instanceMethod ({ cls := "BetweenCounts$Divider", name := "reduce", desc := "(LBetweenCounts$Fraction;)V" } : Jvm.MethodName)) ∈ TS := TS_in (List.mem_of_getElem? (i := 662) (by decide +kernel)) rfl
theorem tw_663 : (Jvm.Cond.selects "BetweenCounts$Divider" ({ cls := "BetweenCounts$Divider", name := "reduce", desc := "(LBetweenCounts$Fraction;)V" } : Jvm.MethodName) ({ cls := "BetweenCounts$Divider", name := "reduce", desc := "(LBetweenCounts$Fraction;)V" } : Jvm.MethodName)) ∈ TS := TS_in (List.mem_of_getElem? (i := 663) (by decide +kernel)) rfl
set_option maxRecDepth 20000 in
theorem tw_664 : (Jvm.Cond.code ({ cls := "BetweenCounts$Divider", name := "reduce", desc := "(LBetweenCounts$Fraction;)V" } : Jvm.MethodName) prog_3_method_7_code (6 : Nat) (Option.none : Option Jvm.ClassFile.FieldType)) ∈ TS := TS_in (List.mem_of_getElem? (i := 664) rfl) rfl
theorem tw_665 : (Jvm.Cond.methodLink "BetweenCounts$Divider" (96 : Nat) ({ cls := "BetweenCounts$Divider", name := "divide", desc := "(LBetweenCounts$Big;LBetweenCounts$Big;)V" } : Jvm.MethodName)) ∈ TS := TS_in (List.mem_of_getElem? (i := 665) (by decide +kernel)) rfl
theorem tw_666 : (Jvm.Cond.methodLink "BetweenCountsLaw" (78 : Nat) ({ cls := "BetweenCounts", name := "carried", desc := "(III)J" } : Jvm.MethodName)) ∈ TS := TS_in (List.mem_of_getElem? (i := 666) (by decide +kernel)) rfl
theorem tw_667 : (Jvm.Cond.instanceMethod ({ cls := "BetweenCounts", name := "carried", desc := "(III)J" } : Jvm.MethodName)) ∈ TS := TS_in (List.mem_of_getElem? (i := 667) (by decide +kernel)) rfl
theorem tw_668 : (Jvm.Cond.selects "BetweenCounts" ({ cls := "BetweenCounts", name := "carried", desc := "(III)J" } : Jvm.MethodName) ({ cls := "BetweenCounts", name := "carried", desc := "(III)J" } : Jvm.MethodName)) ∈ TS := TS_in (List.mem_of_getElem? (i := 668) (by decide +kernel)) rfl
set_option maxRecDepth 20000 in
theorem tw_669 : (Jvm.Cond.code ({ cls := "BetweenCounts", name := "carried", desc := "(III)J" } : Jvm.MethodName) prog_1_method_16_code (4 : Nat) (Option.some Jvm.ClassFile.FieldType.long)) ∈ TS := TS_in (List.mem_of_getElem? (i := 669) rfl) rfl
theorem tw_670 : (Jvm.Cond.methodLink "BetweenCounts" (160 : Nat) ({ cls := "BetweenCounts$Flow", name := "tellCarried", desc := "(ILBetweenCounts$Fraction;)V" } : Jvm.MethodName)) ∈ TS := TS_in (List.mem_of_getElem? (i := 670) (by decide +kernel)) rfl
theorem tw_671 : (Jvm.Cond.instanceMethod ({ cls := "BetweenCounts$Flow", name := "tellCarried", desc := "(ILBetweenCounts$Fraction;)V" } : Jvm.MethodName)) ∈ TS := TS_in (List.mem_of_getElem? (i := 671) (by decide +kernel)) rfl
theorem tw_672 : (Jvm.Cond.selects "BetweenCounts$Flow" ({ cls := "BetweenCounts$Flow", name := "tellCarried", desc := "(ILBetweenCounts$Fraction;)V" } : Jvm.MethodName) ({ cls := "BetweenCounts$Flow", name := "tellCarried", desc := "(ILBetweenCounts$Fraction;)V" } : Jvm.MethodName)) ∈ TS := TS_in (List.mem_of_getElem? (i := 672) (by decide +kernel)) rfl
set_option maxRecDepth 20000 in
theorem tw_673 : (Jvm.Cond.code ({ cls := "BetweenCounts$Flow", name := "tellCarried", desc := "(ILBetweenCounts$Fraction;)V" } : Jvm.MethodName) prog_4_method_13_code (5 : Nat) (Option.none : Option Jvm.ClassFile.FieldType)) ∈ TS := TS_in (List.mem_of_getElem? (i := 673) rfl) rfl
theorem tw_674 : (Jvm.Cond.methodLink "BetweenCounts$Flow" (157 : Nat) ({ cls := "BetweenCounts$Flow", name := "isOther", desc := "(II)Z" } : Jvm.MethodName)) ∈ TS := TS_in (List.mem_of_getElem? (i := 674) (by decide +kernel)) rfl
theorem tw_676 : (Jvm.Cond.instanceMethod ({ cls := "BetweenCounts$Flow", name := "isOther", desc := "(II)Z" } : Jvm.MethodName)) ∈ TS := TS_in (List.mem_of_getElem? (i := 676) (by decide +kernel)) rfl
set_option maxRecDepth 20000 in
theorem tw_677 : (Jvm.Cond.code ({ cls := "BetweenCounts$Flow", name := "isOther", desc := "(II)Z" } : Jvm.MethodName) prog_4_method_14_code (3 : Nat) (Option.some Jvm.ClassFile.FieldType.boolean)) ∈ TS := TS_in (List.mem_of_getElem? (i := 677) rfl) rfl
theorem tw_678 : (Jvm.Cond.methodLink "BetweenCounts$Flow" (160 : Nat) ({ cls := "BetweenCounts$Flow", name := "addFlows", desc := "(IIILBetweenCounts$Big;)V" } : Jvm.MethodName)) ∈ TS := TS_in (List.mem_of_getElem? (i := 678) (by decide +kernel)) rfl
theorem tw_680 : (Jvm.Cond.instanceMethod ({ cls := "BetweenCounts$Flow", name := "addFlows", desc := "(IIILBetweenCounts$Big;)V" } : Jvm.MethodName)) ∈ TS := TS_in (List.mem_of_getElem? (i := 680) (by decide +kernel)) rfl
set_option maxRecDepth 20000 in
theorem tw_681 : (Jvm.Cond.code ({ cls := "BetweenCounts$Flow", name := "addFlows", desc := "(IIILBetweenCounts$Big;)V" } : Jvm.MethodName) prog_4_method_15_code (6 : Nat) (Option.none : Option Jvm.ClassFile.FieldType)) ∈ TS := TS_in (List.mem_of_getElem? (i := 681) rfl) rfl
theorem tw_682 : (Jvm.Cond.methodLink "BetweenCounts$Flow" (164 : Nat) ({ cls := "BetweenCounts$Flow", name := "dropOf", desc := "(IIII)LBetweenCounts$Big;" } : Jvm.MethodName)) ∈ TS := TS_in (List.mem_of_getElem? (i := 682) (by decide +kernel)) rfl
theorem tw_684 : (Jvm.Cond.instanceMethod ({ cls := "BetweenCounts$Flow", name := "dropOf", desc := "(IIII)LBetweenCounts$Big;" } : Jvm.MethodName)) ∈ TS := TS_in (List.mem_of_getElem? (i := 684) (by decide +kernel)) rfl
set_option maxRecDepth 20000 in
theorem tw_685 : (Jvm.Cond.code ({ cls := "BetweenCounts$Flow", name := "dropOf", desc := "(IIII)LBetweenCounts$Big;" } : Jvm.MethodName) prog_4_method_16_code (5 : Nat) (Option.some (Jvm.ClassFile.FieldType.object "BetweenCounts$Big"))) ∈ TS := TS_in (List.mem_of_getElem? (i := 685) rfl) rfl
theorem tw_686 : (Jvm.Cond.methodLink "BetweenCounts$Flow" (168 : Nat) ({ cls := "BetweenCounts$Big", name := "compareWith", desc := "(LBetweenCounts$Big;)I" } : Jvm.MethodName)) ∈ TS := TS_in (List.mem_of_getElem? (i := 686) (by decide +kernel)) rfl
theorem tw_687 : (Jvm.Cond.methodLink "BetweenCountsLaw" (82 : Nat) ({ cls := "BetweenCounts", name := "told", desc := "(I)I" } : Jvm.MethodName)) ∈ TS := TS_in (List.mem_of_getElem? (i := 687) (by decide +kernel)) rfl
theorem tw_688 : (Jvm.Cond.instanceMethod ({ cls := "BetweenCounts", name := "told", desc := "(I)I" } : Jvm.MethodName)) ∈ TS := TS_in (List.mem_of_getElem? (i := 688) (by decide +kernel)) rfl
theorem tw_689 : (Jvm.Cond.selects "BetweenCounts" ({ cls := "BetweenCounts", name := "told", desc := "(I)I" } : Jvm.MethodName) ({ cls := "BetweenCounts", name := "told", desc := "(I)I" } : Jvm.MethodName)) ∈ TS := TS_in (List.mem_of_getElem? (i := 689) (by decide +kernel)) rfl
set_option maxRecDepth 20000 in
theorem tw_690 : (Jvm.Cond.code ({ cls := "BetweenCounts", name := "told", desc := "(I)I" } : Jvm.MethodName) prog_1_method_17_code (2 : Nat) (Option.some Jvm.ClassFile.FieldType.int)) ∈ TS := TS_in (List.mem_of_getElem? (i := 690) rfl) rfl
theorem tw_691 : (Jvm.Cond.methodLink "BetweenCounts" (167 : Nat) ({ cls := "BetweenCounts$Net", name := "arcsThere", desc := "()I" } : Jvm.MethodName)) ∈ TS := TS_in (List.mem_of_getElem? (i := 691) (by decide +kernel)) rfl
theorem tw_692 : (Jvm.Cond.instanceMethod ({ cls := "BetweenCounts$Net", name := "arcsThere", desc := "()I" } : Jvm.MethodName)) ∈ TS := TS_in (List.mem_of_getElem? (i := 692) (by decide +kernel)) rfl
theorem tw_693 : (Jvm.Cond.selects "BetweenCounts$Net" ({ cls := "BetweenCounts$Net", name := "arcsThere", desc := "()I" } : Jvm.MethodName) ({ cls := "BetweenCounts$Net", name := "arcsThere", desc := "()I" } : Jvm.MethodName)) ∈ TS := TS_in (List.mem_of_getElem? (i := 693) (by decide +kernel)) rfl
set_option maxRecDepth 20000 in
theorem tw_694 : (Jvm.Cond.code ({ cls := "BetweenCounts$Net", name := "arcsThere", desc := "()I" } : Jvm.MethodName) prog_6_method_7_code (3 : Nat) (Option.some Jvm.ClassFile.FieldType.int)) ∈ TS := TS_in (List.mem_of_getElem? (i := 694) rfl) rfl
theorem tw_695 : (Jvm.Cond.methodLink "BetweenCounts" (170 : Nat) ({ cls := "BetweenCounts", name := "countPairs", desc := "()I" } : Jvm.MethodName)) ∈ TS := TS_in (List.mem_of_getElem? (i := 695) (by decide +kernel)) rfl
theorem tw_697 : (Jvm.Cond.instanceMethod ({ cls := "BetweenCounts", name := "countPairs", desc := "()I" } : Jvm.MethodName)) ∈ TS := TS_in (List.mem_of_getElem? (i := 697) (by decide +kernel)) rfl
set_option maxRecDepth 20000 in
theorem tw_698 : (Jvm.Cond.code ({ cls := "BetweenCounts", name := "countPairs", desc := "()I" } : Jvm.MethodName) prog_1_method_23_code (4 : Nat) (Option.some Jvm.ClassFile.FieldType.int)) ∈ TS := TS_in (List.mem_of_getElem? (i := 698) rfl) rfl
theorem tw_699 : (Jvm.Cond.methodLink "BetweenCounts" (173 : Nat) ({ cls := "BetweenCounts", name := "countGroup", desc := "()I" } : Jvm.MethodName)) ∈ TS := TS_in (List.mem_of_getElem? (i := 699) (by decide +kernel)) rfl
theorem tw_701 : (Jvm.Cond.instanceMethod ({ cls := "BetweenCounts", name := "countGroup", desc := "()I" } : Jvm.MethodName)) ∈ TS := TS_in (List.mem_of_getElem? (i := 701) (by decide +kernel)) rfl
set_option maxRecDepth 20000 in
theorem tw_702 : (Jvm.Cond.code ({ cls := "BetweenCounts", name := "countGroup", desc := "()I" } : Jvm.MethodName) prog_1_method_24_code (3 : Nat) (Option.some Jvm.ClassFile.FieldType.int)) ∈ TS := TS_in (List.mem_of_getElem? (i := 702) rfl) rfl
theorem tw_703 : (Jvm.Cond.methodLink "BetweenCounts" (176 : Nat) ({ cls := "BetweenCounts$Flow", name := "countPieces", desc := "()I" } : Jvm.MethodName)) ∈ TS := TS_in (List.mem_of_getElem? (i := 703) (by decide +kernel)) rfl
theorem tw_704 : (Jvm.Cond.instanceMethod ({ cls := "BetweenCounts$Flow", name := "countPieces", desc := "()I" } : Jvm.MethodName)) ∈ TS := TS_in (List.mem_of_getElem? (i := 704) (by decide +kernel)) rfl
theorem tw_705 : (Jvm.Cond.selects "BetweenCounts$Flow" ({ cls := "BetweenCounts$Flow", name := "countPieces", desc := "()I" } : Jvm.MethodName) ({ cls := "BetweenCounts$Flow", name := "countPieces", desc := "()I" } : Jvm.MethodName)) ∈ TS := TS_in (List.mem_of_getElem? (i := 705) (by decide +kernel)) rfl
set_option maxRecDepth 20000 in
theorem tw_706 : (Jvm.Cond.code ({ cls := "BetweenCounts$Flow", name := "countPieces", desc := "()I" } : Jvm.MethodName) prog_4_method_5_code (3 : Nat) (Option.some Jvm.ClassFile.FieldType.int)) ∈ TS := TS_in (List.mem_of_getElem? (i := 706) rfl) rfl
theorem tw_707 : (Jvm.Cond.classLink "BetweenCountsLaw" (10 : Nat) "BetweenCountsModel") ∈ TS := TS_in (List.mem_of_getElem? (i := 707) (by decide +kernel)) rfl
theorem tw_708 : (Jvm.Cond.instantiable "BetweenCountsModel" (31 : Nat)) ∈ TS := TS_in (List.mem_of_getElem? (i := 708) (by decide +kernel)) rfl
theorem tw_709 : (Jvm.Cond.methodLink "BetweenCountsLaw" (12 : Nat) ({ cls := "BetweenCountsModel", name := "<init>", desc := "()V" } : Jvm.MethodName)) ∈ TS := TS_in (List.mem_of_getElem? (i := 709) (by decide +kernel)) rfl
theorem tw_710 : (Jvm.Cond.instanceMethod ({ cls := "BetweenCountsModel", name := "<init>", desc := "()V" } : Jvm.MethodName)) ∈ TS := TS_in (List.mem_of_getElem? (i := 710) (by decide +kernel)) rfl
set_option maxRecDepth 20000 in
theorem tw_711 : (Jvm.Cond.code ({ cls := "BetweenCountsModel", name := "<init>", desc := "()V" } : Jvm.MethodName) prog_10_method_1_code (1 : Nat) (Option.none : Option Jvm.ClassFile.FieldType)) ∈ TS := TS_in (List.mem_of_getElem? (i := 711) rfl) rfl
theorem tw_712 : (Jvm.Cond.methodLink "BetweenCountsModel" (1 : Nat) ({ cls := "java/lang/Object", name := "<init>", desc := "()V" } : Jvm.MethodName)) ∈ TS := TS_in (List.mem_of_getElem? (i := 712) (by decide +kernel)) rfl
theorem tw_713 : (Jvm.Cond.constantLong "BetweenCountsModel" (67 : Nat) (2147483647 : Int64)) ∈ TS := TS_in (List.mem_of_getElem? (i := 713) (by decide +kernel)) rfl
theorem tw_714 : (Jvm.Cond.constantLong "BetweenCountsModel" (69 : Nat) (2147483629 : Int64)) ∈ TS := TS_in (List.mem_of_getElem? (i := 714) (by decide +kernel)) rfl
theorem tw_715 : (Jvm.Cond.constantLong "BetweenCountsModel" (71 : Nat) (2147483587 : Int64)) ∈ TS := TS_in (List.mem_of_getElem? (i := 715) (by decide +kernel)) rfl
theorem tw_716 : (Jvm.Cond.constantLong "BetweenCountsModel" (73 : Nat) (2147483579 : Int64)) ∈ TS := TS_in (List.mem_of_getElem? (i := 716) (by decide +kernel)) rfl
theorem tw_717 : (Jvm.Cond.constantLong "BetweenCountsModel" (75 : Nat) (2147483563 : Int64)) ∈ TS := TS_in (List.mem_of_getElem? (i := 717) (by decide +kernel)) rfl
theorem tw_718 : (Jvm.Cond.constantLong "BetweenCountsModel" (77 : Nat) (2147483549 : Int64)) ∈ TS := TS_in (List.mem_of_getElem? (i := 718) (by decide +kernel)) rfl
theorem tw_719 : (Jvm.Cond.constantLong "BetweenCountsModel" (79 : Nat) (2147483543 : Int64)) ∈ TS := TS_in (List.mem_of_getElem? (i := 719) (by decide +kernel)) rfl
theorem tw_720 : (Jvm.Cond.constantLong "BetweenCountsModel" (81 : Nat) (2147483497 : Int64)) ∈ TS := TS_in (List.mem_of_getElem? (i := 720) (by decide +kernel)) rfl
theorem tw_721 : (Jvm.Cond.fieldLink "BetweenCountsModel" (110 : Nat) "BetweenCountsModel" "nodes" "I") ∈ TS := TS_in (List.mem_of_getElem? (i := 721) (by decide +kernel)) rfl
theorem tw_722 : (Jvm.Cond.fieldLink "BetweenCountsModel" (113 : Nat) "BetweenCountsModel" "arcs" "I") ∈ TS := TS_in (List.mem_of_getElem? (i := 722) (by decide +kernel)) rfl
theorem tw_723 : (Jvm.Cond.fieldLink "BetweenCountsModel" (7 : Nat) "BetweenCountsModel" "from" "[I") ∈ TS := TS_in (List.mem_of_getElem? (i := 723) (by decide +kernel)) rfl
theorem tw_724 : (Jvm.Cond.fieldLink "BetweenCountsModel" (13 : Nat) "BetweenCountsModel" "to" "[I") ∈ TS := TS_in (List.mem_of_getElem? (i := 724) (by decide +kernel)) rfl
theorem tw_725 : (Jvm.Cond.fieldLink "BetweenCountsModel" (16 : Nat) "BetweenCountsModel" "weight" "[I") ∈ TS := TS_in (List.mem_of_getElem? (i := 725) (by decide +kernel)) rfl
theorem tw_726 : (Jvm.Cond.fieldLink "BetweenCountsModel" (19 : Nat) "BetweenCountsModel" "turned" "[Z") ∈ TS := TS_in (List.mem_of_getElem? (i := 726) (by decide +kernel)) rfl
theorem tw_727 : (Jvm.Cond.fieldLink "BetweenCountsModel" (23 : Nat) "BetweenCountsModel" "length" "[I") ∈ TS := TS_in (List.mem_of_getElem? (i := 727) (by decide +kernel)) rfl
theorem tw_728 : (Jvm.Cond.fieldLink "BetweenCountsModel" (26 : Nat) "BetweenCountsModel" "count" "[J") ∈ TS := TS_in (List.mem_of_getElem? (i := 728) (by decide +kernel)) rfl
theorem tw_729 : (Jvm.Cond.fieldLink "BetweenCountsModel" (30 : Nat) "BetweenCountsModel" "free" "[J") ∈ TS := TS_in (List.mem_of_getElem? (i := 729) (by decide +kernel)) rfl
theorem tw_730 : (Jvm.Cond.fieldLink "BetweenCountsModel" (33 : Nat) "BetweenCountsModel" "limbs" "I") ∈ TS := TS_in (List.mem_of_getElem? (i := 730) (by decide +kernel)) rfl
theorem tw_731 : (Jvm.Cond.fieldLink "BetweenCountsModel" (37 : Nat) "BetweenCountsModel" "up" "[J") ∈ TS := TS_in (List.mem_of_getElem? (i := 731) (by decide +kernel)) rfl
theorem tw_732 : (Jvm.Cond.fieldLink "BetweenCountsModel" (40 : Nat) "BetweenCountsModel" "below" "[J") ∈ TS := TS_in (List.mem_of_getElem? (i := 732) (by decide +kernel)) rfl
theorem tw_733 : (Jvm.Cond.fieldLink "BetweenCountsModel" (43 : Nat) "BetweenCountsModel" "help" "[J") ∈ TS := TS_in (List.mem_of_getElem? (i := 733) (by decide +kernel)) rfl
theorem tw_734 : (Jvm.Cond.fieldLink "BetweenCountsModel" (46 : Nat) "BetweenCountsModel" "other" "[J") ∈ TS := TS_in (List.mem_of_getElem? (i := 734) (by decide +kernel)) rfl
theorem tw_735 : (Jvm.Cond.fieldLink "BetweenCountsModel" (49 : Nat) "BetweenCountsModel" "third" "[J") ∈ TS := TS_in (List.mem_of_getElem? (i := 735) (by decide +kernel)) rfl
theorem tw_736 : (Jvm.Cond.fieldLink "BetweenCountsModel" (52 : Nat) "BetweenCountsModel" "sum" "[J") ∈ TS := TS_in (List.mem_of_getElem? (i := 736) (by decide +kernel)) rfl
theorem tw_737 : (Jvm.Cond.fieldLink "BetweenCountsModel" (116 : Nat) "BetweenCountsModel" "stands" "I") ∈ TS := TS_in (List.mem_of_getElem? (i := 737) (by decide +kernel)) rfl
theorem tw_738 : (Jvm.Cond.fieldLink "BetweenCountsModel" (55 : Nat) "BetweenCountsModel" "ups" "[J") ∈ TS := TS_in (List.mem_of_getElem? (i := 738) (by decide +kernel)) rfl
theorem tw_739 : (Jvm.Cond.fieldLink "BetweenCountsModel" (58 : Nat) "BetweenCountsModel" "belows" "[J") ∈ TS := TS_in (List.mem_of_getElem? (i := 739) (by decide +kernel)) rfl
theorem tw_740 : (Jvm.Cond.fieldLink "BetweenCountsModel" (61 : Nat) "BetweenCountsModel" "left" "[J") ∈ TS := TS_in (List.mem_of_getElem? (i := 740) (by decide +kernel)) rfl
theorem tw_741 : (Jvm.Cond.fieldLink "BetweenCountsModel" (64 : Nat) "BetweenCountsModel" "right" "[J") ∈ TS := TS_in (List.mem_of_getElem? (i := 741) (by decide +kernel)) rfl
theorem tw_742 : (Jvm.Cond.fieldLink "BetweenCountsModel" (83 : Nat) "BetweenCountsModel" "primes" "[J") ∈ TS := TS_in (List.mem_of_getElem? (i := 742) (by decide +kernel)) rfl
theorem tw_743 : (Jvm.Cond.fieldLink "BetweenCountsModel" (86 : Nat) "BetweenCountsModel" "piece" "[I") ∈ TS := TS_in (List.mem_of_getElem? (i := 743) (by decide +kernel)) rfl
theorem tw_744 : (Jvm.Cond.fieldLink "BetweenCountsModel" (89 : Nat) "BetweenCountsModel" "place" "[I") ∈ TS := TS_in (List.mem_of_getElem? (i := 744) (by decide +kernel)) rfl
theorem tw_745 : (Jvm.Cond.fieldLink "BetweenCountsModel" (92 : Nat) "BetweenCountsModel" "in" "[Z") ∈ TS := TS_in (List.mem_of_getElem? (i := 745) (by decide +kernel)) rfl
theorem tw_746 : (Jvm.Cond.fieldLink "BetweenCountsModel" (230 : Nat) "BetweenCountsModel" "many" "I") ∈ TS := TS_in (List.mem_of_getElem? (i := 746) (by decide +kernel)) rfl
theorem tw_747 : (Jvm.Cond.fieldLink "BetweenCountsModel" (95 : Nat) "BetweenCountsModel" "row" "[J") ∈ TS := TS_in (List.mem_of_getElem? (i := 747) (by decide +kernel)) rfl
theorem tw_748 : (Jvm.Cond.fieldLink "BetweenCountsModel" (98 : Nat) "BetweenCountsModel" "prime" "[J") ∈ TS := TS_in (List.mem_of_getElem? (i := 748) (by decide +kernel)) rfl
theorem tw_749 : (Jvm.Cond.fieldLink "BetweenCountsModel" (101 : Nat) "BetweenCountsModel" "trees" "[J") ∈ TS := TS_in (List.mem_of_getElem? (i := 749) (by decide +kernel)) rfl
theorem tw_750 : (Jvm.Cond.fieldLink "BetweenCountsModel" (104 : Nat) "BetweenCountsModel" "at" "[J") ∈ TS := TS_in (List.mem_of_getElem? (i := 750) (by decide +kernel)) rfl
theorem tw_751 : (Jvm.Cond.fieldLink "BetweenCountsModel" (107 : Nat) "BetweenCountsModel" "digit" "[J") ∈ TS := TS_in (List.mem_of_getElem? (i := 751) (by decide +kernel)) rfl
theorem tw_815 : (Jvm.Cond.methodLink "BetweenCountsLaw" (17 : Nat) ({ cls := "BetweenCountsModel", name := "node", desc := "()I" } : Jvm.MethodName)) ∈ TS := TS_in (List.mem_of_getElem? (i := 815) (by decide +kernel)) rfl
theorem tw_816 : (Jvm.Cond.instanceMethod ({ cls := "BetweenCountsModel", name := "node", desc := "()I" } : Jvm.MethodName)) ∈ TS := TS_in (List.mem_of_getElem? (i := 816) (by decide +kernel)) rfl
theorem tw_817 : (Jvm.Cond.selects "BetweenCountsModel" ({ cls := "BetweenCountsModel", name := "node", desc := "()I" } : Jvm.MethodName) ({ cls := "BetweenCountsModel", name := "node", desc := "()I" } : Jvm.MethodName)) ∈ TS := TS_in (List.mem_of_getElem? (i := 817) (by decide +kernel)) rfl
set_option maxRecDepth 20000 in
theorem tw_818 : (Jvm.Cond.code ({ cls := "BetweenCountsModel", name := "node", desc := "()I" } : Jvm.MethodName) prog_10_method_5_code (1 : Nat) (Option.some Jvm.ClassFile.FieldType.int)) ∈ TS := TS_in (List.mem_of_getElem? (i := 818) rfl) rfl
theorem tw_819 : (Jvm.Cond.methodLink "BetweenCountsLaw" (22 : Nat) ({ cls := "BetweenCountsModel", name := "arc", desc := "(III)I" } : Jvm.MethodName)) ∈ TS := TS_in (List.mem_of_getElem? (i := 819) (by decide +kernel)) rfl
theorem tw_820 : (Jvm.Cond.instanceMethod ({ cls := "BetweenCountsModel", name := "arc", desc := "(III)I" } : Jvm.MethodName)) ∈ TS := TS_in (List.mem_of_getElem? (i := 820) (by decide +kernel)) rfl
theorem tw_821 : (Jvm.Cond.selects "BetweenCountsModel" ({ cls := "BetweenCountsModel", name := "arc", desc := "(III)I" } : Jvm.MethodName) ({ cls := "BetweenCountsModel", name := "arc", desc := "(III)I" } : Jvm.MethodName)) ∈ TS := TS_in (List.mem_of_getElem? (i := 821) (by decide +kernel)) rfl
set_option maxRecDepth 20000 in
theorem tw_822 : (Jvm.Cond.code ({ cls := "BetweenCountsModel", name := "arc", desc := "(III)I" } : Jvm.MethodName) prog_10_method_6_code (4 : Nat) (Option.some Jvm.ClassFile.FieldType.int)) ∈ TS := TS_in (List.mem_of_getElem? (i := 822) rfl) rfl
theorem tw_823 : (Jvm.Cond.methodLink "BetweenCountsModel" (119 : Nat) ({ cls := "BetweenCountsModel", name := "isNode", desc := "(I)Z" } : Jvm.MethodName)) ∈ TS := TS_in (List.mem_of_getElem? (i := 823) (by decide +kernel)) rfl
theorem tw_825 : (Jvm.Cond.instanceMethod ({ cls := "BetweenCountsModel", name := "isNode", desc := "(I)Z" } : Jvm.MethodName)) ∈ TS := TS_in (List.mem_of_getElem? (i := 825) (by decide +kernel)) rfl
set_option maxRecDepth 20000 in
theorem tw_826 : (Jvm.Cond.code ({ cls := "BetweenCountsModel", name := "isNode", desc := "(I)Z" } : Jvm.MethodName) prog_10_method_2_code (2 : Nat) (Option.some Jvm.ClassFile.FieldType.boolean)) ∈ TS := TS_in (List.mem_of_getElem? (i := 826) rfl) rfl
theorem tw_827 : (Jvm.Cond.methodLink "BetweenCountsLaw" (27 : Nat) ({ cls := "BetweenCountsModel", name := "change", desc := "(II)I" } : Jvm.MethodName)) ∈ TS := TS_in (List.mem_of_getElem? (i := 827) (by decide +kernel)) rfl
theorem tw_828 : (Jvm.Cond.instanceMethod ({ cls := "BetweenCountsModel", name := "change", desc := "(II)I" } : Jvm.MethodName)) ∈ TS := TS_in (List.mem_of_getElem? (i := 828) (by decide +kernel)) rfl
theorem tw_829 : (Jvm.Cond.selects "BetweenCountsModel" ({ cls := "BetweenCountsModel", name := "change", desc := "(II)I" } : Jvm.MethodName) ({ cls := "BetweenCountsModel", name := "change", desc := "(II)I" } : Jvm.MethodName)) ∈ TS := TS_in (List.mem_of_getElem? (i := 829) (by decide +kernel)) rfl
set_option maxRecDepth 20000 in
theorem tw_830 : (Jvm.Cond.code ({ cls := "BetweenCountsModel", name := "change", desc := "(II)I" } : Jvm.MethodName) prog_10_method_7_code (4 : Nat) (Option.some Jvm.ClassFile.FieldType.int)) ∈ TS := TS_in (List.mem_of_getElem? (i := 830) rfl) rfl
theorem tw_831 : (Jvm.Cond.methodLink "BetweenCountsModel" (123 : Nat) ({ cls := "BetweenCountsModel", name := "isArc", desc := "(I)Z" } : Jvm.MethodName)) ∈ TS := TS_in (List.mem_of_getElem? (i := 831) (by decide +kernel)) rfl
theorem tw_833 : (Jvm.Cond.instanceMethod ({ cls := "BetweenCountsModel", name := "isArc", desc := "(I)Z" } : Jvm.MethodName)) ∈ TS := TS_in (List.mem_of_getElem? (i := 833) (by decide +kernel)) rfl
set_option maxRecDepth 20000 in
theorem tw_834 : (Jvm.Cond.code ({ cls := "BetweenCountsModel", name := "isArc", desc := "(I)Z" } : Jvm.MethodName) prog_10_method_3_code (2 : Nat) (Option.some Jvm.ClassFile.FieldType.boolean)) ∈ TS := TS_in (List.mem_of_getElem? (i := 834) rfl) rfl
theorem tw_835 : (Jvm.Cond.methodLink "BetweenCountsLaw" (32 : Nat) ({ cls := "BetweenCountsModel", name := "choose", desc := "(II)Z" } : Jvm.MethodName)) ∈ TS := TS_in (List.mem_of_getElem? (i := 835) (by decide +kernel)) rfl
theorem tw_836 : (Jvm.Cond.instanceMethod ({ cls := "BetweenCountsModel", name := "choose", desc := "(II)Z" } : Jvm.MethodName)) ∈ TS := TS_in (List.mem_of_getElem? (i := 836) (by decide +kernel)) rfl
theorem tw_837 : (Jvm.Cond.selects "BetweenCountsModel" ({ cls := "BetweenCountsModel", name := "choose", desc := "(II)Z" } : Jvm.MethodName) ({ cls := "BetweenCountsModel", name := "choose", desc := "(II)Z" } : Jvm.MethodName)) ∈ TS := TS_in (List.mem_of_getElem? (i := 837) (by decide +kernel)) rfl
set_option maxRecDepth 20000 in
theorem tw_838 : (Jvm.Cond.code ({ cls := "BetweenCountsModel", name := "choose", desc := "(II)Z" } : Jvm.MethodName) prog_10_method_8_code (3 : Nat) (Option.some Jvm.ClassFile.FieldType.boolean)) ∈ TS := TS_in (List.mem_of_getElem? (i := 838) rfl) rfl
theorem tw_839 : (Jvm.Cond.methodLink "BetweenCountsModel" (126 : Nat) ({ cls := "BetweenCountsModel", name := "isChosen", desc := "(II)Z" } : Jvm.MethodName)) ∈ TS := TS_in (List.mem_of_getElem? (i := 839) (by decide +kernel)) rfl
theorem tw_841 : (Jvm.Cond.instanceMethod ({ cls := "BetweenCountsModel", name := "isChosen", desc := "(II)Z" } : Jvm.MethodName)) ∈ TS := TS_in (List.mem_of_getElem? (i := 841) (by decide +kernel)) rfl
set_option maxRecDepth 20000 in
theorem tw_842 : (Jvm.Cond.code ({ cls := "BetweenCountsModel", name := "isChosen", desc := "(II)Z" } : Jvm.MethodName) prog_10_method_4_code (3 : Nat) (Option.some Jvm.ClassFile.FieldType.boolean)) ∈ TS := TS_in (List.mem_of_getElem? (i := 842) rfl) rfl
theorem tw_843 : (Jvm.Cond.methodLink "BetweenCountsLaw" (36 : Nat) ({ cls := "BetweenCountsModel", name := "far", desc := "(II)I" } : Jvm.MethodName)) ∈ TS := TS_in (List.mem_of_getElem? (i := 843) (by decide +kernel)) rfl
theorem tw_844 : (Jvm.Cond.instanceMethod ({ cls := "BetweenCountsModel", name := "far", desc := "(II)I" } : Jvm.MethodName)) ∈ TS := TS_in (List.mem_of_getElem? (i := 844) (by decide +kernel)) rfl
theorem tw_845 : (Jvm.Cond.selects "BetweenCountsModel" ({ cls := "BetweenCountsModel", name := "far", desc := "(II)I" } : Jvm.MethodName) ({ cls := "BetweenCountsModel", name := "far", desc := "(II)I" } : Jvm.MethodName)) ∈ TS := TS_in (List.mem_of_getElem? (i := 845) (by decide +kernel)) rfl
set_option maxRecDepth 20000 in
theorem tw_846 : (Jvm.Cond.code ({ cls := "BetweenCountsModel", name := "far", desc := "(II)I" } : Jvm.MethodName) prog_10_method_15_code (4 : Nat) (Option.some Jvm.ClassFile.FieldType.int)) ∈ TS := TS_in (List.mem_of_getElem? (i := 846) rfl) rfl
theorem tw_847 : (Jvm.Cond.methodLink "BetweenCountsModel" (135 : Nat) ({ cls := "BetweenCountsModel", name := "lengths", desc := "()V" } : Jvm.MethodName)) ∈ TS := TS_in (List.mem_of_getElem? (i := 847) (by decide +kernel)) rfl
theorem tw_849 : (Jvm.Cond.instanceMethod ({ cls := "BetweenCountsModel", name := "lengths", desc := "()V" } : Jvm.MethodName)) ∈ TS := TS_in (List.mem_of_getElem? (i := 849) (by decide +kernel)) rfl
set_option maxRecDepth 20000 in
theorem tw_850 : (Jvm.Cond.code ({ cls := "BetweenCountsModel", name := "lengths", desc := "()V" } : Jvm.MethodName) prog_10_method_10_code (5 : Nat) (Option.none : Option Jvm.ClassFile.FieldType)) ∈ TS := TS_in (List.mem_of_getElem? (i := 850) rfl) rfl
theorem tw_851 : (Jvm.Cond.methodLink "BetweenCountsModel" (130 : Nat) ({ cls := "BetweenCountsModel", name := "cell", desc := "(II)I" } : Jvm.MethodName)) ∈ TS := TS_in (List.mem_of_getElem? (i := 851) (by decide +kernel)) rfl
theorem tw_853 : (Jvm.Cond.instanceMethod ({ cls := "BetweenCountsModel", name := "cell", desc := "(II)I" } : Jvm.MethodName)) ∈ TS := TS_in (List.mem_of_getElem? (i := 853) (by decide +kernel)) rfl
set_option maxRecDepth 20000 in
theorem tw_854 : (Jvm.Cond.code ({ cls := "BetweenCountsModel", name := "cell", desc := "(II)I" } : Jvm.MethodName) prog_10_method_9_code (3 : Nat) (Option.some Jvm.ClassFile.FieldType.int)) ∈ TS := TS_in (List.mem_of_getElem? (i := 854) rfl) rfl
theorem tw_855 : (Jvm.Cond.constant "BetweenCountsModel" (134 : Nat) (1000000 : Int32)) ∈ TS := TS_in (List.mem_of_getElem? (i := 855) (by decide +kernel)) rfl
theorem tw_856 : (Jvm.Cond.methodLink "BetweenCountsLaw" (40 : Nat) ({ cls := "BetweenCountsModel", name := "ways", desc := "(II)I" } : Jvm.MethodName)) ∈ TS := TS_in (List.mem_of_getElem? (i := 856) (by decide +kernel)) rfl
theorem tw_857 : (Jvm.Cond.instanceMethod ({ cls := "BetweenCountsModel", name := "ways", desc := "(II)I" } : Jvm.MethodName)) ∈ TS := TS_in (List.mem_of_getElem? (i := 857) (by decide +kernel)) rfl
theorem tw_858 : (Jvm.Cond.selects "BetweenCountsModel" ({ cls := "BetweenCountsModel", name := "ways", desc := "(II)I" } : Jvm.MethodName) ({ cls := "BetweenCountsModel", name := "ways", desc := "(II)I" } : Jvm.MethodName)) ∈ TS := TS_in (List.mem_of_getElem? (i := 858) (by decide +kernel)) rfl
set_option maxRecDepth 20000 in
theorem tw_859 : (Jvm.Cond.code ({ cls := "BetweenCountsModel", name := "ways", desc := "(II)I" } : Jvm.MethodName) prog_10_method_16_code (3 : Nat) (Option.some Jvm.ClassFile.FieldType.int)) ∈ TS := TS_in (List.mem_of_getElem? (i := 859) rfl) rfl
theorem tw_860 : (Jvm.Cond.methodLink "BetweenCountsModel" (142 : Nat) ({ cls := "BetweenCountsModel", name := "countAll", desc := "(Z)V" } : Jvm.MethodName)) ∈ TS := TS_in (List.mem_of_getElem? (i := 860) (by decide +kernel)) rfl
theorem tw_862 : (Jvm.Cond.instanceMethod ({ cls := "BetweenCountsModel", name := "countAll", desc := "(Z)V" } : Jvm.MethodName)) ∈ TS := TS_in (List.mem_of_getElem? (i := 862) (by decide +kernel)) rfl
set_option maxRecDepth 20000 in
theorem tw_863 : (Jvm.Cond.code ({ cls := "BetweenCountsModel", name := "countAll", desc := "(Z)V" } : Jvm.MethodName) prog_10_method_11_code (7 : Nat) (Option.none : Option Jvm.ClassFile.FieldType)) ∈ TS := TS_in (List.mem_of_getElem? (i := 863) rfl) rfl
theorem tw_864 : (Jvm.Cond.methodLink "BetweenCountsModel" (138 : Nat) ({ cls := "BetweenCountsModel", name := "intoNode", desc := "(IIZ)J" } : Jvm.MethodName)) ∈ TS := TS_in (List.mem_of_getElem? (i := 864) (by decide +kernel)) rfl
theorem tw_866 : (Jvm.Cond.instanceMethod ({ cls := "BetweenCountsModel", name := "intoNode", desc := "(IIZ)J" } : Jvm.MethodName)) ∈ TS := TS_in (List.mem_of_getElem? (i := 866) (by decide +kernel)) rfl
set_option maxRecDepth 20000 in
theorem tw_867 : (Jvm.Cond.code ({ cls := "BetweenCountsModel", name := "intoNode", desc := "(IIZ)J" } : Jvm.MethodName) prog_10_method_12_code (7 : Nat) (Option.some Jvm.ClassFile.FieldType.long)) ∈ TS := TS_in (List.mem_of_getElem? (i := 867) rfl) rfl
theorem tw_868 : (Jvm.Cond.methodLink "BetweenCountsLaw" (45 : Nat) ({ cls := "BetweenCountsModel", name := "stress", desc := "(I)J" } : Jvm.MethodName)) ∈ TS := TS_in (List.mem_of_getElem? (i := 868) (by decide +kernel)) rfl
theorem tw_869 : (Jvm.Cond.instanceMethod ({ cls := "BetweenCountsModel", name := "stress", desc := "(I)J" } : Jvm.MethodName)) ∈ TS := TS_in (List.mem_of_getElem? (i := 869) (by decide +kernel)) rfl
theorem tw_870 : (Jvm.Cond.selects "BetweenCountsModel" ({ cls := "BetweenCountsModel", name := "stress", desc := "(I)J" } : Jvm.MethodName) ({ cls := "BetweenCountsModel", name := "stress", desc := "(I)J" } : Jvm.MethodName)) ∈ TS := TS_in (List.mem_of_getElem? (i := 870) (by decide +kernel)) rfl
set_option maxRecDepth 20000 in
theorem tw_871 : (Jvm.Cond.code ({ cls := "BetweenCountsModel", name := "stress", desc := "(I)J" } : Jvm.MethodName) prog_10_method_17_code (6 : Nat) (Option.some Jvm.ClassFile.FieldType.long)) ∈ TS := TS_in (List.mem_of_getElem? (i := 871) rfl) rfl
theorem tw_872 : (Jvm.Cond.constantLong "BetweenCountsModel" (146 : Nat) (-1 : Int64)) ∈ TS := TS_in (List.mem_of_getElem? (i := 872) (by decide +kernel)) rfl
theorem tw_873 : (Jvm.Cond.methodLink "BetweenCountsModel" (148 : Nat) ({ cls := "BetweenCountsModel", name := "isPair", desc := "(II)Z" } : Jvm.MethodName)) ∈ TS := TS_in (List.mem_of_getElem? (i := 873) (by decide +kernel)) rfl
theorem tw_875 : (Jvm.Cond.instanceMethod ({ cls := "BetweenCountsModel", name := "isPair", desc := "(II)Z" } : Jvm.MethodName)) ∈ TS := TS_in (List.mem_of_getElem? (i := 875) (by decide +kernel)) rfl
set_option maxRecDepth 20000 in
theorem tw_876 : (Jvm.Cond.code ({ cls := "BetweenCountsModel", name := "isPair", desc := "(II)Z" } : Jvm.MethodName) prog_10_method_13_code (3 : Nat) (Option.some Jvm.ClassFile.FieldType.boolean)) ∈ TS := TS_in (List.mem_of_getElem? (i := 876) rfl) rfl
theorem tw_877 : (Jvm.Cond.methodLink "BetweenCountsModel" (151 : Nat) ({ cls := "BetweenCountsModel", name := "through", desc := "(III)J" } : Jvm.MethodName)) ∈ TS := TS_in (List.mem_of_getElem? (i := 877) (by decide +kernel)) rfl
theorem tw_879 : (Jvm.Cond.instanceMethod ({ cls := "BetweenCountsModel", name := "through", desc := "(III)J" } : Jvm.MethodName)) ∈ TS := TS_in (List.mem_of_getElem? (i := 879) (by decide +kernel)) rfl
set_option maxRecDepth 20000 in
theorem tw_880 : (Jvm.Cond.code ({ cls := "BetweenCountsModel", name := "through", desc := "(III)J" } : Jvm.MethodName) prog_10_method_14_code (5 : Nat) (Option.some Jvm.ClassFile.FieldType.long)) ∈ TS := TS_in (List.mem_of_getElem? (i := 880) rfl) rfl
theorem tw_881 : (Jvm.Cond.methodLink "BetweenCountsLaw" (50 : Nat) ({ cls := "BetweenCountsModel", name := "between", desc := "(III)J" } : Jvm.MethodName)) ∈ TS := TS_in (List.mem_of_getElem? (i := 881) (by decide +kernel)) rfl
theorem tw_882 : (Jvm.Cond.instanceMethod ({ cls := "BetweenCountsModel", name := "between", desc := "(III)J" } : Jvm.MethodName)) ∈ TS := TS_in (List.mem_of_getElem? (i := 882) (by decide +kernel)) rfl
theorem tw_883 : (Jvm.Cond.selects "BetweenCountsModel" ({ cls := "BetweenCountsModel", name := "between", desc := "(III)J" } : Jvm.MethodName) ({ cls := "BetweenCountsModel", name := "between", desc := "(III)J" } : Jvm.MethodName)) ∈ TS := TS_in (List.mem_of_getElem? (i := 883) (by decide +kernel)) rfl
set_option maxRecDepth 20000 in
theorem tw_884 : (Jvm.Cond.code ({ cls := "BetweenCountsModel", name := "between", desc := "(III)J" } : Jvm.MethodName) prog_10_method_37_code (4 : Nat) (Option.some Jvm.ClassFile.FieldType.long)) ∈ TS := TS_in (List.mem_of_getElem? (i := 884) rfl) rfl
theorem tw_885 : (Jvm.Cond.methodLink "BetweenCountsModel" (208 : Nat) ({ cls := "BetweenCountsModel", name := "isAsked", desc := "(II)Z" } : Jvm.MethodName)) ∈ TS := TS_in (List.mem_of_getElem? (i := 885) (by decide +kernel)) rfl
theorem tw_886 : (Jvm.Cond.static ({ cls := "BetweenCountsModel", name := "isAsked", desc := "(II)Z" } : Jvm.MethodName)) ∈ TS := TS_in (List.mem_of_getElem? (i := 886) (by decide +kernel)) rfl
set_option maxRecDepth 20000 in
theorem tw_887 : (Jvm.Cond.code ({ cls := "BetweenCountsModel", name := "isAsked", desc := "(II)Z" } : Jvm.MethodName) prog_10_method_34_code (2 : Nat) (Option.some Jvm.ClassFile.FieldType.boolean)) ∈ TS := TS_in (List.mem_of_getElem? (i := 887) rfl) rfl
theorem tw_888 : (Jvm.Cond.methodLink "BetweenCountsModel" (211 : Nat) ({ cls := "BetweenCountsModel", name := "isOther", desc := "(III)Z" } : Jvm.MethodName)) ∈ TS := TS_in (List.mem_of_getElem? (i := 888) (by decide +kernel)) rfl
theorem tw_890 : (Jvm.Cond.instanceMethod ({ cls := "BetweenCountsModel", name := "isOther", desc := "(III)Z" } : Jvm.MethodName)) ∈ TS := TS_in (List.mem_of_getElem? (i := 890) (by decide +kernel)) rfl
set_option maxRecDepth 20000 in
theorem tw_891 : (Jvm.Cond.code ({ cls := "BetweenCountsModel", name := "isOther", desc := "(III)Z" } : Jvm.MethodName) prog_10_method_35_code (6 : Nat) (Option.some Jvm.ClassFile.FieldType.boolean)) ∈ TS := TS_in (List.mem_of_getElem? (i := 891) rfl) rfl
theorem tw_892 : (Jvm.Cond.methodLink "BetweenCountsModel" (215 : Nat) ({ cls := "BetweenCountsModel", name := "addBetween", desc := "(I)V" } : Jvm.MethodName)) ∈ TS := TS_in (List.mem_of_getElem? (i := 892) (by decide +kernel)) rfl
theorem tw_894 : (Jvm.Cond.instanceMethod ({ cls := "BetweenCountsModel", name := "addBetween", desc := "(I)V" } : Jvm.MethodName)) ∈ TS := TS_in (List.mem_of_getElem? (i := 894) (by decide +kernel)) rfl
set_option maxRecDepth 20000 in
theorem tw_895 : (Jvm.Cond.code ({ cls := "BetweenCountsModel", name := "addBetween", desc := "(I)V" } : Jvm.MethodName) prog_10_method_36_code (6 : Nat) (Option.none : Option Jvm.ClassFile.FieldType)) ∈ TS := TS_in (List.mem_of_getElem? (i := 895) rfl) rfl
theorem tw_896 : (Jvm.Cond.methodLink "BetweenCountsModel" (201 : Nat) ({ cls := "BetweenCountsModel", name := "nothing", desc := "()V" } : Jvm.MethodName)) ∈ TS := TS_in (List.mem_of_getElem? (i := 896) (by decide +kernel)) rfl
theorem tw_898 : (Jvm.Cond.instanceMethod ({ cls := "BetweenCountsModel", name := "nothing", desc := "()V" } : Jvm.MethodName)) ∈ TS := TS_in (List.mem_of_getElem? (i := 898) (by decide +kernel)) rfl
set_option maxRecDepth 20000 in
theorem tw_899 : (Jvm.Cond.code ({ cls := "BetweenCountsModel", name := "nothing", desc := "()V" } : Jvm.MethodName) prog_10_method_28_code (1 : Nat) (Option.none : Option Jvm.ClassFile.FieldType)) ∈ TS := TS_in (List.mem_of_getElem? (i := 899) rfl) rfl
theorem tw_900 : (Jvm.Cond.methodLink "BetweenCountsModel" (165 : Nat) ({ cls := "BetweenCountsModel", name := "to", desc := "([JJ)V" } : Jvm.MethodName)) ∈ TS := TS_in (List.mem_of_getElem? (i := 900) (by decide +kernel)) rfl
theorem tw_901 : (Jvm.Cond.static ({ cls := "BetweenCountsModel", name := "to", desc := "([JJ)V" } : Jvm.MethodName)) ∈ TS := TS_in (List.mem_of_getElem? (i := 901) (by decide +kernel)) rfl
set_option maxRecDepth 20000 in
theorem tw_902 : (Jvm.Cond.code ({ cls := "BetweenCountsModel", name := "to", desc := "([JJ)V" } : Jvm.MethodName) prog_10_method_18_code (4 : Nat) (Option.none : Option Jvm.ClassFile.FieldType)) ∈ TS := TS_in (List.mem_of_getElem? (i := 902) rfl) rfl
theorem tw_903 : (Jvm.Cond.constantLong "BetweenCountsModel" (155 : Nat) (4294967295 : Int64)) ∈ TS := TS_in (List.mem_of_getElem? (i := 903) (by decide +kernel)) rfl
theorem tw_904 : (Jvm.Cond.methodLink "BetweenCountsModel" (204 : Nat) ({ cls := "BetweenCountsModel", name := "more", desc := "(JJ)V" } : Jvm.MethodName)) ∈ TS := TS_in (List.mem_of_getElem? (i := 904) (by decide +kernel)) rfl
theorem tw_906 : (Jvm.Cond.instanceMethod ({ cls := "BetweenCountsModel", name := "more", desc := "(JJ)V" } : Jvm.MethodName)) ∈ TS := TS_in (List.mem_of_getElem? (i := 906) (by decide +kernel)) rfl
set_option maxRecDepth 20000 in
theorem tw_907 : (Jvm.Cond.code ({ cls := "BetweenCountsModel", name := "more", desc := "(JJ)V" } : Jvm.MethodName) prog_10_method_29_code (15 : Nat) (Option.none : Option Jvm.ClassFile.FieldType)) ∈ TS := TS_in (List.mem_of_getElem? (i := 907) rfl) rfl
end
section
theorem tw_908 : (Jvm.Cond.methodLink "BetweenCountsModel" (168 : Nat) ({ cls := "BetweenCountsModel", name := "divisor", desc := "(JJ)J" } : Jvm.MethodName)) ∈ TS := TS_in (List.mem_of_getElem? (i := 908) (by decide +kernel)) rfl
theorem tw_909 : (Jvm.Cond.static ({ cls := "BetweenCountsModel", name := "divisor", desc := "(JJ)J" } : Jvm.MethodName)) ∈ TS := TS_in (List.mem_of_getElem? (i := 909) (by decide +kernel)) rfl
set_option maxRecDepth 20000 in
theorem tw_910 : (Jvm.Cond.code ({ cls := "BetweenCountsModel", name := "divisor", desc := "(JJ)J" } : Jvm.MethodName) prog_10_method_27_code (10 : Nat) (Option.some Jvm.ClassFile.FieldType.long)) ∈ TS := TS_in (List.mem_of_getElem? (i := 910) rfl) rfl
theorem tw_911 : (Jvm.Cond.methodLink "BetweenCountsModel" (172 : Nat) ({ cls := "BetweenCountsModel", name := "rest", desc := "([JJ)J" } : Jvm.MethodName)) ∈ TS := TS_in (List.mem_of_getElem? (i := 911) (by decide +kernel)) rfl
theorem tw_913 : (Jvm.Cond.instanceMethod ({ cls := "BetweenCountsModel", name := "rest", desc := "([JJ)J" } : Jvm.MethodName)) ∈ TS := TS_in (List.mem_of_getElem? (i := 913) (by decide +kernel)) rfl
set_option maxRecDepth 20000 in
theorem tw_914 : (Jvm.Cond.code ({ cls := "BetweenCountsModel", name := "rest", desc := "([JJ)J" } : Jvm.MethodName) prog_10_method_26_code (4 : Nat) (Option.some Jvm.ClassFile.FieldType.long)) ∈ TS := TS_in (List.mem_of_getElem? (i := 914) rfl) rfl
theorem tw_915 : (Jvm.Cond.methodLink "BetweenCountsModel" (157 : Nat) ({ cls := "BetweenCountsModel", name := "copy", desc := "([J[J)V" } : Jvm.MethodName)) ∈ TS := TS_in (List.mem_of_getElem? (i := 915) (by decide +kernel)) rfl
theorem tw_917 : (Jvm.Cond.instanceMethod ({ cls := "BetweenCountsModel", name := "copy", desc := "([J[J)V" } : Jvm.MethodName)) ∈ TS := TS_in (List.mem_of_getElem? (i := 917) (by decide +kernel)) rfl
set_option maxRecDepth 20000 in
theorem tw_918 : (Jvm.Cond.code ({ cls := "BetweenCountsModel", name := "copy", desc := "([J[J)V" } : Jvm.MethodName) prog_10_method_19_code (4 : Nat) (Option.none : Option Jvm.ClassFile.FieldType)) ∈ TS := TS_in (List.mem_of_getElem? (i := 918) rfl) rfl
theorem tw_919 : (Jvm.Cond.methodLink "BetweenCountsModel" (161 : Nat) ({ cls := "BetweenCountsModel", name := "by", desc := "([JJ)J" } : Jvm.MethodName)) ∈ TS := TS_in (List.mem_of_getElem? (i := 919) (by decide +kernel)) rfl
theorem tw_921 : (Jvm.Cond.instanceMethod ({ cls := "BetweenCountsModel", name := "by", desc := "([JJ)J" } : Jvm.MethodName)) ∈ TS := TS_in (List.mem_of_getElem? (i := 921) (by decide +kernel)) rfl
set_option maxRecDepth 20000 in
theorem tw_922 : (Jvm.Cond.code ({ cls := "BetweenCountsModel", name := "by", desc := "([JJ)J" } : Jvm.MethodName) prog_10_method_25_code (9 : Nat) (Option.some Jvm.ClassFile.FieldType.long)) ∈ TS := TS_in (List.mem_of_getElem? (i := 922) rfl) rfl
theorem tw_923 : (Jvm.Cond.methodLink "BetweenCountsModel" (175 : Nat) ({ cls := "BetweenCountsModel", name := "times", desc := "([JJ)V" } : Jvm.MethodName)) ∈ TS := TS_in (List.mem_of_getElem? (i := 923) (by decide +kernel)) rfl
theorem tw_925 : (Jvm.Cond.instanceMethod ({ cls := "BetweenCountsModel", name := "times", desc := "([JJ)V" } : Jvm.MethodName)) ∈ TS := TS_in (List.mem_of_getElem? (i := 925) (by decide +kernel)) rfl
set_option maxRecDepth 20000 in
theorem tw_926 : (Jvm.Cond.code ({ cls := "BetweenCountsModel", name := "times", desc := "([JJ)V" } : Jvm.MethodName) prog_10_method_20_code (9 : Nat) (Option.none : Option Jvm.ClassFile.FieldType)) ∈ TS := TS_in (List.mem_of_getElem? (i := 926) rfl) rfl
theorem tw_927 : (Jvm.Cond.methodLink "BetweenCountsModel" (178 : Nat) ({ cls := "BetweenCountsModel", name := "add", desc := "([J[J)V" } : Jvm.MethodName)) ∈ TS := TS_in (List.mem_of_getElem? (i := 927) (by decide +kernel)) rfl
theorem tw_929 : (Jvm.Cond.instanceMethod ({ cls := "BetweenCountsModel", name := "add", desc := "([J[J)V" } : Jvm.MethodName)) ∈ TS := TS_in (List.mem_of_getElem? (i := 929) (by decide +kernel)) rfl
set_option maxRecDepth 20000 in
theorem tw_930 : (Jvm.Cond.code ({ cls := "BetweenCountsModel", name := "add", desc := "([J[J)V" } : Jvm.MethodName) prog_10_method_21_code (8 : Nat) (Option.none : Option Jvm.ClassFile.FieldType)) ∈ TS := TS_in (List.mem_of_getElem? (i := 930) rfl) rfl
theorem tw_931 : (Jvm.Cond.methodLink "BetweenCountsModel" (181 : Nat) ({ cls := "BetweenCountsModel", name := "isZero", desc := "([J)Z" } : Jvm.MethodName)) ∈ TS := TS_in (List.mem_of_getElem? (i := 931) (by decide +kernel)) rfl
theorem tw_933 : (Jvm.Cond.instanceMethod ({ cls := "BetweenCountsModel", name := "isZero", desc := "([J)Z" } : Jvm.MethodName)) ∈ TS := TS_in (List.mem_of_getElem? (i := 933) (by decide +kernel)) rfl
set_option maxRecDepth 20000 in
theorem tw_934 : (Jvm.Cond.code ({ cls := "BetweenCountsModel", name := "isZero", desc := "([J)Z" } : Jvm.MethodName) prog_10_method_24_code (4 : Nat) (Option.some Jvm.ClassFile.FieldType.boolean)) ∈ TS := TS_in (List.mem_of_getElem? (i := 934) rfl) rfl
theorem tw_935 : (Jvm.Cond.methodLink "BetweenCountsModel" (219 : Nat) ({ cls := "BetweenCountsModel", name := "told", desc := "(II)J" } : Jvm.MethodName)) ∈ TS := TS_in (List.mem_of_getElem? (i := 935) (by decide +kernel)) rfl
theorem tw_937 : (Jvm.Cond.instanceMethod ({ cls := "BetweenCountsModel", name := "told", desc := "(II)J" } : Jvm.MethodName)) ∈ TS := TS_in (List.mem_of_getElem? (i := 937) (by decide +kernel)) rfl
set_option maxRecDepth 20000 in
theorem tw_938 : (Jvm.Cond.code ({ cls := "BetweenCountsModel", name := "told", desc := "(II)J" } : Jvm.MethodName) prog_10_method_33_code (3 : Nat) (Option.some Jvm.ClassFile.FieldType.long)) ∈ TS := TS_in (List.mem_of_getElem? (i := 938) rfl) rfl
theorem tw_939 : (Jvm.Cond.methodLink "BetweenCountsLaw" (54 : Nat) ({ cls := "BetweenCountsModel", name := "arcBetween", desc := "(III)J" } : Jvm.MethodName)) ∈ TS := TS_in (List.mem_of_getElem? (i := 939) (by decide +kernel)) rfl
theorem tw_940 : (Jvm.Cond.instanceMethod ({ cls := "BetweenCountsModel", name := "arcBetween", desc := "(III)J" } : Jvm.MethodName)) ∈ TS := TS_in (List.mem_of_getElem? (i := 940) (by decide +kernel)) rfl
theorem tw_941 : (Jvm.Cond.selects "BetweenCountsModel" ({ cls := "BetweenCountsModel", name := "arcBetween", desc := "(III)J" } : Jvm.MethodName) ({ cls := "BetweenCountsModel", name := "arcBetween", desc := "(III)J" } : Jvm.MethodName)) ∈ TS := TS_in (List.mem_of_getElem? (i := 941) (by decide +kernel)) rfl
set_option maxRecDepth 20000 in
theorem tw_942 : (Jvm.Cond.code ({ cls := "BetweenCountsModel", name := "arcBetween", desc := "(III)J" } : Jvm.MethodName) prog_10_method_38_code (6 : Nat) (Option.some Jvm.ClassFile.FieldType.long)) ∈ TS := TS_in (List.mem_of_getElem? (i := 942) rfl) rfl
theorem tw_943 : (Jvm.Cond.methodLink "BetweenCountsLaw" (59 : Nat) ({ cls := "BetweenCountsModel", name := "group", desc := "(II)J" } : Jvm.MethodName)) ∈ TS := TS_in (List.mem_of_getElem? (i := 943) (by decide +kernel)) rfl
theorem tw_944 : (Jvm.Cond.instanceMethod ({ cls := "BetweenCountsModel", name := "group", desc := "(II)J" } : Jvm.MethodName)) ∈ TS := TS_in (List.mem_of_getElem? (i := 944) (by decide +kernel)) rfl
theorem tw_945 : (Jvm.Cond.selects "BetweenCountsModel" ({ cls := "BetweenCountsModel", name := "group", desc := "(II)J" } : Jvm.MethodName) ({ cls := "BetweenCountsModel", name := "group", desc := "(II)J" } : Jvm.MethodName)) ∈ TS := TS_in (List.mem_of_getElem? (i := 945) (by decide +kernel)) rfl
set_option maxRecDepth 20000 in
theorem tw_946 : (Jvm.Cond.code ({ cls := "BetweenCountsModel", name := "group", desc := "(II)J" } : Jvm.MethodName) prog_10_method_39_code (7 : Nat) (Option.some Jvm.ClassFile.FieldType.long)) ∈ TS := TS_in (List.mem_of_getElem? (i := 946) rfl) rfl
theorem tw_947 : (Jvm.Cond.methodLink "BetweenCountsLaw" (63 : Nat) ({ cls := "BetweenCountsModel", name := "harmonic", desc := "(III)J" } : Jvm.MethodName)) ∈ TS := TS_in (List.mem_of_getElem? (i := 947) (by decide +kernel)) rfl
theorem tw_948 : (Jvm.Cond.instanceMethod ({ cls := "BetweenCountsModel", name := "harmonic", desc := "(III)J" } : Jvm.MethodName)) ∈ TS := TS_in (List.mem_of_getElem? (i := 948) (by decide +kernel)) rfl
theorem tw_949 : (Jvm.Cond.selects "BetweenCountsModel" ({ cls := "BetweenCountsModel", name := "harmonic", desc := "(III)J" } : Jvm.MethodName) ({ cls := "BetweenCountsModel", name := "harmonic", desc := "(III)J" } : Jvm.MethodName)) ∈ TS := TS_in (List.mem_of_getElem? (i := 949) (by decide +kernel)) rfl
set_option maxRecDepth 20000 in
theorem tw_950 : (Jvm.Cond.code ({ cls := "BetweenCountsModel", name := "harmonic", desc := "(III)J" } : Jvm.MethodName) prog_10_method_40_code (5 : Nat) (Option.some Jvm.ClassFile.FieldType.long)) ∈ TS := TS_in (List.mem_of_getElem? (i := 950) rfl) rfl
theorem tw_951 : (Jvm.Cond.methodLink "BetweenCountsLaw" (67 : Nat) ({ cls := "BetweenCountsModel", name := "close", desc := "(III)J" } : Jvm.MethodName)) ∈ TS := TS_in (List.mem_of_getElem? (i := 951) (by decide +kernel)) rfl
theorem tw_952 : (Jvm.Cond.instanceMethod ({ cls := "BetweenCountsModel", name := "close", desc := "(III)J" } : Jvm.MethodName)) ∈ TS := TS_in (List.mem_of_getElem? (i := 952) (by decide +kernel)) rfl
theorem tw_953 : (Jvm.Cond.selects "BetweenCountsModel" ({ cls := "BetweenCountsModel", name := "close", desc := "(III)J" } : Jvm.MethodName) ({ cls := "BetweenCountsModel", name := "close", desc := "(III)J" } : Jvm.MethodName)) ∈ TS := TS_in (List.mem_of_getElem? (i := 953) (by decide +kernel)) rfl
set_option maxRecDepth 20000 in
theorem tw_954 : (Jvm.Cond.code ({ cls := "BetweenCountsModel", name := "close", desc := "(III)J" } : Jvm.MethodName) prog_10_method_41_code (9 : Nat) (Option.some Jvm.ClassFile.FieldType.long)) ∈ TS := TS_in (List.mem_of_getElem? (i := 954) rfl) rfl
theorem tw_955 : (Jvm.Cond.methodLink "BetweenCountsLaw" (72 : Nat) ({ cls := "BetweenCountsModel", name := "top", desc := "(I)I" } : Jvm.MethodName)) ∈ TS := TS_in (List.mem_of_getElem? (i := 955) (by decide +kernel)) rfl
theorem tw_956 : (Jvm.Cond.instanceMethod ({ cls := "BetweenCountsModel", name := "top", desc := "(I)I" } : Jvm.MethodName)) ∈ TS := TS_in (List.mem_of_getElem? (i := 956) (by decide +kernel)) rfl
theorem tw_957 : (Jvm.Cond.selects "BetweenCountsModel" ({ cls := "BetweenCountsModel", name := "top", desc := "(I)I" } : Jvm.MethodName) ({ cls := "BetweenCountsModel", name := "top", desc := "(I)I" } : Jvm.MethodName)) ∈ TS := TS_in (List.mem_of_getElem? (i := 957) (by decide +kernel)) rfl
set_option maxRecDepth 20000 in
theorem tw_958 : (Jvm.Cond.code ({ cls := "BetweenCountsModel", name := "top", desc := "(I)I" } : Jvm.MethodName) prog_10_method_44_code (5 : Nat) (Option.some Jvm.ClassFile.FieldType.int)) ∈ TS := TS_in (List.mem_of_getElem? (i := 958) rfl) rfl
theorem tw_959 : (Jvm.Cond.methodLink "BetweenCountsModel" (227 : Nat) ({ cls := "BetweenCountsModel", name := "isGreater", desc := "(II)Z" } : Jvm.MethodName)) ∈ TS := TS_in (List.mem_of_getElem? (i := 959) (by decide +kernel)) rfl
theorem tw_961 : (Jvm.Cond.instanceMethod ({ cls := "BetweenCountsModel", name := "isGreater", desc := "(II)Z" } : Jvm.MethodName)) ∈ TS := TS_in (List.mem_of_getElem? (i := 961) (by decide +kernel)) rfl
set_option maxRecDepth 20000 in
theorem tw_962 : (Jvm.Cond.code ({ cls := "BetweenCountsModel", name := "isGreater", desc := "(II)Z" } : Jvm.MethodName) prog_10_method_43_code (4 : Nat) (Option.some Jvm.ClassFile.FieldType.boolean)) ∈ TS := TS_in (List.mem_of_getElem? (i := 962) rfl) rfl
theorem tw_963 : (Jvm.Cond.methodLink "BetweenCountsModel" (223 : Nat) ({ cls := "BetweenCountsModel", name := "product", desc := "([J[JI[JI)V" } : Jvm.MethodName)) ∈ TS := TS_in (List.mem_of_getElem? (i := 963) (by decide +kernel)) rfl
theorem tw_965 : (Jvm.Cond.instanceMethod ({ cls := "BetweenCountsModel", name := "product", desc := "([J[JI[JI)V" } : Jvm.MethodName)) ∈ TS := TS_in (List.mem_of_getElem? (i := 965) (by decide +kernel)) rfl
set_option maxRecDepth 20000 in
theorem tw_966 : (Jvm.Cond.code ({ cls := "BetweenCountsModel", name := "product", desc := "([J[JI[JI)V" } : Jvm.MethodName) prog_10_method_42_code (12 : Nat) (Option.none : Option Jvm.ClassFile.FieldType)) ∈ TS := TS_in (List.mem_of_getElem? (i := 966) rfl) rfl
theorem tw_967 : (Jvm.Cond.methodLink "BetweenCountsLaw" (77 : Nat) ({ cls := "BetweenCountsModel", name := "resistance", desc := "(IIII)J" } : Jvm.MethodName)) ∈ TS := TS_in (List.mem_of_getElem? (i := 967) (by decide +kernel)) rfl
theorem tw_968 : (Jvm.Cond.instanceMethod ({ cls := "BetweenCountsModel", name := "resistance", desc := "(IIII)J" } : Jvm.MethodName)) ∈ TS := TS_in (List.mem_of_getElem? (i := 968) (by decide +kernel)) rfl
theorem tw_969 : (Jvm.Cond.selects "BetweenCountsModel" ({ cls := "BetweenCountsModel", name := "resistance", desc := "(IIII)J" } : Jvm.MethodName) ({ cls := "BetweenCountsModel", name := "resistance", desc := "(IIII)J" } : Jvm.MethodName)) ∈ TS := TS_in (List.mem_of_getElem? (i := 969) (by decide +kernel)) rfl
set_option maxRecDepth 20000 in
theorem tw_970 : (Jvm.Cond.code ({ cls := "BetweenCountsModel", name := "resistance", desc := "(IIII)J" } : Jvm.MethodName) prog_10_method_52_code (6 : Nat) (Option.some Jvm.ClassFile.FieldType.long)) ∈ TS := TS_in (List.mem_of_getElem? (i := 970) rfl) rfl
theorem tw_971 : (Jvm.Cond.methodLink "BetweenCountsModel" (244 : Nat) ({ cls := "BetweenCountsModel", name := "lookAtPiece", desc := "(I)V" } : Jvm.MethodName)) ∈ TS := TS_in (List.mem_of_getElem? (i := 971) (by decide +kernel)) rfl
theorem tw_973 : (Jvm.Cond.instanceMethod ({ cls := "BetweenCountsModel", name := "lookAtPiece", desc := "(I)V" } : Jvm.MethodName)) ∈ TS := TS_in (List.mem_of_getElem? (i := 973) (by decide +kernel)) rfl
set_option maxRecDepth 20000 in
theorem tw_974 : (Jvm.Cond.code ({ cls := "BetweenCountsModel", name := "lookAtPiece", desc := "(I)V" } : Jvm.MethodName) prog_10_method_45_code (5 : Nat) (Option.none : Option Jvm.ClassFile.FieldType)) ∈ TS := TS_in (List.mem_of_getElem? (i := 974) rfl) rfl
theorem tw_975 : (Jvm.Cond.methodLink "BetweenCountsModel" (233 : Nat) ({ cls := "BetweenCountsModel", name := "invert", desc := "(IJ)Z" } : Jvm.MethodName)) ∈ TS := TS_in (List.mem_of_getElem? (i := 975) (by decide +kernel)) rfl
theorem tw_977 : (Jvm.Cond.instanceMethod ({ cls := "BetweenCountsModel", name := "invert", desc := "(IJ)Z" } : Jvm.MethodName)) ∈ TS := TS_in (List.mem_of_getElem? (i := 977) (by decide +kernel)) rfl
set_option maxRecDepth 20000 in
theorem tw_978 : (Jvm.Cond.code ({ cls := "BetweenCountsModel", name := "invert", desc := "(IJ)Z" } : Jvm.MethodName) prog_10_method_47_code (18 : Nat) (Option.some Jvm.ClassFile.FieldType.boolean)) ∈ TS := TS_in (List.mem_of_getElem? (i := 978) rfl) rfl
theorem tw_979 : (Jvm.Cond.constantLong "BetweenCountsModel" (196 : Nat) (2 : Int64)) ∈ TS := TS_in (List.mem_of_getElem? (i := 979) (by decide +kernel)) rfl
theorem tw_980 : (Jvm.Cond.methodLink "BetweenCountsModel" (237 : Nat) ({ cls := "BetweenCountsModel", name := "power", desc := "(JJJ)J" } : Jvm.MethodName)) ∈ TS := TS_in (List.mem_of_getElem? (i := 980) (by decide +kernel)) rfl
theorem tw_981 : (Jvm.Cond.static ({ cls := "BetweenCountsModel", name := "power", desc := "(JJJ)J" } : Jvm.MethodName)) ∈ TS := TS_in (List.mem_of_getElem? (i := 981) (by decide +kernel)) rfl
set_option maxRecDepth 20000 in
theorem tw_982 : (Jvm.Cond.code ({ cls := "BetweenCountsModel", name := "power", desc := "(JJJ)J" } : Jvm.MethodName) prog_10_method_46_code (12 : Nat) (Option.some Jvm.ClassFile.FieldType.long)) ∈ TS := TS_in (List.mem_of_getElem? (i := 982) rfl) rfl
theorem tw_983 : (Jvm.Cond.methodLink "BetweenCountsModel" (247 : Nat) ({ cls := "BetweenCountsModel", name := "begin", desc := "()V" } : Jvm.MethodName)) ∈ TS := TS_in (List.mem_of_getElem? (i := 983) (by decide +kernel)) rfl
theorem tw_985 : (Jvm.Cond.instanceMethod ({ cls := "BetweenCountsModel", name := "begin", desc := "()V" } : Jvm.MethodName)) ∈ TS := TS_in (List.mem_of_getElem? (i := 985) (by decide +kernel)) rfl
set_option maxRecDepth 20000 in
theorem tw_986 : (Jvm.Cond.code ({ cls := "BetweenCountsModel", name := "begin", desc := "()V" } : Jvm.MethodName) prog_10_method_50_code (1 : Nat) (Option.none : Option Jvm.ClassFile.FieldType)) ∈ TS := TS_in (List.mem_of_getElem? (i := 986) rfl) rfl
theorem tw_987 : (Jvm.Cond.methodLink "BetweenCountsModel" (250 : Nat) ({ cls := "BetweenCountsModel", name := "potential", desc := "(III)J" } : Jvm.MethodName)) ∈ TS := TS_in (List.mem_of_getElem? (i := 987) (by decide +kernel)) rfl
theorem tw_989 : (Jvm.Cond.instanceMethod ({ cls := "BetweenCountsModel", name := "potential", desc := "(III)J" } : Jvm.MethodName)) ∈ TS := TS_in (List.mem_of_getElem? (i := 989) (by decide +kernel)) rfl
set_option maxRecDepth 20000 in
theorem tw_990 : (Jvm.Cond.code ({ cls := "BetweenCountsModel", name := "potential", desc := "(III)J" } : Jvm.MethodName) prog_10_method_51_code (4 : Nat) (Option.some Jvm.ClassFile.FieldType.long)) ∈ TS := TS_in (List.mem_of_getElem? (i := 990) rfl) rfl
theorem tw_991 : (Jvm.Cond.methodLink "BetweenCountsModel" (241 : Nat) ({ cls := "BetweenCountsModel", name := "whole", desc := "([J)V" } : Jvm.MethodName)) ∈ TS := TS_in (List.mem_of_getElem? (i := 991) (by decide +kernel)) rfl
theorem tw_993 : (Jvm.Cond.instanceMethod ({ cls := "BetweenCountsModel", name := "whole", desc := "([J)V" } : Jvm.MethodName)) ∈ TS := TS_in (List.mem_of_getElem? (i := 993) (by decide +kernel)) rfl
set_option maxRecDepth 20000 in
theorem tw_994 : (Jvm.Cond.code ({ cls := "BetweenCountsModel", name := "whole", desc := "([J)V" } : Jvm.MethodName) prog_10_method_48_code (4 : Nat) (Option.none : Option Jvm.ClassFile.FieldType)) ∈ TS := TS_in (List.mem_of_getElem? (i := 994) rfl) rfl
theorem tw_995 : (Jvm.Cond.methodLink "BetweenCountsModel" (193 : Nat) ({ cls := "BetweenCountsModel", name := "less", desc := "([J[J)V" } : Jvm.MethodName)) ∈ TS := TS_in (List.mem_of_getElem? (i := 995) (by decide +kernel)) rfl
theorem tw_997 : (Jvm.Cond.instanceMethod ({ cls := "BetweenCountsModel", name := "less", desc := "([J[J)V" } : Jvm.MethodName)) ∈ TS := TS_in (List.mem_of_getElem? (i := 997) (by decide +kernel)) rfl
set_option maxRecDepth 20000 in
theorem tw_998 : (Jvm.Cond.code ({ cls := "BetweenCountsModel", name := "less", desc := "([J[J)V" } : Jvm.MethodName) prog_10_method_22_code (8 : Nat) (Option.none : Option Jvm.ClassFile.FieldType)) ∈ TS := TS_in (List.mem_of_getElem? (i := 998) rfl) rfl
theorem tw_999 : (Jvm.Cond.methodLink "BetweenCountsModel" (189 : Nat) ({ cls := "BetweenCountsModel", name := "compare", desc := "([J[J)I" } : Jvm.MethodName)) ∈ TS := TS_in (List.mem_of_getElem? (i := 999) (by decide +kernel)) rfl
theorem tw_1001 : (Jvm.Cond.instanceMethod ({ cls := "BetweenCountsModel", name := "compare", desc := "([J[J)I" } : Jvm.MethodName)) ∈ TS := TS_in (List.mem_of_getElem? (i := 1001) (by decide +kernel)) rfl
set_option maxRecDepth 20000 in
theorem tw_1002 : (Jvm.Cond.code ({ cls := "BetweenCountsModel", name := "compare", desc := "([J[J)I" } : Jvm.MethodName) prog_10_method_23_code (5 : Nat) (Option.some Jvm.ClassFile.FieldType.int)) ∈ TS := TS_in (List.mem_of_getElem? (i := 1002) rfl) rfl
theorem tw_1003 : (Jvm.Cond.methodLink "BetweenCountsModel" (253 : Nat) ({ cls := "BetweenCountsModel", name := "treesOf", desc := "([J)V" } : Jvm.MethodName)) ∈ TS := TS_in (List.mem_of_getElem? (i := 1003) (by decide +kernel)) rfl
theorem tw_1005 : (Jvm.Cond.instanceMethod ({ cls := "BetweenCountsModel", name := "treesOf", desc := "([J)V" } : Jvm.MethodName)) ∈ TS := TS_in (List.mem_of_getElem? (i := 1005) (by decide +kernel)) rfl
set_option maxRecDepth 20000 in
theorem tw_1006 : (Jvm.Cond.code ({ cls := "BetweenCountsModel", name := "treesOf", desc := "([J)V" } : Jvm.MethodName) prog_10_method_49_code (3 : Nat) (Option.none : Option Jvm.ClassFile.FieldType)) ∈ TS := TS_in (List.mem_of_getElem? (i := 1006) rfl) rfl
theorem tw_1007 : (Jvm.Cond.methodLink "BetweenCountsModel" (256 : Nat) ({ cls := "BetweenCountsModel", name := "lowest", desc := "()V" } : Jvm.MethodName)) ∈ TS := TS_in (List.mem_of_getElem? (i := 1007) (by decide +kernel)) rfl
theorem tw_1009 : (Jvm.Cond.instanceMethod ({ cls := "BetweenCountsModel", name := "lowest", desc := "()V" } : Jvm.MethodName)) ∈ TS := TS_in (List.mem_of_getElem? (i := 1009) (by decide +kernel)) rfl
set_option maxRecDepth 20000 in
theorem tw_1010 : (Jvm.Cond.code ({ cls := "BetweenCountsModel", name := "lowest", desc := "()V" } : Jvm.MethodName) prog_10_method_31_code (3 : Nat) (Option.none : Option Jvm.ClassFile.FieldType)) ∈ TS := TS_in (List.mem_of_getElem? (i := 1010) rfl) rfl
theorem tw_1011 : (Jvm.Cond.methodLink "BetweenCountsModel" (185 : Nat) ({ cls := "BetweenCountsModel", name := "half", desc := "([J)V" } : Jvm.MethodName)) ∈ TS := TS_in (List.mem_of_getElem? (i := 1011) (by decide +kernel)) rfl
theorem tw_1013 : (Jvm.Cond.instanceMethod ({ cls := "BetweenCountsModel", name := "half", desc := "([J)V" } : Jvm.MethodName)) ∈ TS := TS_in (List.mem_of_getElem? (i := 1013) (by decide +kernel)) rfl
set_option maxRecDepth 20000 in
theorem tw_1014 : (Jvm.Cond.code ({ cls := "BetweenCountsModel", name := "half", desc := "([J)V" } : Jvm.MethodName) prog_10_method_30_code (3 : Nat) (Option.none : Option Jvm.ClassFile.FieldType)) ∈ TS := TS_in (List.mem_of_getElem? (i := 1014) rfl) rfl
theorem tw_1015 : (Jvm.Cond.methodLink "BetweenCountsModel" (198 : Nat) ({ cls := "BetweenCountsModel", name := "divide", desc := "([J)V" } : Jvm.MethodName)) ∈ TS := TS_in (List.mem_of_getElem? (i := 1015) (by decide +kernel)) rfl
theorem tw_1017 : (Jvm.Cond.instanceMethod ({ cls := "BetweenCountsModel", name := "divide", desc := "([J)V" } : Jvm.MethodName)) ∈ TS := TS_in (List.mem_of_getElem? (i := 1017) (by decide +kernel)) rfl
set_option maxRecDepth 20000 in
theorem tw_1018 : (Jvm.Cond.code ({ cls := "BetweenCountsModel", name := "divide", desc := "([J)V" } : Jvm.MethodName) prog_10_method_32_code (3 : Nat) (Option.none : Option Jvm.ClassFile.FieldType)) ∈ TS := TS_in (List.mem_of_getElem? (i := 1018) rfl) rfl
theorem tw_1019 : (Jvm.Cond.methodLink "BetweenCountsLaw" (81 : Nat) ({ cls := "BetweenCountsModel", name := "carried", desc := "(III)J" } : Jvm.MethodName)) ∈ TS := TS_in (List.mem_of_getElem? (i := 1019) (by decide +kernel)) rfl
theorem tw_1020 : (Jvm.Cond.instanceMethod ({ cls := "BetweenCountsModel", name := "carried", desc := "(III)J" } : Jvm.MethodName)) ∈ TS := TS_in (List.mem_of_getElem? (i := 1020) (by decide +kernel)) rfl
theorem tw_1021 : (Jvm.Cond.selects "BetweenCountsModel" ({ cls := "BetweenCountsModel", name := "carried", desc := "(III)J" } : Jvm.MethodName) ({ cls := "BetweenCountsModel", name := "carried", desc := "(III)J" } : Jvm.MethodName)) ∈ TS := TS_in (List.mem_of_getElem? (i := 1021) (by decide +kernel)) rfl
set_option maxRecDepth 20000 in
theorem tw_1022 : (Jvm.Cond.code ({ cls := "BetweenCountsModel", name := "carried", desc := "(III)J" } : Jvm.MethodName) prog_10_method_53_code (6 : Nat) (Option.some Jvm.ClassFile.FieldType.long)) ∈ TS := TS_in (List.mem_of_getElem? (i := 1022) rfl) rfl
theorem tw_1023 : (Jvm.Cond.methodLink "BetweenCountsModel" (259 : Nat) ({ cls := "BetweenCountsModel", name := "addFlow", desc := "(III)V" } : Jvm.MethodName)) ∈ TS := TS_in (List.mem_of_getElem? (i := 1023) (by decide +kernel)) rfl
theorem tw_1025 : (Jvm.Cond.instanceMethod ({ cls := "BetweenCountsModel", name := "addFlow", desc := "(III)V" } : Jvm.MethodName)) ∈ TS := TS_in (List.mem_of_getElem? (i := 1025) (by decide +kernel)) rfl
set_option maxRecDepth 20000 in
theorem tw_1026 : (Jvm.Cond.code ({ cls := "BetweenCountsModel", name := "addFlow", desc := "(III)V" } : Jvm.MethodName) prog_10_method_54_code (8 : Nat) (Option.none : Option Jvm.ClassFile.FieldType)) ∈ TS := TS_in (List.mem_of_getElem? (i := 1026) rfl) rfl
theorem tw_1027 : (Jvm.Cond.methodLink "BetweenCountsLaw" (85 : Nat) ({ cls := "BetweenCountsModel", name := "told", desc := "(I)I" } : Jvm.MethodName)) ∈ TS := TS_in (List.mem_of_getElem? (i := 1027) (by decide +kernel)) rfl
theorem tw_1028 : (Jvm.Cond.instanceMethod ({ cls := "BetweenCountsModel", name := "told", desc := "(I)I" } : Jvm.MethodName)) ∈ TS := TS_in (List.mem_of_getElem? (i := 1028) (by decide +kernel)) rfl
theorem tw_1029 : (Jvm.Cond.selects "BetweenCountsModel" ({ cls := "BetweenCountsModel", name := "told", desc := "(I)I" } : Jvm.MethodName) ({ cls := "BetweenCountsModel", name := "told", desc := "(I)I" } : Jvm.MethodName)) ∈ TS := TS_in (List.mem_of_getElem? (i := 1029) (by decide +kernel)) rfl
set_option maxRecDepth 20000 in
theorem tw_1030 : (Jvm.Cond.code ({ cls := "BetweenCountsModel", name := "told", desc := "(I)I" } : Jvm.MethodName) prog_10_method_55_code (5 : Nat) (Option.some Jvm.ClassFile.FieldType.int)) ∈ TS := TS_in (List.mem_of_getElem? (i := 1030) rfl) rfl
end
section
theorem dX0_init_0 : decode cX0_init 0 = .ok (.aload_n 0, 1) := by decide +kernel
theorem dX0_init_1 : decode cX0_init 1 = .ok (.invokespecial 3, 3) := by decide +kernel
theorem dX0_init_4 : decode cX0_init 4 = .ok (.aload_n 0, 1) := by decide +kernel
theorem dX0_init_5 : decode cX0_init 5 = .ok (.iconst 0, 1) := by decide +kernel
theorem dX0_init_6 : decode cX0_init 6 = .ok (.putfield 9, 3) := by decide +kernel
theorem dX0_init_9 : decode cX0_init 9 = .ok (.aload_n 0, 1) := by decide +kernel
theorem dX0_init_10 : decode cX0_init 10 = .ok (.iload_n 1, 1) := by decide +kernel
theorem dX0_init_11 : decode cX0_init 11 = .ok (.iconst 1, 1) := by decide +kernel
theorem dX0_init_12 : decode cX0_init 12 = .ok (.invokestatic 15, 3) := by decide +kernel
theorem dX0_init_15 : decode cX0_init 15 = .ok (.newarray .long, 2) := by decide +kernel
theorem dX0_init_17 : decode cX0_init 17 = .ok (.putfield 21, 3) := by decide +kernel
theorem dX0_init_20 : decode cX0_init 20 = .ok (.return_, 1) := by decide +kernel
theorem dX0_setSmall_0 : decode cX0_setSmall 0 = .ok (.aload_n 0, 1) := by decide +kernel
theorem dX0_setSmall_1 : decode cX0_setSmall 1 = .ok (.iconst 0, 1) := by decide +kernel
theorem dX0_setSmall_2 : decode cX0_setSmall 2 = .ok (.putfield 9, 3) := by decide +kernel
theorem dX0_setSmall_5 : decode cX0_setSmall 5 = .ok (.aload_n 0, 1) := by decide +kernel
theorem dX0_setSmall_6 : decode cX0_setSmall 6 = .ok (.lload_n 1, 1) := by decide +kernel
theorem dX0_setSmall_7 : decode cX0_setSmall 7 = .ok (.invokevirtual 25, 3) := by decide +kernel
theorem dX0_setSmall_10 : decode cX0_setSmall 10 = .ok (.return_, 1) := by decide +kernel
theorem dX0_set_0 : decode cX0_set 0 = .ok (.aload_n 0, 1) := by decide +kernel
theorem dX0_set_1 : decode cX0_set 1 = .ok (.aload_n 1, 1) := by decide +kernel
theorem dX0_set_2 : decode cX0_set 2 = .ok (.getfield 9, 3) := by decide +kernel
theorem dX0_set_5 : decode cX0_set 5 = .ok (.aload_n 0, 1) := by decide +kernel
theorem dX0_set_6 : decode cX0_set 6 = .ok (.getfield 21, 3) := by decide +kernel
theorem dX0_set_9 : decode cX0_set 9 = .ok (.arraylength, 1) := by decide +kernel
theorem dX0_set_10 : decode cX0_set 10 = .ok (.invokestatic 29, 3) := by decide +kernel
theorem dX0_set_13 : decode cX0_set 13 = .ok (.putfield 9, 3) := by decide +kernel
theorem dX0_set_16 : decode cX0_set 16 = .ok (.aload_n 1, 1) := by decide +kernel
theorem dX0_set_17 : decode cX0_set 17 = .ok (.getfield 21, 3) := by decide +kernel
theorem dX0_set_20 : decode cX0_set 20 = .ok (.iconst 0, 1) := by decide +kernel
theorem dX0_set_21 : decode cX0_set 21 = .ok (.aload_n 0, 1) := by decide +kernel
theorem dX0_set_22 : decode cX0_set 22 = .ok (.getfield 21, 3) := by decide +kernel
theorem dX0_set_25 : decode cX0_set 25 = .ok (.iconst 0, 1) := by decide +kernel
theorem dX0_set_26 : decode cX0_set 26 = .ok (.aload_n 0, 1) := by decide +kernel
theorem dX0_set_27 : decode cX0_set 27 = .ok (.getfield 9, 3) := by decide +kernel
theorem dX0_set_30 : decode cX0_set 30 = .ok (.invokestatic 32, 3) := by decide +kernel
theorem dX0_set_33 : decode cX0_set 33 = .ok (.return_, 1) := by decide +kernel
theorem dX0_append_0 : decode cX0_append 0 = .ok (.lload_n 1, 1) := by decide +kernel
theorem dX0_append_1 : decode cX0_append 1 = .ok (.lconst 0, 1) := by decide +kernel
theorem dX0_append_2 : decode cX0_append 2 = .ok (.lcmp, 1) := by decide +kernel
theorem dX0_append_3 : decode cX0_append 3 = .ok (.ifCond .le 35, 3) := by decide +kernel
theorem dX0_append_6 : decode cX0_append 6 = .ok (.aload_n 0, 1) := by decide +kernel
theorem dX0_append_7 : decode cX0_append 7 = .ok (.getfield 9, 3) := by decide +kernel
theorem dX0_append_10 : decode cX0_append 10 = .ok (.aload_n 0, 1) := by decide +kernel
theorem dX0_append_11 : decode cX0_append 11 = .ok (.getfield 21, 3) := by decide +kernel
theorem dX0_append_14 : decode cX0_append 14 = .ok (.arraylength, 1) := by decide +kernel
theorem dX0_append_15 : decode cX0_append 15 = .ok (.if_icmp .ge 23, 3) := by decide +kernel
theorem dX0_append_18 : decode cX0_append 18 = .ok (.aload_n 0, 1) := by decide +kernel
theorem dX0_append_19 : decode cX0_append 19 = .ok (.getfield 21, 3) := by decide +kernel
theorem dX0_append_22 : decode cX0_append 22 = .ok (.aload_n 0, 1) := by decide +kernel
theorem dX0_append_23 : decode cX0_append 23 = .ok (.getfield 9, 3) := by decide +kernel
theorem dX0_append_26 : decode cX0_append 26 = .ok (.lload_n 1, 1) := by decide +kernel
theorem dX0_append_27 : decode cX0_append 27 = .ok (.lastore, 1) := by decide +kernel
theorem dX0_append_28 : decode cX0_append 28 = .ok (.aload_n 0, 1) := by decide +kernel
theorem dX0_append_29 : decode cX0_append 29 = .ok (.dup, 1) := by decide +kernel
theorem dX0_append_30 : decode cX0_append 30 = .ok (.getfield 9, 3) := by decide +kernel
theorem dX0_append_33 : decode cX0_append 33 = .ok (.iconst 1, 1) := by decide +kernel
theorem dX0_append_34 : decode cX0_append 34 = .ok (.iadd, 1) := by decide +kernel
theorem dX0_append_35 : decode cX0_append 35 = .ok (.putfield 9, 3) := by decide +kernel
theorem dX0_append_38 : decode cX0_append 38 = .ok (.return_, 1) := by decide +kernel
theorem dX0_digitAt_0 : decode cX0_digitAt 0 = .ok (.iload_n 1, 1) := by decide +kernel
theorem dX0_digitAt_1 : decode cX0_digitAt 1 = .ok (.ifCond .lt 20, 3) := by decide +kernel
theorem dX0_digitAt_4 : decode cX0_digitAt 4 = .ok (.iload_n 1, 1) := by decide +kernel
theorem dX0_digitAt_5 : decode cX0_digitAt 5 = .ok (.aload_n 0, 1) := by decide +kernel
theorem dX0_digitAt_6 : decode cX0_digitAt 6 = .ok (.getfield 9, 3) := by decide +kernel
theorem dX0_digitAt_9 : decode cX0_digitAt 9 = .ok (.if_icmp .ge 12, 3) := by decide +kernel
theorem dX0_digitAt_12 : decode cX0_digitAt 12 = .ok (.aload_n 0, 1) := by decide +kernel
theorem dX0_digitAt_13 : decode cX0_digitAt 13 = .ok (.getfield 21, 3) := by decide +kernel
theorem dX0_digitAt_16 : decode cX0_digitAt 16 = .ok (.iload_n 1, 1) := by decide +kernel
theorem dX0_digitAt_17 : decode cX0_digitAt 17 = .ok (.laload, 1) := by decide +kernel
theorem dX0_digitAt_18 : decode cX0_digitAt 18 = .ok (.goto 4, 3) := by decide +kernel
theorem dX0_digitAt_21 : decode cX0_digitAt 21 = .ok (.lconst 0, 1) := by decide +kernel
theorem dX0_digitAt_22 : decode cX0_digitAt 22 = .ok (.lreturn, 1) := by decide +kernel
theorem dX0_pad_0 : decode cX0_pad 0 = .ok (.iload_n 1, 1) := by decide +kernel
theorem dX0_pad_1 : decode cX0_pad 1 = .ok (.aload_n 0, 1) := by decide +kernel
theorem dX0_pad_2 : decode cX0_pad 2 = .ok (.getfield 21, 3) := by decide +kernel
theorem dX0_pad_5 : decode cX0_pad 5 = .ok (.arraylength, 1) := by decide +kernel
theorem dX0_pad_6 : decode cX0_pad 6 = .ok (.invokestatic 29, 3) := by decide +kernel
theorem dX0_pad_9 : decode cX0_pad 9 = .ok (.istore_n 2, 1) := by decide +kernel
theorem dX0_pad_10 : decode cX0_pad 10 = .ok (.aload_n 0, 1) := by decide +kernel
theorem dX0_pad_11 : decode cX0_pad 11 = .ok (.getfield 9, 3) := by decide +kernel
theorem dX0_pad_14 : decode cX0_pad 14 = .ok (.istore_n 3, 1) := by decide +kernel
theorem dX0_pad_15 : decode cX0_pad 15 = .ok (.iload_n 3, 1) := by decide +kernel
theorem dX0_pad_16 : decode cX0_pad 16 = .ok (.iload_n 2, 1) := by decide +kernel
theorem dX0_pad_17 : decode cX0_pad 17 = .ok (.if_icmp .ge 16, 3) := by decide +kernel
theorem dX0_pad_20 : decode cX0_pad 20 = .ok (.aload_n 0, 1) := by decide +kernel
theorem dX0_pad_21 : decode cX0_pad 21 = .ok (.getfield 21, 3) := by decide +kernel
theorem dX0_pad_24 : decode cX0_pad 24 = .ok (.iload_n 3, 1) := by decide +kernel
theorem dX0_pad_25 : decode cX0_pad 25 = .ok (.lconst 0, 1) := by decide +kernel
theorem dX0_pad_26 : decode cX0_pad 26 = .ok (.lastore, 1) := by decide +kernel
theorem dX0_pad_27 : decode cX0_pad 27 = .ok (.iinc 3 1, 3) := by decide +kernel
theorem dX0_pad_30 : decode cX0_pad 30 = .ok (.goto (-15), 3) := by decide +kernel
theorem dX0_pad_33 : decode cX0_pad 33 = .ok (.aload_n 0, 1) := by decide +kernel
theorem dX0_pad_34 : decode cX0_pad 34 = .ok (.aload_n 0, 1) := by decide +kernel
theorem dX0_pad_35 : decode cX0_pad 35 = .ok (.getfield 9, 3) := by decide +kernel
theorem dX0_pad_38 : decode cX0_pad 38 = .ok (.iload_n 2, 1) := by decide +kernel
theorem dX0_pad_39 : decode cX0_pad 39 = .ok (.invokestatic 15, 3) := by decide +kernel
theorem dX0_pad_42 : decode cX0_pad 42 = .ok (.putfield 9, 3) := by decide +kernel
theorem dX0_pad_45 : decode cX0_pad 45 = .ok (.return_, 1) := by decide +kernel
theorem dX0_cutAt_0 : decode cX0_cutAt 0 = .ok (.aload_n 0, 1) := by decide +kernel
theorem dX0_cutAt_1 : decode cX0_cutAt 1 = .ok (.iconst 0, 1) := by decide +kernel
theorem dX0_cutAt_2 : decode cX0_cutAt 2 = .ok (.iload_n 1, 1) := by decide +kernel
theorem dX0_cutAt_3 : decode cX0_cutAt 3 = .ok (.aload_n 0, 1) := by decide +kernel
theorem dX0_cutAt_4 : decode cX0_cutAt 4 = .ok (.getfield 9, 3) := by decide +kernel
theorem dX0_cutAt_7 : decode cX0_cutAt 7 = .ok (.invokestatic 29, 3) := by decide +kernel
theorem dX0_cutAt_10 : decode cX0_cutAt 10 = .ok (.invokestatic 15, 3) := by decide +kernel
theorem dX0_cutAt_13 : decode cX0_cutAt 13 = .ok (.putfield 9, 3) := by decide +kernel
theorem dX0_cutAt_16 : decode cX0_cutAt 16 = .ok (.return_, 1) := by decide +kernel
theorem dX0_trim_0 : decode cX0_trim 0 = .ok (.aload_n 0, 1) := by decide +kernel
theorem dX0_trim_1 : decode cX0_trim 1 = .ok (.getfield 9, 3) := by decide +kernel
theorem dX0_trim_4 : decode cX0_trim 4 = .ok (.ifCond .le 32, 3) := by decide +kernel
theorem dX0_trim_7 : decode cX0_trim 7 = .ok (.aload_n 0, 1) := by decide +kernel
theorem dX0_trim_8 : decode cX0_trim 8 = .ok (.getfield 21, 3) := by decide +kernel
theorem dX0_trim_11 : decode cX0_trim 11 = .ok (.aload_n 0, 1) := by decide +kernel
theorem dX0_trim_12 : decode cX0_trim 12 = .ok (.getfield 9, 3) := by decide +kernel
theorem dX0_trim_15 : decode cX0_trim 15 = .ok (.iconst 1, 1) := by decide +kernel
theorem dX0_trim_16 : decode cX0_trim 16 = .ok (.isub, 1) := by decide +kernel
theorem dX0_trim_17 : decode cX0_trim 17 = .ok (.laload, 1) := by decide +kernel
theorem dX0_trim_18 : decode cX0_trim 18 = .ok (.lconst 0, 1) := by decide +kernel
theorem dX0_trim_19 : decode cX0_trim 19 = .ok (.lcmp, 1) := by decide +kernel
theorem dX0_trim_20 : decode cX0_trim 20 = .ok (.ifCond .ne 16, 3) := by decide +kernel
theorem dX0_trim_23 : decode cX0_trim 23 = .ok (.aload_n 0, 1) := by decide +kernel
theorem dX0_trim_24 : decode cX0_trim 24 = .ok (.dup, 1) := by decide +kernel
theorem dX0_trim_25 : decode cX0_trim 25 = .ok (.getfield 9, 3) := by decide +kernel
theorem dX0_trim_28 : decode cX0_trim 28 = .ok (.iconst 1, 1) := by decide +kernel
theorem dX0_trim_29 : decode cX0_trim 29 = .ok (.isub, 1) := by decide +kernel
theorem dX0_trim_30 : decode cX0_trim 30 = .ok (.putfield 9, 3) := by decide +kernel
theorem dX0_trim_33 : decode cX0_trim 33 = .ok (.goto (-33), 3) := by decide +kernel
theorem dX0_trim_36 : decode cX0_trim 36 = .ok (.return_, 1) := by decide +kernel
theorem dX0_compareWith_0 : decode cX0_compareWith 0 = .ok (.aload_n 0, 1) := by decide +kernel
theorem dX0_compareWith_1 : decode cX0_compareWith 1 = .ok (.getfield 9, 3) := by decide +kernel
theorem dX0_compareWith_4 : decode cX0_compareWith 4 = .ok (.aload_n 1, 1) := by decide +kernel
theorem dX0_compareWith_5 : decode cX0_compareWith 5 = .ok (.getfield 9, 3) := by decide +kernel
theorem dX0_compareWith_8 : decode cX0_compareWith 8 = .ok (.if_icmp .eq 20, 3) := by decide +kernel
theorem dX0_compareWith_11 : decode cX0_compareWith 11 = .ok (.aload_n 0, 1) := by decide +kernel
theorem dX0_compareWith_12 : decode cX0_compareWith 12 = .ok (.getfield 9, 3) := by decide +kernel
theorem dX0_compareWith_15 : decode cX0_compareWith 15 = .ok (.aload_n 1, 1) := by decide +kernel
theorem dX0_compareWith_16 : decode cX0_compareWith 16 = .ok (.getfield 9, 3) := by decide +kernel
theorem dX0_compareWith_19 : decode cX0_compareWith 19 = .ok (.if_icmp .ge 7, 3) := by decide +kernel
theorem dX0_compareWith_22 : decode cX0_compareWith 22 = .ok (.iconst (-1), 1) := by decide +kernel
theorem dX0_compareWith_23 : decode cX0_compareWith 23 = .ok (.goto 4, 3) := by decide +kernel
theorem dX0_compareWith_26 : decode cX0_compareWith 26 = .ok (.iconst 1, 1) := by decide +kernel
theorem dX0_compareWith_27 : decode cX0_compareWith 27 = .ok (.ireturn, 1) := by decide +kernel
theorem dX0_compareWith_28 : decode cX0_compareWith 28 = .ok (.aload_n 0, 1) := by decide +kernel
theorem dX0_compareWith_29 : decode cX0_compareWith 29 = .ok (.getfield 9, 3) := by decide +kernel
theorem dX0_compareWith_32 : decode cX0_compareWith 32 = .ok (.iconst 1, 1) := by decide +kernel
theorem dX0_compareWith_33 : decode cX0_compareWith 33 = .ok (.isub, 1) := by decide +kernel
theorem dX0_compareWith_34 : decode cX0_compareWith 34 = .ok (.istore_n 2, 1) := by decide +kernel
theorem dX0_compareWith_35 : decode cX0_compareWith 35 = .ok (.iload_n 2, 1) := by decide +kernel
theorem dX0_compareWith_36 : decode cX0_compareWith 36 = .ok (.ifCond .lt 47, 3) := by decide +kernel
theorem dX0_compareWith_39 : decode cX0_compareWith 39 = .ok (.aload_n 0, 1) := by decide +kernel
theorem dX0_compareWith_40 : decode cX0_compareWith 40 = .ok (.getfield 21, 3) := by decide +kernel
theorem dX0_compareWith_43 : decode cX0_compareWith 43 = .ok (.iload_n 2, 1) := by decide +kernel
theorem dX0_compareWith_44 : decode cX0_compareWith 44 = .ok (.laload, 1) := by decide +kernel
theorem dX0_compareWith_45 : decode cX0_compareWith 45 = .ok (.aload_n 1, 1) := by decide +kernel
theorem dX0_compareWith_46 : decode cX0_compareWith 46 = .ok (.getfield 21, 3) := by decide +kernel
theorem dX0_compareWith_49 : decode cX0_compareWith 49 = .ok (.iload_n 2, 1) := by decide +kernel
theorem dX0_compareWith_50 : decode cX0_compareWith 50 = .ok (.laload, 1) := by decide +kernel
theorem dX0_compareWith_51 : decode cX0_compareWith 51 = .ok (.lcmp, 1) := by decide +kernel
theorem dX0_compareWith_52 : decode cX0_compareWith 52 = .ok (.ifCond .eq 25, 3) := by decide +kernel
theorem dX0_compareWith_55 : decode cX0_compareWith 55 = .ok (.aload_n 0, 1) := by decide +kernel
theorem dX0_compareWith_56 : decode cX0_compareWith 56 = .ok (.getfield 21, 3) := by decide +kernel
theorem dX0_compareWith_59 : decode cX0_compareWith 59 = .ok (.iload_n 2, 1) := by decide +kernel
theorem dX0_compareWith_60 : decode cX0_compareWith 60 = .ok (.laload, 1) := by decide +kernel
theorem dX0_compareWith_61 : decode cX0_compareWith 61 = .ok (.aload_n 1, 1) := by decide +kernel
theorem dX0_compareWith_62 : decode cX0_compareWith 62 = .ok (.getfield 21, 3) := by decide +kernel
theorem dX0_compareWith_65 : decode cX0_compareWith 65 = .ok (.iload_n 2, 1) := by decide +kernel
theorem dX0_compareWith_66 : decode cX0_compareWith 66 = .ok (.laload, 1) := by decide +kernel
theorem dX0_compareWith_67 : decode cX0_compareWith 67 = .ok (.lcmp, 1) := by decide +kernel
theorem dX0_compareWith_68 : decode cX0_compareWith 68 = .ok (.ifCond .ge 7, 3) := by decide +kernel
theorem dX0_compareWith_71 : decode cX0_compareWith 71 = .ok (.iconst (-1), 1) := by decide +kernel
theorem dX0_compareWith_72 : decode cX0_compareWith 72 = .ok (.goto 4, 3) := by decide +kernel
theorem dX0_compareWith_75 : decode cX0_compareWith 75 = .ok (.iconst 1, 1) := by decide +kernel
theorem dX0_compareWith_76 : decode cX0_compareWith 76 = .ok (.ireturn, 1) := by decide +kernel
theorem dX0_compareWith_77 : decode cX0_compareWith 77 = .ok (.iinc 2 (-1), 3) := by decide +kernel
theorem dX0_compareWith_80 : decode cX0_compareWith 80 = .ok (.goto (-45), 3) := by decide +kernel
theorem dX0_compareWith_83 : decode cX0_compareWith 83 = .ok (.iconst 0, 1) := by decide +kernel
theorem dX0_compareWith_84 : decode cX0_compareWith 84 = .ok (.ireturn, 1) := by decide +kernel
theorem dX0_times_0 : decode cX0_times 0 = .ok (.lconst 0, 1) := by decide +kernel
theorem dX0_times_1 : decode cX0_times 1 = .ok (.lstore_n 3, 1) := by decide +kernel
theorem dX0_times_2 : decode cX0_times 2 = .ok (.iconst 0, 1) := by decide +kernel
theorem dX0_times_3 : decode cX0_times 3 = .ok (.istore 5, 2) := by decide +kernel
theorem dX0_times_5 : decode cX0_times 5 = .ok (.iload 5, 2) := by decide +kernel
theorem dX0_times_7 : decode cX0_times 7 = .ok (.aload_n 0, 1) := by decide +kernel
theorem dX0_times_8 : decode cX0_times 8 = .ok (.getfield 9, 3) := by decide +kernel
theorem dX0_times_11 : decode cX0_times 11 = .ok (.if_icmp .ge 41, 3) := by decide +kernel
theorem dX0_times_14 : decode cX0_times 14 = .ok (.aload_n 0, 1) := by decide +kernel
theorem dX0_times_15 : decode cX0_times 15 = .ok (.getfield 21, 3) := by decide +kernel
theorem dX0_times_18 : decode cX0_times 18 = .ok (.iload 5, 2) := by decide +kernel
theorem dX0_times_20 : decode cX0_times 20 = .ok (.laload, 1) := by decide +kernel
theorem dX0_times_21 : decode cX0_times 21 = .ok (.lload_n 1, 1) := by decide +kernel
theorem dX0_times_22 : decode cX0_times 22 = .ok (.lmul, 1) := by decide +kernel
theorem dX0_times_23 : decode cX0_times 23 = .ok (.lload_n 3, 1) := by decide +kernel
theorem dX0_times_24 : decode cX0_times 24 = .ok (.ladd, 1) := by decide +kernel
theorem dX0_times_25 : decode cX0_times 25 = .ok (.lstore 6, 2) := by decide +kernel
theorem dX0_times_27 : decode cX0_times 27 = .ok (.aload_n 0, 1) := by decide +kernel
theorem dX0_times_28 : decode cX0_times 28 = .ok (.getfield 21, 3) := by decide +kernel
theorem dX0_times_31 : decode cX0_times 31 = .ok (.iload 5, 2) := by decide +kernel
theorem dX0_times_33 : decode cX0_times 33 = .ok (.lload 6, 2) := by decide +kernel
theorem dX0_times_35 : decode cX0_times 35 = .ok (.ldc2_w 38, 3) := by decide +kernel
theorem dX0_times_38 : decode cX0_times 38 = .ok (.land, 1) := by decide +kernel
theorem dX0_times_39 : decode cX0_times 39 = .ok (.lastore, 1) := by decide +kernel
theorem dX0_times_40 : decode cX0_times 40 = .ok (.lload 6, 2) := by decide +kernel
theorem dX0_times_42 : decode cX0_times 42 = .ok (.bipush 30, 2) := by decide +kernel
theorem dX0_times_44 : decode cX0_times 44 = .ok (.lshr, 1) := by decide +kernel
theorem dX0_times_45 : decode cX0_times 45 = .ok (.lstore_n 3, 1) := by decide +kernel
theorem dX0_times_46 : decode cX0_times 46 = .ok (.iinc 5 1, 3) := by decide +kernel
theorem dX0_times_49 : decode cX0_times 49 = .ok (.goto (-44), 3) := by decide +kernel
theorem dX0_times_52 : decode cX0_times 52 = .ok (.aload_n 0, 1) := by decide +kernel
theorem dX0_times_53 : decode cX0_times 53 = .ok (.lload_n 3, 1) := by decide +kernel
theorem dX0_times_54 : decode cX0_times 54 = .ok (.invokevirtual 25, 3) := by decide +kernel
theorem dX0_times_57 : decode cX0_times 57 = .ok (.aload_n 0, 1) := by decide +kernel
theorem dX0_times_58 : decode cX0_times 58 = .ok (.invokevirtual 40, 3) := by decide +kernel
theorem dX0_times_61 : decode cX0_times 61 = .ok (.return_, 1) := by decide +kernel
theorem dX0_addTimes_0 : decode cX0_addTimes 0 = .ok (.aload_n 0, 1) := by decide +kernel
theorem dX0_addTimes_1 : decode cX0_addTimes 1 = .ok (.aload_n 1, 1) := by decide +kernel
theorem dX0_addTimes_2 : decode cX0_addTimes 2 = .ok (.getfield 9, 3) := by decide +kernel
theorem dX0_addTimes_5 : decode cX0_addTimes 5 = .ok (.invokevirtual 43, 3) := by decide +kernel
theorem dX0_addTimes_8 : decode cX0_addTimes 8 = .ok (.lconst 0, 1) := by decide +kernel
theorem dX0_addTimes_9 : decode cX0_addTimes 9 = .ok (.lstore 4, 2) := by decide +kernel
theorem dX0_addTimes_11 : decode cX0_addTimes 11 = .ok (.iconst 0, 1) := by decide +kernel
theorem dX0_addTimes_12 : decode cX0_addTimes 12 = .ok (.istore 6, 2) := by decide +kernel
theorem dX0_addTimes_14 : decode cX0_addTimes 14 = .ok (.iload 6, 2) := by decide +kernel
theorem dX0_addTimes_16 : decode cX0_addTimes 16 = .ok (.aload_n 1, 1) := by decide +kernel
theorem dX0_addTimes_17 : decode cX0_addTimes 17 = .ok (.getfield 9, 3) := by decide +kernel
theorem dX0_addTimes_20 : decode cX0_addTimes 20 = .ok (.if_icmp .ge 60, 3) := by decide +kernel
theorem dX0_addTimes_23 : decode cX0_addTimes 23 = .ok (.iload 6, 2) := by decide +kernel
theorem dX0_addTimes_25 : decode cX0_addTimes 25 = .ok (.aload_n 0, 1) := by decide +kernel
theorem dX0_addTimes_26 : decode cX0_addTimes 26 = .ok (.getfield 9, 3) := by decide +kernel
theorem dX0_addTimes_29 : decode cX0_addTimes 29 = .ok (.if_icmp .ge 51, 3) := by decide +kernel
theorem dX0_addTimes_32 : decode cX0_addTimes 32 = .ok (.aload_n 0, 1) := by decide +kernel
theorem dX0_addTimes_33 : decode cX0_addTimes 33 = .ok (.getfield 21, 3) := by decide +kernel
theorem dX0_addTimes_36 : decode cX0_addTimes 36 = .ok (.iload 6, 2) := by decide +kernel
theorem dX0_addTimes_38 : decode cX0_addTimes 38 = .ok (.laload, 1) := by decide +kernel
theorem dX0_addTimes_39 : decode cX0_addTimes 39 = .ok (.aload_n 1, 1) := by decide +kernel
theorem dX0_addTimes_40 : decode cX0_addTimes 40 = .ok (.getfield 21, 3) := by decide +kernel
theorem dX0_addTimes_43 : decode cX0_addTimes 43 = .ok (.iload 6, 2) := by decide +kernel
theorem dX0_addTimes_45 : decode cX0_addTimes 45 = .ok (.laload, 1) := by decide +kernel
theorem dX0_addTimes_46 : decode cX0_addTimes 46 = .ok (.lload_n 2, 1) := by decide +kernel
theorem dX0_addTimes_47 : decode cX0_addTimes 47 = .ok (.lmul, 1) := by decide +kernel
theorem dX0_addTimes_48 : decode cX0_addTimes 48 = .ok (.ladd, 1) := by decide +kernel
theorem dX0_addTimes_49 : decode cX0_addTimes 49 = .ok (.lload 4, 2) := by decide +kernel
theorem dX0_addTimes_51 : decode cX0_addTimes 51 = .ok (.ladd, 1) := by decide +kernel
theorem dX0_addTimes_52 : decode cX0_addTimes 52 = .ok (.lstore 7, 2) := by decide +kernel
theorem dX0_addTimes_54 : decode cX0_addTimes 54 = .ok (.aload_n 0, 1) := by decide +kernel
theorem dX0_addTimes_55 : decode cX0_addTimes 55 = .ok (.getfield 21, 3) := by decide +kernel
theorem dX0_addTimes_58 : decode cX0_addTimes 58 = .ok (.iload 6, 2) := by decide +kernel
theorem dX0_addTimes_60 : decode cX0_addTimes 60 = .ok (.lload 7, 2) := by decide +kernel
theorem dX0_addTimes_62 : decode cX0_addTimes 62 = .ok (.ldc2_w 38, 3) := by decide +kernel
theorem dX0_addTimes_65 : decode cX0_addTimes 65 = .ok (.land, 1) := by decide +kernel
theorem dX0_addTimes_66 : decode cX0_addTimes 66 = .ok (.lastore, 1) := by decide +kernel
theorem dX0_addTimes_67 : decode cX0_addTimes 67 = .ok (.lload 7, 2) := by decide +kernel
theorem dX0_addTimes_69 : decode cX0_addTimes 69 = .ok (.bipush 30, 2) := by decide +kernel
theorem dX0_addTimes_71 : decode cX0_addTimes 71 = .ok (.lshr, 1) := by decide +kernel
theorem dX0_addTimes_72 : decode cX0_addTimes 72 = .ok (.lstore 4, 2) := by decide +kernel
theorem dX0_addTimes_74 : decode cX0_addTimes 74 = .ok (.iinc 6 1, 3) := by decide +kernel
theorem dX0_addTimes_77 : decode cX0_addTimes 77 = .ok (.goto (-63), 3) := by decide +kernel
theorem dX0_addTimes_80 : decode cX0_addTimes 80 = .ok (.aload_n 0, 1) := by decide +kernel
theorem dX0_addTimes_81 : decode cX0_addTimes 81 = .ok (.aload_n 1, 1) := by decide +kernel
theorem dX0_addTimes_82 : decode cX0_addTimes 82 = .ok (.getfield 9, 3) := by decide +kernel
theorem dX0_addTimes_85 : decode cX0_addTimes 85 = .ok (.lload 4, 2) := by decide +kernel
theorem dX0_addTimes_87 : decode cX0_addTimes 87 = .ok (.invokevirtual 47, 3) := by decide +kernel
theorem dX0_addTimes_90 : decode cX0_addTimes 90 = .ok (.aload_n 0, 1) := by decide +kernel
theorem dX0_addTimes_91 : decode cX0_addTimes 91 = .ok (.invokevirtual 40, 3) := by decide +kernel
theorem dX0_addTimes_94 : decode cX0_addTimes 94 = .ok (.return_, 1) := by decide +kernel
theorem dX0_setProduct_0 : decode cX0_setProduct 0 = .ok (.aload_n 0, 1) := by decide +kernel
theorem dX0_setProduct_1 : decode cX0_setProduct 1 = .ok (.iconst 0, 1) := by decide +kernel
theorem dX0_setProduct_2 : decode cX0_setProduct 2 = .ok (.putfield 9, 3) := by decide +kernel
theorem dX0_setProduct_5 : decode cX0_setProduct 5 = .ok (.aload_n 0, 1) := by decide +kernel
theorem dX0_setProduct_6 : decode cX0_setProduct 6 = .ok (.aload_n 1, 1) := by decide +kernel
theorem dX0_setProduct_7 : decode cX0_setProduct 7 = .ok (.aload_n 2, 1) := by decide +kernel
theorem dX0_setProduct_8 : decode cX0_setProduct 8 = .ok (.invokevirtual 51, 3) := by decide +kernel
theorem dX0_setProduct_11 : decode cX0_setProduct 11 = .ok (.return_, 1) := by decide +kernel
theorem dX0_addProduct_0 : decode cX0_addProduct 0 = .ok (.aload_n 0, 1) := by decide +kernel
theorem dX0_addProduct_1 : decode cX0_addProduct 1 = .ok (.aload_n 1, 1) := by decide +kernel
theorem dX0_addProduct_2 : decode cX0_addProduct 2 = .ok (.getfield 9, 3) := by decide +kernel
theorem dX0_addProduct_5 : decode cX0_addProduct 5 = .ok (.aload_n 2, 1) := by decide +kernel
theorem dX0_addProduct_6 : decode cX0_addProduct 6 = .ok (.getfield 9, 3) := by decide +kernel
theorem dX0_addProduct_9 : decode cX0_addProduct 9 = .ok (.iadd, 1) := by decide +kernel
theorem dX0_addProduct_10 : decode cX0_addProduct 10 = .ok (.invokevirtual 43, 3) := by decide +kernel
theorem dX0_addProduct_13 : decode cX0_addProduct 13 = .ok (.iconst 0, 1) := by decide +kernel
theorem dX0_addProduct_14 : decode cX0_addProduct 14 = .ok (.istore_n 3, 1) := by decide +kernel
theorem dX0_addProduct_15 : decode cX0_addProduct 15 = .ok (.iload_n 3, 1) := by decide +kernel
theorem dX0_addProduct_16 : decode cX0_addProduct 16 = .ok (.aload_n 1, 1) := by decide +kernel
theorem dX0_addProduct_17 : decode cX0_addProduct 17 = .ok (.getfield 9, 3) := by decide +kernel
theorem dX0_addProduct_20 : decode cX0_addProduct 20 = .ok (.if_icmp .ge 108, 3) := by decide +kernel
theorem dX0_addProduct_23 : decode cX0_addProduct 23 = .ok (.aload_n 1, 1) := by decide +kernel
theorem dX0_addProduct_24 : decode cX0_addProduct 24 = .ok (.getfield 21, 3) := by decide +kernel
theorem dX0_addProduct_27 : decode cX0_addProduct 27 = .ok (.iload_n 3, 1) := by decide +kernel
theorem dX0_addProduct_28 : decode cX0_addProduct 28 = .ok (.laload, 1) := by decide +kernel
theorem dX0_addProduct_29 : decode cX0_addProduct 29 = .ok (.lstore 4, 2) := by decide +kernel
theorem dX0_addProduct_31 : decode cX0_addProduct 31 = .ok (.lconst 0, 1) := by decide +kernel
theorem dX0_addProduct_32 : decode cX0_addProduct 32 = .ok (.lstore 6, 2) := by decide +kernel
theorem dX0_addProduct_34 : decode cX0_addProduct 34 = .ok (.iconst 0, 1) := by decide +kernel
theorem dX0_addProduct_35 : decode cX0_addProduct 35 = .ok (.istore 8, 2) := by decide +kernel
theorem dX0_addProduct_37 : decode cX0_addProduct 37 = .ok (.iload 8, 2) := by decide +kernel
theorem dX0_addProduct_39 : decode cX0_addProduct 39 = .ok (.aload_n 2, 1) := by decide +kernel
theorem dX0_addProduct_40 : decode cX0_addProduct 40 = .ok (.getfield 9, 3) := by decide +kernel
theorem dX0_addProduct_43 : decode cX0_addProduct 43 = .ok (.if_icmp .ge 67, 3) := by decide +kernel
theorem dX0_addProduct_46 : decode cX0_addProduct 46 = .ok (.iload_n 3, 1) := by decide +kernel
theorem dX0_addProduct_47 : decode cX0_addProduct 47 = .ok (.iload 8, 2) := by decide +kernel
theorem dX0_addProduct_49 : decode cX0_addProduct 49 = .ok (.iadd, 1) := by decide +kernel
theorem dX0_addProduct_50 : decode cX0_addProduct 50 = .ok (.aload_n 0, 1) := by decide +kernel
theorem dX0_addProduct_51 : decode cX0_addProduct 51 = .ok (.getfield 9, 3) := by decide +kernel
theorem dX0_addProduct_54 : decode cX0_addProduct 54 = .ok (.if_icmp .ge 56, 3) := by decide +kernel
theorem dX0_addProduct_57 : decode cX0_addProduct 57 = .ok (.aload_n 0, 1) := by decide +kernel
theorem dX0_addProduct_58 : decode cX0_addProduct 58 = .ok (.getfield 21, 3) := by decide +kernel
theorem dX0_addProduct_61 : decode cX0_addProduct 61 = .ok (.iload_n 3, 1) := by decide +kernel
theorem dX0_addProduct_62 : decode cX0_addProduct 62 = .ok (.iload 8, 2) := by decide +kernel
theorem dX0_addProduct_64 : decode cX0_addProduct 64 = .ok (.iadd, 1) := by decide +kernel
theorem dX0_addProduct_65 : decode cX0_addProduct 65 = .ok (.laload, 1) := by decide +kernel
theorem dX0_addProduct_66 : decode cX0_addProduct 66 = .ok (.lload 4, 2) := by decide +kernel
theorem dX0_addProduct_68 : decode cX0_addProduct 68 = .ok (.aload_n 2, 1) := by decide +kernel
theorem dX0_addProduct_69 : decode cX0_addProduct 69 = .ok (.getfield 21, 3) := by decide +kernel
theorem dX0_addProduct_72 : decode cX0_addProduct 72 = .ok (.iload 8, 2) := by decide +kernel
theorem dX0_addProduct_74 : decode cX0_addProduct 74 = .ok (.laload, 1) := by decide +kernel
theorem dX0_addProduct_75 : decode cX0_addProduct 75 = .ok (.lmul, 1) := by decide +kernel
theorem dX0_addProduct_76 : decode cX0_addProduct 76 = .ok (.ladd, 1) := by decide +kernel
theorem dX0_addProduct_77 : decode cX0_addProduct 77 = .ok (.lload 6, 2) := by decide +kernel
theorem dX0_addProduct_79 : decode cX0_addProduct 79 = .ok (.ladd, 1) := by decide +kernel
theorem dX0_addProduct_80 : decode cX0_addProduct 80 = .ok (.lstore 9, 2) := by decide +kernel
theorem dX0_addProduct_82 : decode cX0_addProduct 82 = .ok (.aload_n 0, 1) := by decide +kernel
theorem dX0_addProduct_83 : decode cX0_addProduct 83 = .ok (.getfield 21, 3) := by decide +kernel
theorem dX0_addProduct_86 : decode cX0_addProduct 86 = .ok (.iload_n 3, 1) := by decide +kernel
theorem dX0_addProduct_87 : decode cX0_addProduct 87 = .ok (.iload 8, 2) := by decide +kernel
theorem dX0_addProduct_89 : decode cX0_addProduct 89 = .ok (.iadd, 1) := by decide +kernel
theorem dX0_addProduct_90 : decode cX0_addProduct 90 = .ok (.lload 9, 2) := by decide +kernel
theorem dX0_addProduct_92 : decode cX0_addProduct 92 = .ok (.ldc2_w 38, 3) := by decide +kernel
theorem dX0_addProduct_95 : decode cX0_addProduct 95 = .ok (.land, 1) := by decide +kernel
theorem dX0_addProduct_96 : decode cX0_addProduct 96 = .ok (.lastore, 1) := by decide +kernel
theorem dX0_addProduct_97 : decode cX0_addProduct 97 = .ok (.lload 9, 2) := by decide +kernel
theorem dX0_addProduct_99 : decode cX0_addProduct 99 = .ok (.bipush 30, 2) := by decide +kernel
theorem dX0_addProduct_101 : decode cX0_addProduct 101 = .ok (.lshr, 1) := by decide +kernel
theorem dX0_addProduct_102 : decode cX0_addProduct 102 = .ok (.lstore 6, 2) := by decide +kernel
theorem dX0_addProduct_104 : decode cX0_addProduct 104 = .ok (.iinc 8 1, 3) := by decide +kernel
theorem dX0_addProduct_107 : decode cX0_addProduct 107 = .ok (.goto (-70), 3) := by decide +kernel
theorem dX0_addProduct_110 : decode cX0_addProduct 110 = .ok (.aload_n 0, 1) := by decide +kernel
theorem dX0_addProduct_111 : decode cX0_addProduct 111 = .ok (.iload_n 3, 1) := by decide +kernel
theorem dX0_addProduct_112 : decode cX0_addProduct 112 = .ok (.aload_n 2, 1) := by decide +kernel
theorem dX0_addProduct_113 : decode cX0_addProduct 113 = .ok (.getfield 9, 3) := by decide +kernel
theorem dX0_addProduct_116 : decode cX0_addProduct 116 = .ok (.iadd, 1) := by decide +kernel
theorem dX0_addProduct_117 : decode cX0_addProduct 117 = .ok (.lload 6, 2) := by decide +kernel
theorem dX0_addProduct_119 : decode cX0_addProduct 119 = .ok (.invokevirtual 47, 3) := by decide +kernel
theorem dX0_addProduct_122 : decode cX0_addProduct 122 = .ok (.iinc 3 1, 3) := by decide +kernel
theorem dX0_addProduct_125 : decode cX0_addProduct 125 = .ok (.goto (-110), 3) := by decide +kernel
theorem dX0_addProduct_128 : decode cX0_addProduct 128 = .ok (.aload_n 0, 1) := by decide +kernel
theorem dX0_addProduct_129 : decode cX0_addProduct 129 = .ok (.invokevirtual 40, 3) := by decide +kernel
theorem dX0_addProduct_132 : decode cX0_addProduct 132 = .ok (.return_, 1) := by decide +kernel
theorem dX0_carryFrom_0 : decode cX0_carryFrom 0 = .ok (.lload_n 2, 1) := by decide +kernel
theorem dX0_carryFrom_1 : decode cX0_carryFrom 1 = .ok (.lstore 4, 2) := by decide +kernel
theorem dX0_carryFrom_3 : decode cX0_carryFrom 3 = .ok (.iload_n 1, 1) := by decide +kernel
theorem dX0_carryFrom_4 : decode cX0_carryFrom 4 = .ok (.istore 6, 2) := by decide +kernel
theorem dX0_carryFrom_6 : decode cX0_carryFrom 6 = .ok (.iload 6, 2) := by decide +kernel
theorem dX0_carryFrom_8 : decode cX0_carryFrom 8 = .ok (.aload_n 0, 1) := by decide +kernel
theorem dX0_carryFrom_9 : decode cX0_carryFrom 9 = .ok (.getfield 9, 3) := by decide +kernel
theorem dX0_carryFrom_12 : decode cX0_carryFrom 12 = .ok (.if_icmp .ge 48, 3) := by decide +kernel
theorem dX0_carryFrom_15 : decode cX0_carryFrom 15 = .ok (.lload 4, 2) := by decide +kernel
theorem dX0_carryFrom_17 : decode cX0_carryFrom 17 = .ok (.lconst 0, 1) := by decide +kernel
theorem dX0_carryFrom_18 : decode cX0_carryFrom 18 = .ok (.lcmp, 1) := by decide +kernel
theorem dX0_carryFrom_19 : decode cX0_carryFrom 19 = .ok (.ifCond .eq 41, 3) := by decide +kernel
theorem dX0_carryFrom_22 : decode cX0_carryFrom 22 = .ok (.aload_n 0, 1) := by decide +kernel
theorem dX0_carryFrom_23 : decode cX0_carryFrom 23 = .ok (.getfield 21, 3) := by decide +kernel
theorem dX0_carryFrom_26 : decode cX0_carryFrom 26 = .ok (.iload 6, 2) := by decide +kernel
theorem dX0_carryFrom_28 : decode cX0_carryFrom 28 = .ok (.laload, 1) := by decide +kernel
theorem dX0_carryFrom_29 : decode cX0_carryFrom 29 = .ok (.lload 4, 2) := by decide +kernel
theorem dX0_carryFrom_31 : decode cX0_carryFrom 31 = .ok (.ladd, 1) := by decide +kernel
theorem dX0_carryFrom_32 : decode cX0_carryFrom 32 = .ok (.lstore 7, 2) := by decide +kernel
theorem dX0_carryFrom_34 : decode cX0_carryFrom 34 = .ok (.aload_n 0, 1) := by decide +kernel
theorem dX0_carryFrom_35 : decode cX0_carryFrom 35 = .ok (.getfield 21, 3) := by decide +kernel
theorem dX0_carryFrom_38 : decode cX0_carryFrom 38 = .ok (.iload 6, 2) := by decide +kernel
theorem dX0_carryFrom_40 : decode cX0_carryFrom 40 = .ok (.lload 7, 2) := by decide +kernel
theorem dX0_carryFrom_42 : decode cX0_carryFrom 42 = .ok (.ldc2_w 38, 3) := by decide +kernel
theorem dX0_carryFrom_45 : decode cX0_carryFrom 45 = .ok (.land, 1) := by decide +kernel
theorem dX0_carryFrom_46 : decode cX0_carryFrom 46 = .ok (.lastore, 1) := by decide +kernel
theorem dX0_carryFrom_47 : decode cX0_carryFrom 47 = .ok (.lload 7, 2) := by decide +kernel
theorem dX0_carryFrom_49 : decode cX0_carryFrom 49 = .ok (.bipush 30, 2) := by decide +kernel
theorem dX0_carryFrom_51 : decode cX0_carryFrom 51 = .ok (.lshr, 1) := by decide +kernel
theorem dX0_carryFrom_52 : decode cX0_carryFrom 52 = .ok (.lstore 4, 2) := by decide +kernel
theorem dX0_carryFrom_54 : decode cX0_carryFrom 54 = .ok (.iinc 6 1, 3) := by decide +kernel
theorem dX0_carryFrom_57 : decode cX0_carryFrom 57 = .ok (.goto (-51), 3) := by decide +kernel
theorem dX0_carryFrom_60 : decode cX0_carryFrom 60 = .ok (.aload_n 0, 1) := by decide +kernel
theorem dX0_carryFrom_61 : decode cX0_carryFrom 61 = .ok (.lload 4, 2) := by decide +kernel
theorem dX0_carryFrom_63 : decode cX0_carryFrom 63 = .ok (.invokevirtual 25, 3) := by decide +kernel
theorem dX0_carryFrom_66 : decode cX0_carryFrom 66 = .ok (.return_, 1) := by decide +kernel
theorem dX0_subtract_0 : decode cX0_subtract 0 = .ok (.lconst 0, 1) := by decide +kernel
theorem dX0_subtract_1 : decode cX0_subtract 1 = .ok (.lstore_n 2, 1) := by decide +kernel
theorem dX0_subtract_2 : decode cX0_subtract 2 = .ok (.iconst 0, 1) := by decide +kernel
theorem dX0_subtract_3 : decode cX0_subtract 3 = .ok (.istore 4, 2) := by decide +kernel
theorem dX0_subtract_5 : decode cX0_subtract 5 = .ok (.iload 4, 2) := by decide +kernel
theorem dX0_subtract_7 : decode cX0_subtract 7 = .ok (.aload_n 1, 1) := by decide +kernel
theorem dX0_subtract_8 : decode cX0_subtract 8 = .ok (.getfield 9, 3) := by decide +kernel
theorem dX0_subtract_11 : decode cX0_subtract 11 = .ok (.if_icmp .ge 56, 3) := by decide +kernel
theorem dX0_subtract_14 : decode cX0_subtract 14 = .ok (.iload 4, 2) := by decide +kernel
theorem dX0_subtract_16 : decode cX0_subtract 16 = .ok (.aload_n 0, 1) := by decide +kernel
theorem dX0_subtract_17 : decode cX0_subtract 17 = .ok (.getfield 9, 3) := by decide +kernel
theorem dX0_subtract_20 : decode cX0_subtract 20 = .ok (.if_icmp .ge 47, 3) := by decide +kernel
theorem dX0_subtract_23 : decode cX0_subtract 23 = .ok (.aload_n 0, 1) := by decide +kernel
theorem dX0_subtract_24 : decode cX0_subtract 24 = .ok (.getfield 21, 3) := by decide +kernel
theorem dX0_subtract_27 : decode cX0_subtract 27 = .ok (.iload 4, 2) := by decide +kernel
theorem dX0_subtract_29 : decode cX0_subtract 29 = .ok (.laload, 1) := by decide +kernel
theorem dX0_subtract_30 : decode cX0_subtract 30 = .ok (.aload_n 1, 1) := by decide +kernel
theorem dX0_subtract_31 : decode cX0_subtract 31 = .ok (.getfield 21, 3) := by decide +kernel
theorem dX0_subtract_34 : decode cX0_subtract 34 = .ok (.iload 4, 2) := by decide +kernel
theorem dX0_subtract_36 : decode cX0_subtract 36 = .ok (.laload, 1) := by decide +kernel
theorem dX0_subtract_37 : decode cX0_subtract 37 = .ok (.lsub, 1) := by decide +kernel
theorem dX0_subtract_38 : decode cX0_subtract 38 = .ok (.lload_n 2, 1) := by decide +kernel
theorem dX0_subtract_39 : decode cX0_subtract 39 = .ok (.ladd, 1) := by decide +kernel
theorem dX0_subtract_40 : decode cX0_subtract 40 = .ok (.lstore 5, 2) := by decide +kernel
theorem dX0_subtract_42 : decode cX0_subtract 42 = .ok (.aload_n 0, 1) := by decide +kernel
theorem dX0_subtract_43 : decode cX0_subtract 43 = .ok (.getfield 21, 3) := by decide +kernel
theorem dX0_subtract_46 : decode cX0_subtract 46 = .ok (.iload 4, 2) := by decide +kernel
theorem dX0_subtract_48 : decode cX0_subtract 48 = .ok (.lload 5, 2) := by decide +kernel
theorem dX0_subtract_50 : decode cX0_subtract 50 = .ok (.ldc2_w 38, 3) := by decide +kernel
theorem dX0_subtract_53 : decode cX0_subtract 53 = .ok (.land, 1) := by decide +kernel
theorem dX0_subtract_54 : decode cX0_subtract 54 = .ok (.lastore, 1) := by decide +kernel
theorem dX0_subtract_55 : decode cX0_subtract 55 = .ok (.lload 5, 2) := by decide +kernel
theorem dX0_subtract_57 : decode cX0_subtract 57 = .ok (.bipush 30, 2) := by decide +kernel
theorem dX0_subtract_59 : decode cX0_subtract 59 = .ok (.lshr, 1) := by decide +kernel
theorem dX0_subtract_60 : decode cX0_subtract 60 = .ok (.lstore_n 2, 1) := by decide +kernel
theorem dX0_subtract_61 : decode cX0_subtract 61 = .ok (.iinc 4 1, 3) := by decide +kernel
theorem dX0_subtract_64 : decode cX0_subtract 64 = .ok (.goto (-59), 3) := by decide +kernel
theorem dX0_subtract_67 : decode cX0_subtract 67 = .ok (.aload_n 0, 1) := by decide +kernel
theorem dX0_subtract_68 : decode cX0_subtract 68 = .ok (.aload_n 1, 1) := by decide +kernel
theorem dX0_subtract_69 : decode cX0_subtract 69 = .ok (.getfield 9, 3) := by decide +kernel
theorem dX0_subtract_72 : decode cX0_subtract 72 = .ok (.lload_n 2, 1) := by decide +kernel
theorem dX0_subtract_73 : decode cX0_subtract 73 = .ok (.invokevirtual 47, 3) := by decide +kernel
theorem dX0_subtract_76 : decode cX0_subtract 76 = .ok (.aload_n 0, 1) := by decide +kernel
theorem dX0_subtract_77 : decode cX0_subtract 77 = .ok (.invokevirtual 40, 3) := by decide +kernel
theorem dX0_subtract_80 : decode cX0_subtract 80 = .ok (.return_, 1) := by decide +kernel
theorem dX0_divideSmall_0 : decode cX0_divideSmall 0 = .ok (.lload_n 1, 1) := by decide +kernel
theorem dX0_divideSmall_1 : decode cX0_divideSmall 1 = .ok (.lconst 0, 1) := by decide +kernel
theorem dX0_divideSmall_2 : decode cX0_divideSmall 2 = .ok (.lcmp, 1) := by decide +kernel
theorem dX0_divideSmall_3 : decode cX0_divideSmall 3 = .ok (.ifCond .gt 5, 3) := by decide +kernel
theorem dX0_divideSmall_6 : decode cX0_divideSmall 6 = .ok (.lconst 0, 1) := by decide +kernel
theorem dX0_divideSmall_7 : decode cX0_divideSmall 7 = .ok (.lreturn, 1) := by decide +kernel
theorem dX0_divideSmall_8 : decode cX0_divideSmall 8 = .ok (.lconst 0, 1) := by decide +kernel
theorem dX0_divideSmall_9 : decode cX0_divideSmall 9 = .ok (.lstore_n 3, 1) := by decide +kernel
theorem dX0_divideSmall_10 : decode cX0_divideSmall 10 = .ok (.aload_n 0, 1) := by decide +kernel
theorem dX0_divideSmall_11 : decode cX0_divideSmall 11 = .ok (.getfield 9, 3) := by decide +kernel
theorem dX0_divideSmall_14 : decode cX0_divideSmall 14 = .ok (.iconst 1, 1) := by decide +kernel
theorem dX0_divideSmall_15 : decode cX0_divideSmall 15 = .ok (.isub, 1) := by decide +kernel
theorem dX0_divideSmall_16 : decode cX0_divideSmall 16 = .ok (.istore 5, 2) := by decide +kernel
theorem dX0_divideSmall_18 : decode cX0_divideSmall 18 = .ok (.iload 5, 2) := by decide +kernel
theorem dX0_divideSmall_20 : decode cX0_divideSmall 20 = .ok (.ifCond .lt 39, 3) := by decide +kernel
theorem dX0_divideSmall_23 : decode cX0_divideSmall 23 = .ok (.lload_n 3, 1) := by decide +kernel
theorem dX0_divideSmall_24 : decode cX0_divideSmall 24 = .ok (.bipush 30, 2) := by decide +kernel
theorem dX0_divideSmall_26 : decode cX0_divideSmall 26 = .ok (.lshl, 1) := by decide +kernel
theorem dX0_divideSmall_27 : decode cX0_divideSmall 27 = .ok (.aload_n 0, 1) := by decide +kernel
theorem dX0_divideSmall_28 : decode cX0_divideSmall 28 = .ok (.getfield 21, 3) := by decide +kernel
theorem dX0_divideSmall_31 : decode cX0_divideSmall 31 = .ok (.iload 5, 2) := by decide +kernel
theorem dX0_divideSmall_33 : decode cX0_divideSmall 33 = .ok (.laload, 1) := by decide +kernel
theorem dX0_divideSmall_34 : decode cX0_divideSmall 34 = .ok (.ladd, 1) := by decide +kernel
theorem dX0_divideSmall_35 : decode cX0_divideSmall 35 = .ok (.lstore 6, 2) := by decide +kernel
theorem dX0_divideSmall_37 : decode cX0_divideSmall 37 = .ok (.aload_n 0, 1) := by decide +kernel
theorem dX0_divideSmall_38 : decode cX0_divideSmall 38 = .ok (.getfield 21, 3) := by decide +kernel
theorem dX0_divideSmall_41 : decode cX0_divideSmall 41 = .ok (.iload 5, 2) := by decide +kernel
theorem dX0_divideSmall_43 : decode cX0_divideSmall 43 = .ok (.lload 6, 2) := by decide +kernel
theorem dX0_divideSmall_45 : decode cX0_divideSmall 45 = .ok (.lload_n 1, 1) := by decide +kernel
theorem dX0_divideSmall_46 : decode cX0_divideSmall 46 = .ok (.ldiv, 1) := by decide +kernel
theorem dX0_divideSmall_47 : decode cX0_divideSmall 47 = .ok (.lastore, 1) := by decide +kernel
theorem dX0_divideSmall_48 : decode cX0_divideSmall 48 = .ok (.lload 6, 2) := by decide +kernel
theorem dX0_divideSmall_50 : decode cX0_divideSmall 50 = .ok (.lload_n 1, 1) := by decide +kernel
theorem dX0_divideSmall_51 : decode cX0_divideSmall 51 = .ok (.lrem, 1) := by decide +kernel
theorem dX0_divideSmall_52 : decode cX0_divideSmall 52 = .ok (.lstore_n 3, 1) := by decide +kernel
theorem dX0_divideSmall_53 : decode cX0_divideSmall 53 = .ok (.iinc 5 (-1), 3) := by decide +kernel
theorem dX0_divideSmall_56 : decode cX0_divideSmall 56 = .ok (.goto (-38), 3) := by decide +kernel
theorem dX0_divideSmall_59 : decode cX0_divideSmall 59 = .ok (.aload_n 0, 1) := by decide +kernel
theorem dX0_divideSmall_60 : decode cX0_divideSmall 60 = .ok (.invokevirtual 40, 3) := by decide +kernel
theorem dX0_divideSmall_63 : decode cX0_divideSmall 63 = .ok (.lload_n 3, 1) := by decide +kernel
theorem dX0_divideSmall_64 : decode cX0_divideSmall 64 = .ok (.lreturn, 1) := by decide +kernel
theorem dX0_rest_0 : decode cX0_rest 0 = .ok (.iload_n 1, 1) := by decide +kernel
theorem dX0_rest_1 : decode cX0_rest 1 = .ok (.ifCond .gt 5, 3) := by decide +kernel
theorem dX0_rest_4 : decode cX0_rest 4 = .ok (.iconst 0, 1) := by decide +kernel
theorem dX0_rest_5 : decode cX0_rest 5 = .ok (.ireturn, 1) := by decide +kernel
theorem dX0_rest_6 : decode cX0_rest 6 = .ok (.lconst 0, 1) := by decide +kernel
theorem dX0_rest_7 : decode cX0_rest 7 = .ok (.lstore_n 2, 1) := by decide +kernel
theorem dX0_rest_8 : decode cX0_rest 8 = .ok (.aload_n 0, 1) := by decide +kernel
theorem dX0_rest_9 : decode cX0_rest 9 = .ok (.getfield 9, 3) := by decide +kernel
theorem dX0_rest_12 : decode cX0_rest 12 = .ok (.iconst 1, 1) := by decide +kernel
theorem dX0_rest_13 : decode cX0_rest 13 = .ok (.isub, 1) := by decide +kernel
theorem dX0_rest_14 : decode cX0_rest 14 = .ok (.istore 4, 2) := by decide +kernel
theorem dX0_rest_16 : decode cX0_rest 16 = .ok (.iload 4, 2) := by decide +kernel
theorem dX0_rest_18 : decode cX0_rest 18 = .ok (.ifCond .lt 25, 3) := by decide +kernel
theorem dX0_rest_21 : decode cX0_rest 21 = .ok (.lload_n 2, 1) := by decide +kernel
theorem dX0_rest_22 : decode cX0_rest 22 = .ok (.bipush 30, 2) := by decide +kernel
theorem dX0_rest_24 : decode cX0_rest 24 = .ok (.lshl, 1) := by decide +kernel
theorem dX0_rest_25 : decode cX0_rest 25 = .ok (.aload_n 0, 1) := by decide +kernel
theorem dX0_rest_26 : decode cX0_rest 26 = .ok (.getfield 21, 3) := by decide +kernel
theorem dX0_rest_29 : decode cX0_rest 29 = .ok (.iload 4, 2) := by decide +kernel
theorem dX0_rest_31 : decode cX0_rest 31 = .ok (.laload, 1) := by decide +kernel
theorem dX0_rest_32 : decode cX0_rest 32 = .ok (.ladd, 1) := by decide +kernel
theorem dX0_rest_33 : decode cX0_rest 33 = .ok (.iload_n 1, 1) := by decide +kernel
theorem dX0_rest_34 : decode cX0_rest 34 = .ok (.i2l, 1) := by decide +kernel
theorem dX0_rest_35 : decode cX0_rest 35 = .ok (.lrem, 1) := by decide +kernel
theorem dX0_rest_36 : decode cX0_rest 36 = .ok (.lstore_n 2, 1) := by decide +kernel
theorem dX0_rest_37 : decode cX0_rest 37 = .ok (.iinc 4 (-1), 3) := by decide +kernel
theorem dX0_rest_40 : decode cX0_rest 40 = .ok (.goto (-24), 3) := by decide +kernel
theorem dX0_rest_43 : decode cX0_rest 43 = .ok (.lload_n 2, 1) := by decide +kernel
theorem dX0_rest_44 : decode cX0_rest 44 = .ok (.l2i, 1) := by decide +kernel
theorem dX0_rest_45 : decode cX0_rest 45 = .ok (.ireturn, 1) := by decide +kernel
theorem dX0_bitsOfLimb_0 : decode cX0_bitsOfLimb 0 = .ok (.iload_n 1, 1) := by decide +kernel
theorem dX0_bitsOfLimb_1 : decode cX0_bitsOfLimb 1 = .ok (.ifCond .lt 11, 3) := by decide +kernel
theorem dX0_bitsOfLimb_4 : decode cX0_bitsOfLimb 4 = .ok (.iload_n 1, 1) := by decide +kernel
theorem dX0_bitsOfLimb_5 : decode cX0_bitsOfLimb 5 = .ok (.aload_n 0, 1) := by decide +kernel
theorem dX0_bitsOfLimb_6 : decode cX0_bitsOfLimb 6 = .ok (.getfield 9, 3) := by decide +kernel
theorem dX0_bitsOfLimb_9 : decode cX0_bitsOfLimb 9 = .ok (.if_icmp .lt 5, 3) := by decide +kernel
theorem dX0_bitsOfLimb_12 : decode cX0_bitsOfLimb 12 = .ok (.lconst 0, 1) := by decide +kernel
theorem dX0_bitsOfLimb_13 : decode cX0_bitsOfLimb 13 = .ok (.lreturn, 1) := by decide +kernel
theorem dX0_bitsOfLimb_14 : decode cX0_bitsOfLimb 14 = .ok (.iload_n 1, 1) := by decide +kernel
theorem dX0_bitsOfLimb_15 : decode cX0_bitsOfLimb 15 = .ok (.bipush 32, 2) := by decide +kernel
theorem dX0_bitsOfLimb_17 : decode cX0_bitsOfLimb 17 = .ok (.imul, 1) := by decide +kernel
theorem dX0_bitsOfLimb_18 : decode cX0_bitsOfLimb 18 = .ok (.bipush 30, 2) := by decide +kernel
theorem dX0_bitsOfLimb_20 : decode cX0_bitsOfLimb 20 = .ok (.idiv, 1) := by decide +kernel
theorem dX0_bitsOfLimb_21 : decode cX0_bitsOfLimb 21 = .ok (.istore_n 2, 1) := by decide +kernel
theorem dX0_bitsOfLimb_22 : decode cX0_bitsOfLimb 22 = .ok (.iload_n 1, 1) := by decide +kernel
theorem dX0_bitsOfLimb_23 : decode cX0_bitsOfLimb 23 = .ok (.bipush 32, 2) := by decide +kernel
theorem dX0_bitsOfLimb_25 : decode cX0_bitsOfLimb 25 = .ok (.imul, 1) := by decide +kernel
theorem dX0_bitsOfLimb_26 : decode cX0_bitsOfLimb 26 = .ok (.bipush 30, 2) := by decide +kernel
theorem dX0_bitsOfLimb_28 : decode cX0_bitsOfLimb 28 = .ok (.irem, 1) := by decide +kernel
theorem dX0_bitsOfLimb_29 : decode cX0_bitsOfLimb 29 = .ok (.istore_n 3, 1) := by decide +kernel
theorem dX0_bitsOfLimb_30 : decode cX0_bitsOfLimb 30 = .ok (.aload_n 0, 1) := by decide +kernel
theorem dX0_bitsOfLimb_31 : decode cX0_bitsOfLimb 31 = .ok (.iload_n 2, 1) := by decide +kernel
theorem dX0_bitsOfLimb_32 : decode cX0_bitsOfLimb 32 = .ok (.invokevirtual 55, 3) := by decide +kernel
theorem dX0_bitsOfLimb_35 : decode cX0_bitsOfLimb 35 = .ok (.iload_n 3, 1) := by decide +kernel
theorem dX0_bitsOfLimb_36 : decode cX0_bitsOfLimb 36 = .ok (.lshr, 1) := by decide +kernel
theorem dX0_bitsOfLimb_37 : decode cX0_bitsOfLimb 37 = .ok (.lstore 4, 2) := by decide +kernel
theorem dX0_bitsOfLimb_39 : decode cX0_bitsOfLimb 39 = .ok (.aload_n 0, 1) := by decide +kernel
theorem dX0_bitsOfLimb_40 : decode cX0_bitsOfLimb 40 = .ok (.iload_n 2, 1) := by decide +kernel
theorem dX0_bitsOfLimb_41 : decode cX0_bitsOfLimb 41 = .ok (.iconst 1, 1) := by decide +kernel
theorem dX0_bitsOfLimb_42 : decode cX0_bitsOfLimb 42 = .ok (.iadd, 1) := by decide +kernel
theorem dX0_bitsOfLimb_43 : decode cX0_bitsOfLimb 43 = .ok (.invokevirtual 55, 3) := by decide +kernel
theorem dX0_bitsOfLimb_46 : decode cX0_bitsOfLimb 46 = .ok (.bipush 30, 2) := by decide +kernel
theorem dX0_bitsOfLimb_48 : decode cX0_bitsOfLimb 48 = .ok (.iload_n 3, 1) := by decide +kernel
theorem dX0_bitsOfLimb_49 : decode cX0_bitsOfLimb 49 = .ok (.isub, 1) := by decide +kernel
theorem dX0_bitsOfLimb_50 : decode cX0_bitsOfLimb 50 = .ok (.lshl, 1) := by decide +kernel
theorem dX0_bitsOfLimb_51 : decode cX0_bitsOfLimb 51 = .ok (.lstore 6, 2) := by decide +kernel
theorem dX0_bitsOfLimb_53 : decode cX0_bitsOfLimb 53 = .ok (.lload 4, 2) := by decide +kernel
theorem dX0_bitsOfLimb_55 : decode cX0_bitsOfLimb 55 = .ok (.lload 6, 2) := by decide +kernel
theorem dX0_bitsOfLimb_57 : decode cX0_bitsOfLimb 57 = .ok (.lor, 1) := by decide +kernel
theorem dX0_bitsOfLimb_58 : decode cX0_bitsOfLimb 58 = .ok (.ldc2_w 59, 3) := by decide +kernel
theorem dX0_bitsOfLimb_61 : decode cX0_bitsOfLimb 61 = .ok (.land, 1) := by decide +kernel
theorem dX0_bitsOfLimb_62 : decode cX0_bitsOfLimb 62 = .ok (.lreturn, 1) := by decide +kernel
theorem dX1_init_0 : decode cX1_init 0 = .ok (.aload_n 0, 1) := by decide +kernel
theorem dX1_init_1 : decode cX1_init 1 = .ok (.invokespecial 3, 3) := by decide +kernel
theorem dX1_init_4 : decode cX1_init 4 = .ok (.aload_n 0, 1) := by decide +kernel
theorem dX1_init_5 : decode cX1_init 5 = .ok (.new 9, 3) := by decide +kernel
theorem dX1_init_8 : decode cX1_init 8 = .ok (.dup, 1) := by decide +kernel
theorem dX1_init_9 : decode cX1_init 9 = .ok (.bipush 12, 2) := by decide +kernel
theorem dX1_init_11 : decode cX1_init 11 = .ok (.invokespecial 11, 3) := by decide +kernel
theorem dX1_init_14 : decode cX1_init 14 = .ok (.putfield 14, 3) := by decide +kernel
theorem dX1_init_17 : decode cX1_init 17 = .ok (.aload_n 0, 1) := by decide +kernel
theorem dX1_init_18 : decode cX1_init 18 = .ok (.new 9, 3) := by decide +kernel
theorem dX1_init_21 : decode cX1_init 21 = .ok (.dup, 1) := by decide +kernel
theorem dX1_init_22 : decode cX1_init 22 = .ok (.bipush 12, 2) := by decide +kernel
theorem dX1_init_24 : decode cX1_init 24 = .ok (.invokespecial 11, 3) := by decide +kernel
theorem dX1_init_27 : decode cX1_init 27 = .ok (.putfield 20, 3) := by decide +kernel
theorem dX1_init_30 : decode cX1_init 30 = .ok (.aload_n 0, 1) := by decide +kernel
theorem dX1_init_31 : decode cX1_init 31 = .ok (.new 9, 3) := by decide +kernel
theorem dX1_init_34 : decode cX1_init 34 = .ok (.dup, 1) := by decide +kernel
theorem dX1_init_35 : decode cX1_init 35 = .ok (.bipush 12, 2) := by decide +kernel
theorem dX1_init_37 : decode cX1_init 37 = .ok (.invokespecial 11, 3) := by decide +kernel
theorem dX1_init_40 : decode cX1_init 40 = .ok (.putfield 23, 3) := by decide +kernel
theorem dX1_init_43 : decode cX1_init 43 = .ok (.aload_n 0, 1) := by decide +kernel
theorem dX1_init_44 : decode cX1_init 44 = .ok (.new 9, 3) := by decide +kernel
theorem dX1_init_47 : decode cX1_init 47 = .ok (.dup, 1) := by decide +kernel
theorem dX1_init_48 : decode cX1_init 48 = .ok (.bipush 12, 2) := by decide +kernel
theorem dX1_init_50 : decode cX1_init 50 = .ok (.invokespecial 11, 3) := by decide +kernel
theorem dX1_init_53 : decode cX1_init 53 = .ok (.putfield 26, 3) := by decide +kernel
theorem dX1_init_56 : decode cX1_init 56 = .ok (.return_, 1) := by decide +kernel
theorem dX1_divide_0 : decode cX1_divide 0 = .ok (.aload_n 0, 1) := by decide +kernel
theorem dX1_divide_1 : decode cX1_divide 1 = .ok (.getfield 14, 3) := by decide +kernel
theorem dX1_divide_4 : decode cX1_divide 4 = .ok (.lconst 0, 1) := by decide +kernel
theorem dX1_divide_5 : decode cX1_divide 5 = .ok (.invokevirtual 29, 3) := by decide +kernel
theorem dX1_divide_8 : decode cX1_divide 8 = .ok (.aload_n 2, 1) := by decide +kernel
theorem dX1_divide_9 : decode cX1_divide 9 = .ok (.getfield 33, 3) := by decide +kernel
theorem dX1_divide_12 : decode cX1_divide 12 = .ok (.istore_n 3, 1) := by decide +kernel
theorem dX1_divide_13 : decode cX1_divide 13 = .ok (.iload_n 3, 1) := by decide +kernel
theorem dX1_divide_14 : decode cX1_divide 14 = .ok (.ifCond .eq 11, 3) := by decide +kernel
theorem dX1_divide_17 : decode cX1_divide 17 = .ok (.aload_n 1, 1) := by decide +kernel
theorem dX1_divide_18 : decode cX1_divide 18 = .ok (.aload_n 2, 1) := by decide +kernel
theorem dX1_divide_19 : decode cX1_divide 19 = .ok (.invokevirtual 37, 3) := by decide +kernel
theorem dX1_divide_22 : decode cX1_divide 22 = .ok (.ifCond .ge 4, 3) := by decide +kernel
theorem dX1_divide_25 : decode cX1_divide 25 = .ok (.return_, 1) := by decide +kernel
theorem dX1_divide_26 : decode cX1_divide 26 = .ok (.iload_n 3, 1) := by decide +kernel
theorem dX1_divide_27 : decode cX1_divide 27 = .ok (.iconst 1, 1) := by decide +kernel
theorem dX1_divide_28 : decode cX1_divide 28 = .ok (.if_icmp .ne 29, 3) := by decide +kernel
theorem dX1_divide_31 : decode cX1_divide 31 = .ok (.aload_n 0, 1) := by decide +kernel
theorem dX1_divide_32 : decode cX1_divide 32 = .ok (.getfield 14, 3) := by decide +kernel
theorem dX1_divide_35 : decode cX1_divide 35 = .ok (.aload_n 1, 1) := by decide +kernel
theorem dX1_divide_36 : decode cX1_divide 36 = .ok (.invokevirtual 41, 3) := by decide +kernel
theorem dX1_divide_39 : decode cX1_divide 39 = .ok (.aload_n 1, 1) := by decide +kernel
theorem dX1_divide_40 : decode cX1_divide 40 = .ok (.aload_n 0, 1) := by decide +kernel
theorem dX1_divide_41 : decode cX1_divide 41 = .ok (.getfield 14, 3) := by decide +kernel
theorem dX1_divide_44 : decode cX1_divide 44 = .ok (.aload_n 2, 1) := by decide +kernel
theorem dX1_divide_45 : decode cX1_divide 45 = .ok (.getfield 45, 3) := by decide +kernel
theorem dX1_divide_48 : decode cX1_divide 48 = .ok (.iconst 0, 1) := by decide +kernel
theorem dX1_divide_49 : decode cX1_divide 49 = .ok (.laload, 1) := by decide +kernel
theorem dX1_divide_50 : decode cX1_divide 50 = .ok (.invokevirtual 49, 3) := by decide +kernel
theorem dX1_divide_53 : decode cX1_divide 53 = .ok (.invokevirtual 29, 3) := by decide +kernel
theorem dX1_divide_56 : decode cX1_divide 56 = .ok (.return_, 1) := by decide +kernel
theorem dX1_divide_57 : decode cX1_divide 57 = .ok (.ldc2_w 53, 3) := by decide +kernel
theorem dX1_divide_60 : decode cX1_divide 60 = .ok (.aload_n 2, 1) := by decide +kernel
theorem dX1_divide_61 : decode cX1_divide 61 = .ok (.getfield 45, 3) := by decide +kernel
theorem dX1_divide_64 : decode cX1_divide 64 = .ok (.iload_n 3, 1) := by decide +kernel
theorem dX1_divide_65 : decode cX1_divide 65 = .ok (.iconst 1, 1) := by decide +kernel
theorem dX1_divide_66 : decode cX1_divide 66 = .ok (.isub, 1) := by decide +kernel
theorem dX1_divide_67 : decode cX1_divide 67 = .ok (.laload, 1) := by decide +kernel
theorem dX1_divide_68 : decode cX1_divide 68 = .ok (.lconst 1, 1) := by decide +kernel
theorem dX1_divide_69 : decode cX1_divide 69 = .ok (.ladd, 1) := by decide +kernel
theorem dX1_divide_70 : decode cX1_divide 70 = .ok (.ldiv, 1) := by decide +kernel
theorem dX1_divide_71 : decode cX1_divide 71 = .ok (.lstore 4, 2) := by decide +kernel
theorem dX1_divide_73 : decode cX1_divide 73 = .ok (.aload_n 0, 1) := by decide +kernel
theorem dX1_divide_74 : decode cX1_divide 74 = .ok (.getfield 20, 3) := by decide +kernel
theorem dX1_divide_77 : decode cX1_divide 77 = .ok (.aload_n 2, 1) := by decide +kernel
theorem dX1_divide_78 : decode cX1_divide 78 = .ok (.invokevirtual 41, 3) := by decide +kernel
theorem dX1_divide_81 : decode cX1_divide 81 = .ok (.aload_n 0, 1) := by decide +kernel
theorem dX1_divide_82 : decode cX1_divide 82 = .ok (.getfield 20, 3) := by decide +kernel
theorem dX1_divide_85 : decode cX1_divide 85 = .ok (.lload 4, 2) := by decide +kernel
theorem dX1_divide_87 : decode cX1_divide 87 = .ok (.invokevirtual 55, 3) := by decide +kernel
theorem dX1_divide_90 : decode cX1_divide 90 = .ok (.aload_n 1, 1) := by decide +kernel
theorem dX1_divide_91 : decode cX1_divide 91 = .ok (.lload 4, 2) := by decide +kernel
theorem dX1_divide_93 : decode cX1_divide 93 = .ok (.invokevirtual 55, 3) := by decide +kernel
theorem dX1_divide_96 : decode cX1_divide 96 = .ok (.aload_n 0, 1) := by decide +kernel
theorem dX1_divide_97 : decode cX1_divide 97 = .ok (.getfield 14, 3) := by decide +kernel
theorem dX1_divide_100 : decode cX1_divide 100 = .ok (.aload_n 1, 1) := by decide +kernel
theorem dX1_divide_101 : decode cX1_divide 101 = .ok (.getfield 33, 3) := by decide +kernel
theorem dX1_divide_104 : decode cX1_divide 104 = .ok (.iload_n 3, 1) := by decide +kernel
theorem dX1_divide_105 : decode cX1_divide 105 = .ok (.isub, 1) := by decide +kernel
theorem dX1_divide_106 : decode cX1_divide 106 = .ok (.iconst 1, 1) := by decide +kernel
theorem dX1_divide_107 : decode cX1_divide 107 = .ok (.iadd, 1) := by decide +kernel
theorem dX1_divide_108 : decode cX1_divide 108 = .ok (.invokevirtual 58, 3) := by decide +kernel
theorem dX1_divide_111 : decode cX1_divide 111 = .ok (.aload_n 0, 1) := by decide +kernel
theorem dX1_divide_112 : decode cX1_divide 112 = .ok (.getfield 14, 3) := by decide +kernel
theorem dX1_divide_115 : decode cX1_divide 115 = .ok (.getfield 33, 3) := by decide +kernel
theorem dX1_divide_118 : decode cX1_divide 118 = .ok (.iconst 1, 1) := by decide +kernel
theorem dX1_divide_119 : decode cX1_divide 119 = .ok (.isub, 1) := by decide +kernel
theorem dX1_divide_120 : decode cX1_divide 120 = .ok (.istore 6, 2) := by decide +kernel
theorem dX1_divide_122 : decode cX1_divide 122 = .ok (.iload 6, 2) := by decide +kernel
theorem dX1_divide_124 : decode cX1_divide 124 = .ok (.ifCond .lt 26, 3) := by decide +kernel
theorem dX1_divide_127 : decode cX1_divide 127 = .ok (.aload_n 0, 1) := by decide +kernel
theorem dX1_divide_128 : decode cX1_divide 128 = .ok (.getfield 14, 3) := by decide +kernel
theorem dX1_divide_131 : decode cX1_divide 131 = .ok (.getfield 45, 3) := by decide +kernel
theorem dX1_divide_134 : decode cX1_divide 134 = .ok (.iload 6, 2) := by decide +kernel
theorem dX1_divide_136 : decode cX1_divide 136 = .ok (.aload_n 0, 1) := by decide +kernel
theorem dX1_divide_137 : decode cX1_divide 137 = .ok (.aload_n 1, 1) := by decide +kernel
theorem dX1_divide_138 : decode cX1_divide 138 = .ok (.iload 6, 2) := by decide +kernel
theorem dX1_divide_140 : decode cX1_divide 140 = .ok (.invokevirtual 61, 3) := by decide +kernel
theorem dX1_divide_143 : decode cX1_divide 143 = .ok (.lastore, 1) := by decide +kernel
theorem dX1_divide_144 : decode cX1_divide 144 = .ok (.iinc 6 (-1), 3) := by decide +kernel
theorem dX1_divide_147 : decode cX1_divide 147 = .ok (.goto (-25), 3) := by decide +kernel
theorem dX1_divide_150 : decode cX1_divide 150 = .ok (.aload_n 0, 1) := by decide +kernel
theorem dX1_divide_151 : decode cX1_divide 151 = .ok (.getfield 14, 3) := by decide +kernel
theorem dX1_divide_154 : decode cX1_divide 154 = .ok (.invokevirtual 65, 3) := by decide +kernel
theorem dX1_divide_157 : decode cX1_divide 157 = .ok (.aload_n 1, 1) := by decide +kernel
theorem dX1_divide_158 : decode cX1_divide 158 = .ok (.invokevirtual 65, 3) := by decide +kernel
theorem dX1_divide_161 : decode cX1_divide 161 = .ok (.aload_n 1, 1) := by decide +kernel
theorem dX1_divide_162 : decode cX1_divide 162 = .ok (.lload 4, 2) := by decide +kernel
theorem dX1_divide_164 : decode cX1_divide 164 = .ok (.invokevirtual 49, 3) := by decide +kernel
theorem dX1_divide_167 : decode cX1_divide 167 = .ok (.pop2, 1) := by decide +kernel
theorem dX1_divide_168 : decode cX1_divide 168 = .ok (.return_, 1) := by decide +kernel
theorem dX1_takeDigit_0 : decode cX1_takeDigit 0 = .ok (.aload_n 1, 1) := by decide +kernel
theorem dX1_takeDigit_1 : decode cX1_takeDigit 1 = .ok (.iload_n 2, 1) := by decide +kernel
theorem dX1_takeDigit_2 : decode cX1_takeDigit 2 = .ok (.aload_n 0, 1) := by decide +kernel
theorem dX1_takeDigit_3 : decode cX1_takeDigit 3 = .ok (.getfield 20, 3) := by decide +kernel
theorem dX1_takeDigit_6 : decode cX1_takeDigit 6 = .ok (.getfield 33, 3) := by decide +kernel
theorem dX1_takeDigit_9 : decode cX1_takeDigit 9 = .ok (.iadd, 1) := by decide +kernel
theorem dX1_takeDigit_10 : decode cX1_takeDigit 10 = .ok (.invokevirtual 68, 3) := by decide +kernel
theorem dX1_takeDigit_13 : decode cX1_takeDigit 13 = .ok (.lstore_n 3, 1) := by decide +kernel
theorem dX1_takeDigit_14 : decode cX1_takeDigit 14 = .ok (.aload_n 0, 1) := by decide +kernel
theorem dX1_takeDigit_15 : decode cX1_takeDigit 15 = .ok (.aload_n 1, 1) := by decide +kernel
theorem dX1_takeDigit_16 : decode cX1_takeDigit 16 = .ok (.iload_n 2, 1) := by decide +kernel
theorem dX1_takeDigit_17 : decode cX1_takeDigit 17 = .ok (.invokevirtual 72, 3) := by decide +kernel
theorem dX1_takeDigit_20 : decode cX1_takeDigit 20 = .ok (.lstore 5, 2) := by decide +kernel
theorem dX1_takeDigit_22 : decode cX1_takeDigit 22 = .ok (.aload_n 0, 1) := by decide +kernel
theorem dX1_takeDigit_23 : decode cX1_takeDigit 23 = .ok (.aload_n 1, 1) := by decide +kernel
theorem dX1_takeDigit_24 : decode cX1_takeDigit 24 = .ok (.iload_n 2, 1) := by decide +kernel
theorem dX1_takeDigit_25 : decode cX1_takeDigit 25 = .ok (.lload 5, 2) := by decide +kernel
theorem dX1_takeDigit_27 : decode cX1_takeDigit 27 = .ok (.invokevirtual 75, 3) := by decide +kernel
theorem dX1_takeDigit_30 : decode cX1_takeDigit 30 = .ok (.lload_n 3, 1) := by decide +kernel
theorem dX1_takeDigit_31 : decode cX1_takeDigit 31 = .ok (.lcmp, 1) := by decide +kernel
theorem dX1_takeDigit_32 : decode cX1_takeDigit 32 = .ok (.ifCond .le 15, 3) := by decide +kernel
theorem dX1_takeDigit_35 : decode cX1_takeDigit 35 = .ok (.lload 5, 2) := by decide +kernel
theorem dX1_takeDigit_37 : decode cX1_takeDigit 37 = .ok (.lconst 1, 1) := by decide +kernel
theorem dX1_takeDigit_38 : decode cX1_takeDigit 38 = .ok (.lsub, 1) := by decide +kernel
theorem dX1_takeDigit_39 : decode cX1_takeDigit 39 = .ok (.lstore 5, 2) := by decide +kernel
theorem dX1_takeDigit_41 : decode cX1_takeDigit 41 = .ok (.aload_n 0, 1) := by decide +kernel
theorem dX1_takeDigit_42 : decode cX1_takeDigit 42 = .ok (.aload_n 1, 1) := by decide +kernel
theorem dX1_takeDigit_43 : decode cX1_takeDigit 43 = .ok (.iload_n 2, 1) := by decide +kernel
theorem dX1_takeDigit_44 : decode cX1_takeDigit 44 = .ok (.invokevirtual 79, 3) := by decide +kernel
theorem dX1_takeDigit_47 : decode cX1_takeDigit 47 = .ok (.aload_n 1, 1) := by decide +kernel
theorem dX1_takeDigit_48 : decode cX1_takeDigit 48 = .ok (.iload_n 2, 1) := by decide +kernel
theorem dX1_takeDigit_49 : decode cX1_takeDigit 49 = .ok (.aload_n 0, 1) := by decide +kernel
theorem dX1_takeDigit_50 : decode cX1_takeDigit 50 = .ok (.getfield 20, 3) := by decide +kernel
theorem dX1_takeDigit_53 : decode cX1_takeDigit 53 = .ok (.getfield 33, 3) := by decide +kernel
theorem dX1_takeDigit_56 : decode cX1_takeDigit 56 = .ok (.iadd, 1) := by decide +kernel
theorem dX1_takeDigit_57 : decode cX1_takeDigit 57 = .ok (.invokevirtual 83, 3) := by decide +kernel
theorem dX1_takeDigit_60 : decode cX1_takeDigit 60 = .ok (.lload 5, 2) := by decide +kernel
theorem dX1_takeDigit_62 : decode cX1_takeDigit 62 = .ok (.lreturn, 1) := by decide +kernel
theorem dX1_guess_0 : decode cX1_guess 0 = .ok (.aload_n 0, 1) := by decide +kernel
theorem dX1_guess_1 : decode cX1_guess 1 = .ok (.getfield 20, 3) := by decide +kernel
theorem dX1_guess_4 : decode cX1_guess 4 = .ok (.getfield 33, 3) := by decide +kernel
theorem dX1_guess_7 : decode cX1_guess 7 = .ok (.istore_n 3, 1) := by decide +kernel
theorem dX1_guess_8 : decode cX1_guess 8 = .ok (.aload_n 0, 1) := by decide +kernel
theorem dX1_guess_9 : decode cX1_guess 9 = .ok (.getfield 20, 3) := by decide +kernel
theorem dX1_guess_12 : decode cX1_guess 12 = .ok (.iload_n 3, 1) := by decide +kernel
theorem dX1_guess_13 : decode cX1_guess 13 = .ok (.iconst 1, 1) := by decide +kernel
theorem dX1_guess_14 : decode cX1_guess 14 = .ok (.isub, 1) := by decide +kernel
theorem dX1_guess_15 : decode cX1_guess 15 = .ok (.invokevirtual 68, 3) := by decide +kernel
theorem dX1_guess_18 : decode cX1_guess 18 = .ok (.lstore 4, 2) := by decide +kernel
theorem dX1_guess_20 : decode cX1_guess 20 = .ok (.aload_n 0, 1) := by decide +kernel
theorem dX1_guess_21 : decode cX1_guess 21 = .ok (.getfield 20, 3) := by decide +kernel
theorem dX1_guess_24 : decode cX1_guess 24 = .ok (.iload_n 3, 1) := by decide +kernel
theorem dX1_guess_25 : decode cX1_guess 25 = .ok (.iconst 2, 1) := by decide +kernel
theorem dX1_guess_26 : decode cX1_guess 26 = .ok (.isub, 1) := by decide +kernel
theorem dX1_guess_27 : decode cX1_guess 27 = .ok (.invokevirtual 68, 3) := by decide +kernel
theorem dX1_guess_30 : decode cX1_guess 30 = .ok (.lstore 6, 2) := by decide +kernel
theorem dX1_guess_32 : decode cX1_guess 32 = .ok (.lload 4, 2) := by decide +kernel
theorem dX1_guess_34 : decode cX1_guess 34 = .ok (.lconst 0, 1) := by decide +kernel
theorem dX1_guess_35 : decode cX1_guess 35 = .ok (.lcmp, 1) := by decide +kernel
theorem dX1_guess_36 : decode cX1_guess 36 = .ok (.ifCond .ne 5, 3) := by decide +kernel
theorem dX1_guess_39 : decode cX1_guess 39 = .ok (.lconst 0, 1) := by decide +kernel
theorem dX1_guess_40 : decode cX1_guess 40 = .ok (.lreturn, 1) := by decide +kernel
theorem dX1_guess_41 : decode cX1_guess 41 = .ok (.aload_n 1, 1) := by decide +kernel
theorem dX1_guess_42 : decode cX1_guess 42 = .ok (.iload_n 2, 1) := by decide +kernel
theorem dX1_guess_43 : decode cX1_guess 43 = .ok (.iload_n 3, 1) := by decide +kernel
theorem dX1_guess_44 : decode cX1_guess 44 = .ok (.iadd, 1) := by decide +kernel
theorem dX1_guess_45 : decode cX1_guess 45 = .ok (.invokevirtual 68, 3) := by decide +kernel
theorem dX1_guess_48 : decode cX1_guess 48 = .ok (.bipush 30, 2) := by decide +kernel
theorem dX1_guess_50 : decode cX1_guess 50 = .ok (.lshl, 1) := by decide +kernel
theorem dX1_guess_51 : decode cX1_guess 51 = .ok (.aload_n 1, 1) := by decide +kernel
theorem dX1_guess_52 : decode cX1_guess 52 = .ok (.iload_n 2, 1) := by decide +kernel
theorem dX1_guess_53 : decode cX1_guess 53 = .ok (.iload_n 3, 1) := by decide +kernel
theorem dX1_guess_54 : decode cX1_guess 54 = .ok (.iadd, 1) := by decide +kernel
theorem dX1_guess_55 : decode cX1_guess 55 = .ok (.iconst 1, 1) := by decide +kernel
theorem dX1_guess_56 : decode cX1_guess 56 = .ok (.isub, 1) := by decide +kernel
theorem dX1_guess_57 : decode cX1_guess 57 = .ok (.invokevirtual 68, 3) := by decide +kernel
theorem dX1_guess_60 : decode cX1_guess 60 = .ok (.ladd, 1) := by decide +kernel
theorem dX1_guess_61 : decode cX1_guess 61 = .ok (.lstore 8, 2) := by decide +kernel
theorem dX1_guess_63 : decode cX1_guess 63 = .ok (.aload_n 1, 1) := by decide +kernel
theorem dX1_guess_64 : decode cX1_guess 64 = .ok (.iload_n 2, 1) := by decide +kernel
theorem dX1_guess_65 : decode cX1_guess 65 = .ok (.iload_n 3, 1) := by decide +kernel
theorem dX1_guess_66 : decode cX1_guess 66 = .ok (.iadd, 1) := by decide +kernel
theorem dX1_guess_67 : decode cX1_guess 67 = .ok (.iconst 2, 1) := by decide +kernel
theorem dX1_guess_68 : decode cX1_guess 68 = .ok (.isub, 1) := by decide +kernel
theorem dX1_guess_69 : decode cX1_guess 69 = .ok (.invokevirtual 68, 3) := by decide +kernel
theorem dX1_guess_72 : decode cX1_guess 72 = .ok (.lstore 10, 2) := by decide +kernel
theorem dX1_guess_74 : decode cX1_guess 74 = .ok (.lload 8, 2) := by decide +kernel
theorem dX1_guess_76 : decode cX1_guess 76 = .ok (.lload 4, 2) := by decide +kernel
theorem dX1_guess_78 : decode cX1_guess 78 = .ok (.ldiv, 1) := by decide +kernel
theorem dX1_guess_79 : decode cX1_guess 79 = .ok (.lstore 12, 2) := by decide +kernel
theorem dX1_guess_81 : decode cX1_guess 81 = .ok (.lload 8, 2) := by decide +kernel
theorem dX1_guess_83 : decode cX1_guess 83 = .ok (.lload 4, 2) := by decide +kernel
theorem dX1_guess_85 : decode cX1_guess 85 = .ok (.lrem, 1) := by decide +kernel
theorem dX1_guess_86 : decode cX1_guess 86 = .ok (.lstore 14, 2) := by decide +kernel
theorem dX1_guess_88 : decode cX1_guess 88 = .ok (.iconst 0, 1) := by decide +kernel
theorem dX1_guess_89 : decode cX1_guess 89 = .ok (.istore 16, 2) := by decide +kernel
theorem dX1_guess_91 : decode cX1_guess 91 = .ok (.iload 16, 2) := by decide +kernel
theorem dX1_guess_93 : decode cX1_guess 93 = .ok (.iconst 2, 1) := by decide +kernel
theorem dX1_guess_94 : decode cX1_guess 94 = .ok (.if_icmp .ge 57, 3) := by decide +kernel
theorem dX1_guess_97 : decode cX1_guess 97 = .ok (.lload 14, 2) := by decide +kernel
theorem dX1_guess_99 : decode cX1_guess 99 = .ok (.ldc2_w 53, 3) := by decide +kernel
theorem dX1_guess_102 : decode cX1_guess 102 = .ok (.lcmp, 1) := by decide +kernel
theorem dX1_guess_103 : decode cX1_guess 103 = .ok (.ifCond .ge 48, 3) := by decide +kernel
theorem dX1_guess_106 : decode cX1_guess 106 = .ok (.lload 12, 2) := by decide +kernel
theorem dX1_guess_108 : decode cX1_guess 108 = .ok (.ldc2_w 53, 3) := by decide +kernel
theorem dX1_guess_111 : decode cX1_guess 111 = .ok (.lcmp, 1) := by decide +kernel
theorem dX1_guess_112 : decode cX1_guess 112 = .ok (.ifCond .ge 20, 3) := by decide +kernel
theorem dX1_guess_115 : decode cX1_guess 115 = .ok (.lload 12, 2) := by decide +kernel
theorem dX1_guess_117 : decode cX1_guess 117 = .ok (.lload 6, 2) := by decide +kernel
theorem dX1_guess_119 : decode cX1_guess 119 = .ok (.lmul, 1) := by decide +kernel
theorem dX1_guess_120 : decode cX1_guess 120 = .ok (.lload 14, 2) := by decide +kernel
theorem dX1_guess_122 : decode cX1_guess 122 = .ok (.bipush 30, 2) := by decide +kernel
theorem dX1_guess_124 : decode cX1_guess 124 = .ok (.lshl, 1) := by decide +kernel
theorem dX1_guess_125 : decode cX1_guess 125 = .ok (.lload 10, 2) := by decide +kernel
theorem dX1_guess_127 : decode cX1_guess 127 = .ok (.ladd, 1) := by decide +kernel
theorem dX1_guess_128 : decode cX1_guess 128 = .ok (.lcmp, 1) := by decide +kernel
theorem dX1_guess_129 : decode cX1_guess 129 = .ok (.ifCond .le 16, 3) := by decide +kernel
theorem dX1_guess_132 : decode cX1_guess 132 = .ok (.lload 12, 2) := by decide +kernel
theorem dX1_guess_134 : decode cX1_guess 134 = .ok (.lconst 1, 1) := by decide +kernel
theorem dX1_guess_135 : decode cX1_guess 135 = .ok (.lsub, 1) := by decide +kernel
theorem dX1_guess_136 : decode cX1_guess 136 = .ok (.lstore 12, 2) := by decide +kernel
theorem dX1_guess_138 : decode cX1_guess 138 = .ok (.lload 14, 2) := by decide +kernel
theorem dX1_guess_140 : decode cX1_guess 140 = .ok (.lload 4, 2) := by decide +kernel
theorem dX1_guess_142 : decode cX1_guess 142 = .ok (.ladd, 1) := by decide +kernel
theorem dX1_guess_143 : decode cX1_guess 143 = .ok (.lstore 14, 2) := by decide +kernel
theorem dX1_guess_145 : decode cX1_guess 145 = .ok (.iinc 16 1, 3) := by decide +kernel
theorem dX1_guess_148 : decode cX1_guess 148 = .ok (.goto (-57), 3) := by decide +kernel
theorem dX1_guess_151 : decode cX1_guess 151 = .ok (.lload 12, 2) := by decide +kernel
theorem dX1_guess_153 : decode cX1_guess 153 = .ok (.lreturn, 1) := by decide +kernel
theorem dX1_takeAway_0 : decode cX1_takeAway 0 = .ok (.lconst 0, 1) := by decide +kernel
theorem dX1_takeAway_1 : decode cX1_takeAway 1 = .ok (.lstore 5, 2) := by decide +kernel
theorem dX1_takeAway_3 : decode cX1_takeAway 3 = .ok (.iconst 0, 1) := by decide +kernel
theorem dX1_takeAway_4 : decode cX1_takeAway 4 = .ok (.istore 7, 2) := by decide +kernel
theorem dX1_takeAway_6 : decode cX1_takeAway 6 = .ok (.iload 7, 2) := by decide +kernel
theorem dX1_takeAway_8 : decode cX1_takeAway 8 = .ok (.aload_n 0, 1) := by decide +kernel
theorem dX1_takeAway_9 : decode cX1_takeAway 9 = .ok (.getfield 20, 3) := by decide +kernel
theorem dX1_takeAway_12 : decode cX1_takeAway 12 = .ok (.getfield 33, 3) := by decide +kernel
theorem dX1_takeAway_15 : decode cX1_takeAway 15 = .ok (.if_icmp .ge 70, 3) := by decide +kernel
theorem dX1_takeAway_18 : decode cX1_takeAway 18 = .ok (.iload_n 2, 1) := by decide +kernel
theorem dX1_takeAway_19 : decode cX1_takeAway 19 = .ok (.iload 7, 2) := by decide +kernel
theorem dX1_takeAway_21 : decode cX1_takeAway 21 = .ok (.iadd, 1) := by decide +kernel
theorem dX1_takeAway_22 : decode cX1_takeAway 22 = .ok (.aload_n 1, 1) := by decide +kernel
theorem dX1_takeAway_23 : decode cX1_takeAway 23 = .ok (.getfield 33, 3) := by decide +kernel
theorem dX1_takeAway_26 : decode cX1_takeAway 26 = .ok (.if_icmp .ge 59, 3) := by decide +kernel
theorem dX1_takeAway_29 : decode cX1_takeAway 29 = .ok (.aload_n 1, 1) := by decide +kernel
theorem dX1_takeAway_30 : decode cX1_takeAway 30 = .ok (.getfield 45, 3) := by decide +kernel
theorem dX1_takeAway_33 : decode cX1_takeAway 33 = .ok (.iload_n 2, 1) := by decide +kernel
theorem dX1_takeAway_34 : decode cX1_takeAway 34 = .ok (.iload 7, 2) := by decide +kernel
theorem dX1_takeAway_36 : decode cX1_takeAway 36 = .ok (.iadd, 1) := by decide +kernel
theorem dX1_takeAway_37 : decode cX1_takeAway 37 = .ok (.laload, 1) := by decide +kernel
theorem dX1_takeAway_38 : decode cX1_takeAway 38 = .ok (.aload_n 0, 1) := by decide +kernel
theorem dX1_takeAway_39 : decode cX1_takeAway 39 = .ok (.getfield 20, 3) := by decide +kernel
theorem dX1_takeAway_42 : decode cX1_takeAway 42 = .ok (.getfield 45, 3) := by decide +kernel
theorem dX1_takeAway_45 : decode cX1_takeAway 45 = .ok (.iload 7, 2) := by decide +kernel
theorem dX1_takeAway_47 : decode cX1_takeAway 47 = .ok (.laload, 1) := by decide +kernel
theorem dX1_takeAway_48 : decode cX1_takeAway 48 = .ok (.lload_n 3, 1) := by decide +kernel
theorem dX1_takeAway_49 : decode cX1_takeAway 49 = .ok (.lmul, 1) := by decide +kernel
theorem dX1_takeAway_50 : decode cX1_takeAway 50 = .ok (.lsub, 1) := by decide +kernel
theorem dX1_takeAway_51 : decode cX1_takeAway 51 = .ok (.lload 5, 2) := by decide +kernel
theorem dX1_takeAway_53 : decode cX1_takeAway 53 = .ok (.lsub, 1) := by decide +kernel
theorem dX1_takeAway_54 : decode cX1_takeAway 54 = .ok (.lstore 8, 2) := by decide +kernel
theorem dX1_takeAway_56 : decode cX1_takeAway 56 = .ok (.aload_n 1, 1) := by decide +kernel
theorem dX1_takeAway_57 : decode cX1_takeAway 57 = .ok (.getfield 45, 3) := by decide +kernel
theorem dX1_takeAway_60 : decode cX1_takeAway 60 = .ok (.iload_n 2, 1) := by decide +kernel
theorem dX1_takeAway_61 : decode cX1_takeAway 61 = .ok (.iload 7, 2) := by decide +kernel
theorem dX1_takeAway_63 : decode cX1_takeAway 63 = .ok (.iadd, 1) := by decide +kernel
theorem dX1_takeAway_64 : decode cX1_takeAway 64 = .ok (.lload 8, 2) := by decide +kernel
theorem dX1_takeAway_66 : decode cX1_takeAway 66 = .ok (.ldc2_w 86, 3) := by decide +kernel
theorem dX1_takeAway_69 : decode cX1_takeAway 69 = .ok (.land, 1) := by decide +kernel
theorem dX1_takeAway_70 : decode cX1_takeAway 70 = .ok (.lastore, 1) := by decide +kernel
theorem dX1_takeAway_71 : decode cX1_takeAway 71 = .ok (.lload 8, 2) := by decide +kernel
theorem dX1_takeAway_73 : decode cX1_takeAway 73 = .ok (.bipush 30, 2) := by decide +kernel
theorem dX1_takeAway_75 : decode cX1_takeAway 75 = .ok (.lshr, 1) := by decide +kernel
theorem dX1_takeAway_76 : decode cX1_takeAway 76 = .ok (.lneg, 1) := by decide +kernel
theorem dX1_takeAway_77 : decode cX1_takeAway 77 = .ok (.lstore 5, 2) := by decide +kernel
theorem dX1_takeAway_79 : decode cX1_takeAway 79 = .ok (.iinc 7 1, 3) := by decide +kernel
theorem dX1_takeAway_82 : decode cX1_takeAway 82 = .ok (.goto (-76), 3) := by decide +kernel
theorem dX1_takeAway_85 : decode cX1_takeAway 85 = .ok (.lload 5, 2) := by decide +kernel
theorem dX1_takeAway_87 : decode cX1_takeAway 87 = .ok (.lreturn, 1) := by decide +kernel
theorem dX1_putBack_0 : decode cX1_putBack 0 = .ok (.lconst 0, 1) := by decide +kernel
theorem dX1_putBack_1 : decode cX1_putBack 1 = .ok (.lstore_n 3, 1) := by decide +kernel
theorem dX1_putBack_2 : decode cX1_putBack 2 = .ok (.iconst 0, 1) := by decide +kernel
theorem dX1_putBack_3 : decode cX1_putBack 3 = .ok (.istore 5, 2) := by decide +kernel
theorem dX1_putBack_5 : decode cX1_putBack 5 = .ok (.iload 5, 2) := by decide +kernel
theorem dX1_putBack_7 : decode cX1_putBack 7 = .ok (.aload_n 0, 1) := by decide +kernel
theorem dX1_putBack_8 : decode cX1_putBack 8 = .ok (.getfield 20, 3) := by decide +kernel
theorem dX1_putBack_11 : decode cX1_putBack 11 = .ok (.getfield 33, 3) := by decide +kernel
theorem dX1_putBack_14 : decode cX1_putBack 14 = .ok (.if_icmp .ge 65, 3) := by decide +kernel
theorem dX1_putBack_17 : decode cX1_putBack 17 = .ok (.iload_n 2, 1) := by decide +kernel
theorem dX1_putBack_18 : decode cX1_putBack 18 = .ok (.iload 5, 2) := by decide +kernel
theorem dX1_putBack_20 : decode cX1_putBack 20 = .ok (.iadd, 1) := by decide +kernel
theorem dX1_putBack_21 : decode cX1_putBack 21 = .ok (.aload_n 1, 1) := by decide +kernel
theorem dX1_putBack_22 : decode cX1_putBack 22 = .ok (.getfield 33, 3) := by decide +kernel
theorem dX1_putBack_25 : decode cX1_putBack 25 = .ok (.if_icmp .ge 54, 3) := by decide +kernel
theorem dX1_putBack_28 : decode cX1_putBack 28 = .ok (.aload_n 1, 1) := by decide +kernel
theorem dX1_putBack_29 : decode cX1_putBack 29 = .ok (.getfield 45, 3) := by decide +kernel
theorem dX1_putBack_32 : decode cX1_putBack 32 = .ok (.iload_n 2, 1) := by decide +kernel
theorem dX1_putBack_33 : decode cX1_putBack 33 = .ok (.iload 5, 2) := by decide +kernel
theorem dX1_putBack_35 : decode cX1_putBack 35 = .ok (.iadd, 1) := by decide +kernel
theorem dX1_putBack_36 : decode cX1_putBack 36 = .ok (.laload, 1) := by decide +kernel
theorem dX1_putBack_37 : decode cX1_putBack 37 = .ok (.aload_n 0, 1) := by decide +kernel
theorem dX1_putBack_38 : decode cX1_putBack 38 = .ok (.getfield 20, 3) := by decide +kernel
theorem dX1_putBack_41 : decode cX1_putBack 41 = .ok (.getfield 45, 3) := by decide +kernel
theorem dX1_putBack_44 : decode cX1_putBack 44 = .ok (.iload 5, 2) := by decide +kernel
theorem dX1_putBack_46 : decode cX1_putBack 46 = .ok (.laload, 1) := by decide +kernel
theorem dX1_putBack_47 : decode cX1_putBack 47 = .ok (.ladd, 1) := by decide +kernel
theorem dX1_putBack_48 : decode cX1_putBack 48 = .ok (.lload_n 3, 1) := by decide +kernel
theorem dX1_putBack_49 : decode cX1_putBack 49 = .ok (.ladd, 1) := by decide +kernel
theorem dX1_putBack_50 : decode cX1_putBack 50 = .ok (.lstore 6, 2) := by decide +kernel
theorem dX1_putBack_52 : decode cX1_putBack 52 = .ok (.aload_n 1, 1) := by decide +kernel
theorem dX1_putBack_53 : decode cX1_putBack 53 = .ok (.getfield 45, 3) := by decide +kernel
theorem dX1_putBack_56 : decode cX1_putBack 56 = .ok (.iload_n 2, 1) := by decide +kernel
theorem dX1_putBack_57 : decode cX1_putBack 57 = .ok (.iload 5, 2) := by decide +kernel
theorem dX1_putBack_59 : decode cX1_putBack 59 = .ok (.iadd, 1) := by decide +kernel
theorem dX1_putBack_60 : decode cX1_putBack 60 = .ok (.lload 6, 2) := by decide +kernel
theorem dX1_putBack_62 : decode cX1_putBack 62 = .ok (.ldc2_w 86, 3) := by decide +kernel
theorem dX1_putBack_65 : decode cX1_putBack 65 = .ok (.land, 1) := by decide +kernel
theorem dX1_putBack_66 : decode cX1_putBack 66 = .ok (.lastore, 1) := by decide +kernel
theorem dX1_putBack_67 : decode cX1_putBack 67 = .ok (.lload 6, 2) := by decide +kernel
theorem dX1_putBack_69 : decode cX1_putBack 69 = .ok (.bipush 30, 2) := by decide +kernel
theorem dX1_putBack_71 : decode cX1_putBack 71 = .ok (.lshr, 1) := by decide +kernel
theorem dX1_putBack_72 : decode cX1_putBack 72 = .ok (.lstore_n 3, 1) := by decide +kernel
theorem dX1_putBack_73 : decode cX1_putBack 73 = .ok (.iinc 5 1, 3) := by decide +kernel
theorem dX1_putBack_76 : decode cX1_putBack 76 = .ok (.goto (-71), 3) := by decide +kernel
theorem dX1_putBack_79 : decode cX1_putBack 79 = .ok (.return_, 1) := by decide +kernel
theorem dX1_reduce_0 : decode cX1_reduce 0 = .ok (.aload_n 0, 1) := by decide +kernel
theorem dX1_reduce_1 : decode cX1_reduce 1 = .ok (.getfield 23, 3) := by decide +kernel
theorem dX1_reduce_4 : decode cX1_reduce 4 = .ok (.astore_n 2, 1) := by decide +kernel
theorem dX1_reduce_5 : decode cX1_reduce 5 = .ok (.aload_n 0, 1) := by decide +kernel
theorem dX1_reduce_6 : decode cX1_reduce 6 = .ok (.getfield 26, 3) := by decide +kernel
theorem dX1_reduce_9 : decode cX1_reduce 9 = .ok (.astore_n 3, 1) := by decide +kernel
theorem dX1_reduce_10 : decode cX1_reduce 10 = .ok (.aload_n 2, 1) := by decide +kernel
theorem dX1_reduce_11 : decode cX1_reduce 11 = .ok (.aload_n 1, 1) := by decide +kernel
theorem dX1_reduce_12 : decode cX1_reduce 12 = .ok (.getfield 88, 3) := by decide +kernel
theorem dX1_reduce_15 : decode cX1_reduce 15 = .ok (.invokevirtual 41, 3) := by decide +kernel
theorem dX1_reduce_18 : decode cX1_reduce 18 = .ok (.aload_n 3, 1) := by decide +kernel
theorem dX1_reduce_19 : decode cX1_reduce 19 = .ok (.aload_n 1, 1) := by decide +kernel
theorem dX1_reduce_20 : decode cX1_reduce 20 = .ok (.getfield 93, 3) := by decide +kernel
theorem dX1_reduce_23 : decode cX1_reduce 23 = .ok (.invokevirtual 41, 3) := by decide +kernel
theorem dX1_reduce_26 : decode cX1_reduce 26 = .ok (.iconst 0, 1) := by decide +kernel
theorem dX1_reduce_27 : decode cX1_reduce 27 = .ok (.istore 4, 2) := by decide +kernel
theorem dX1_reduce_29 : decode cX1_reduce 29 = .ok (.iload 4, 2) := by decide +kernel
theorem dX1_reduce_31 : decode cX1_reduce 31 = .ok (.sipush 400, 3) := by decide +kernel
theorem dX1_reduce_34 : decode cX1_reduce 34 = .ok (.if_icmp .ge 30, 3) := by decide +kernel
theorem dX1_reduce_37 : decode cX1_reduce 37 = .ok (.aload_n 3, 1) := by decide +kernel
theorem dX1_reduce_38 : decode cX1_reduce 38 = .ok (.getfield 33, 3) := by decide +kernel
theorem dX1_reduce_41 : decode cX1_reduce 41 = .ok (.ifCond .le 23, 3) := by decide +kernel
theorem dX1_reduce_44 : decode cX1_reduce 44 = .ok (.aload_n 0, 1) := by decide +kernel
theorem dX1_reduce_45 : decode cX1_reduce 45 = .ok (.aload_n 2, 1) := by decide +kernel
theorem dX1_reduce_46 : decode cX1_reduce 46 = .ok (.aload_n 3, 1) := by decide +kernel
theorem dX1_reduce_47 : decode cX1_reduce 47 = .ok (.invokevirtual 96, 3) := by decide +kernel
theorem dX1_reduce_50 : decode cX1_reduce 50 = .ok (.aload_n 2, 1) := by decide +kernel
theorem dX1_reduce_51 : decode cX1_reduce 51 = .ok (.astore 5, 2) := by decide +kernel
theorem dX1_reduce_53 : decode cX1_reduce 53 = .ok (.aload_n 3, 1) := by decide +kernel
theorem dX1_reduce_54 : decode cX1_reduce 54 = .ok (.astore_n 2, 1) := by decide +kernel
theorem dX1_reduce_55 : decode cX1_reduce 55 = .ok (.aload 5, 2) := by decide +kernel
theorem dX1_reduce_57 : decode cX1_reduce 57 = .ok (.astore_n 3, 1) := by decide +kernel
theorem dX1_reduce_58 : decode cX1_reduce 58 = .ok (.iinc 4 1, 3) := by decide +kernel
theorem dX1_reduce_61 : decode cX1_reduce 61 = .ok (.goto (-32), 3) := by decide +kernel
theorem dX1_reduce_64 : decode cX1_reduce 64 = .ok (.aload_n 0, 1) := by decide +kernel
theorem dX1_reduce_65 : decode cX1_reduce 65 = .ok (.aload_n 1, 1) := by decide +kernel
theorem dX1_reduce_66 : decode cX1_reduce 66 = .ok (.getfield 88, 3) := by decide +kernel
theorem dX1_reduce_69 : decode cX1_reduce 69 = .ok (.aload_n 2, 1) := by decide +kernel
theorem dX1_reduce_70 : decode cX1_reduce 70 = .ok (.invokevirtual 96, 3) := by decide +kernel
theorem dX1_reduce_73 : decode cX1_reduce 73 = .ok (.aload_n 1, 1) := by decide +kernel
theorem dX1_reduce_74 : decode cX1_reduce 74 = .ok (.getfield 88, 3) := by decide +kernel
theorem dX1_reduce_77 : decode cX1_reduce 77 = .ok (.aload_n 0, 1) := by decide +kernel
theorem dX1_reduce_78 : decode cX1_reduce 78 = .ok (.getfield 14, 3) := by decide +kernel
theorem dX1_reduce_81 : decode cX1_reduce 81 = .ok (.invokevirtual 41, 3) := by decide +kernel
theorem dX1_reduce_84 : decode cX1_reduce 84 = .ok (.aload_n 0, 1) := by decide +kernel
theorem dX1_reduce_85 : decode cX1_reduce 85 = .ok (.aload_n 1, 1) := by decide +kernel
theorem dX1_reduce_86 : decode cX1_reduce 86 = .ok (.getfield 93, 3) := by decide +kernel
theorem dX1_reduce_89 : decode cX1_reduce 89 = .ok (.aload_n 2, 1) := by decide +kernel
theorem dX1_reduce_90 : decode cX1_reduce 90 = .ok (.invokevirtual 96, 3) := by decide +kernel
theorem dX1_reduce_93 : decode cX1_reduce 93 = .ok (.aload_n 1, 1) := by decide +kernel
theorem dX1_reduce_94 : decode cX1_reduce 94 = .ok (.getfield 93, 3) := by decide +kernel
theorem dX1_reduce_97 : decode cX1_reduce 97 = .ok (.aload_n 0, 1) := by decide +kernel
theorem dX1_reduce_98 : decode cX1_reduce 98 = .ok (.getfield 14, 3) := by decide +kernel
theorem dX1_reduce_101 : decode cX1_reduce 101 = .ok (.invokevirtual 41, 3) := by decide +kernel
theorem dX1_reduce_104 : decode cX1_reduce 104 = .ok (.return_, 1) := by decide +kernel
theorem dX2_init_0 : decode cX2_init 0 = .ok (.aload_n 0, 1) := by decide +kernel
theorem dX2_init_1 : decode cX2_init 1 = .ok (.invokespecial 3, 3) := by decide +kernel
theorem dX2_init_4 : decode cX2_init 4 = .ok (.aload_n 0, 1) := by decide +kernel
theorem dX2_init_5 : decode cX2_init 5 = .ok (.bipush 10, 2) := by decide +kernel
theorem dX2_init_7 : decode cX2_init 7 = .ok (.newarray .int, 2) := by decide +kernel
theorem dX2_init_9 : decode cX2_init 9 = .ok (.putfield 9, 3) := by decide +kernel
theorem dX2_init_12 : decode cX2_init 12 = .ok (.aload_n 0, 1) := by decide +kernel
theorem dX2_init_13 : decode cX2_init 13 = .ok (.bipush 10, 2) := by decide +kernel
theorem dX2_init_15 : decode cX2_init 15 = .ok (.bipush 10, 2) := by decide +kernel
theorem dX2_init_17 : decode cX2_init 17 = .ok (.multianewarray 15 2, 4) := by decide +kernel
theorem dX2_init_21 : decode cX2_init 21 = .ok (.putfield 17, 3) := by decide +kernel
theorem dX2_init_24 : decode cX2_init 24 = .ok (.aload_n 0, 1) := by decide +kernel
theorem dX2_init_25 : decode cX2_init 25 = .ok (.bipush 100, 2) := by decide +kernel
theorem dX2_init_27 : decode cX2_init 27 = .ok (.anewarray 20, 3) := by decide +kernel
theorem dX2_init_30 : decode cX2_init 30 = .ok (.putfield 22, 3) := by decide +kernel
theorem dX2_init_33 : decode cX2_init 33 = .ok (.aload_n 0, 1) := by decide +kernel
theorem dX2_init_34 : decode cX2_init 34 = .ok (.new 20, 3) := by decide +kernel
theorem dX2_init_37 : decode cX2_init 37 = .ok (.dup, 1) := by decide +kernel
theorem dX2_init_38 : decode cX2_init 38 = .ok (.bipush 6, 2) := by decide +kernel
theorem dX2_init_40 : decode cX2_init 40 = .ok (.invokespecial 26, 3) := by decide +kernel
theorem dX2_init_43 : decode cX2_init 43 = .ok (.putfield 29, 3) := by decide +kernel
theorem dX2_init_46 : decode cX2_init 46 = .ok (.aload_n 0, 1) := by decide +kernel
theorem dX2_init_47 : decode cX2_init 47 = .ok (.new 20, 3) := by decide +kernel
theorem dX2_init_50 : decode cX2_init 50 = .ok (.dup, 1) := by decide +kernel
theorem dX2_init_51 : decode cX2_init 51 = .ok (.bipush 6, 2) := by decide +kernel
theorem dX2_init_53 : decode cX2_init 53 = .ok (.invokespecial 26, 3) := by decide +kernel
theorem dX2_init_56 : decode cX2_init 56 = .ok (.putfield 33, 3) := by decide +kernel
theorem dX2_init_59 : decode cX2_init 59 = .ok (.aload_n 0, 1) := by decide +kernel
theorem dX2_init_60 : decode cX2_init 60 = .ok (.new 20, 3) := by decide +kernel
theorem dX2_init_63 : decode cX2_init 63 = .ok (.dup, 1) := by decide +kernel
theorem dX2_init_64 : decode cX2_init 64 = .ok (.bipush 12, 2) := by decide +kernel
theorem dX2_init_66 : decode cX2_init 66 = .ok (.invokespecial 26, 3) := by decide +kernel
theorem dX2_init_69 : decode cX2_init 69 = .ok (.putfield 36, 3) := by decide +kernel
theorem dX2_init_72 : decode cX2_init 72 = .ok (.aload_n 0, 1) := by decide +kernel
theorem dX2_init_73 : decode cX2_init 73 = .ok (.new 20, 3) := by decide +kernel
theorem dX2_init_76 : decode cX2_init 76 = .ok (.dup, 1) := by decide +kernel
theorem dX2_init_77 : decode cX2_init 77 = .ok (.bipush 12, 2) := by decide +kernel
theorem dX2_init_79 : decode cX2_init 79 = .ok (.invokespecial 26, 3) := by decide +kernel
theorem dX2_init_82 : decode cX2_init 82 = .ok (.putfield 39, 3) := by decide +kernel
theorem dX2_init_85 : decode cX2_init 85 = .ok (.aload_n 0, 1) := by decide +kernel
theorem dX2_init_86 : decode cX2_init 86 = .ok (.new 42, 3) := by decide +kernel
theorem dX2_init_89 : decode cX2_init 89 = .ok (.dup, 1) := by decide +kernel
theorem dX2_init_90 : decode cX2_init 90 = .ok (.invokespecial 44, 3) := by decide +kernel
theorem dX2_init_93 : decode cX2_init 93 = .ok (.putfield 45, 3) := by decide +kernel
theorem dX2_init_96 : decode cX2_init 96 = .ok (.aload_n 0, 1) := by decide +kernel
theorem dX2_init_97 : decode cX2_init 97 = .ok (.iconst 0, 1) := by decide +kernel
theorem dX2_init_98 : decode cX2_init 98 = .ok (.putfield 49, 3) := by decide +kernel
theorem dX2_init_101 : decode cX2_init 101 = .ok (.aload_n 0, 1) := by decide +kernel
theorem dX2_init_102 : decode cX2_init 102 = .ok (.iconst (-1), 1) := by decide +kernel
theorem dX2_init_103 : decode cX2_init 103 = .ok (.putfield 53, 3) := by decide +kernel
theorem dX2_init_106 : decode cX2_init 106 = .ok (.aload_n 0, 1) := by decide +kernel
theorem dX2_init_107 : decode cX2_init 107 = .ok (.aload_n 1, 1) := by decide +kernel
theorem dX2_init_108 : decode cX2_init 108 = .ok (.putfield 57, 3) := by decide +kernel
theorem dX2_init_111 : decode cX2_init 111 = .ok (.iconst 0, 1) := by decide +kernel
theorem dX2_init_112 : decode cX2_init 112 = .ok (.istore_n 2, 1) := by decide +kernel
theorem dX2_init_113 : decode cX2_init 113 = .ok (.iload_n 2, 1) := by decide +kernel
theorem dX2_init_114 : decode cX2_init 114 = .ok (.bipush 10, 2) := by decide +kernel
theorem dX2_init_116 : decode cX2_init 116 = .ok (.if_icmp .ge 60, 3) := by decide +kernel
theorem dX2_init_119 : decode cX2_init 119 = .ok (.iload_n 2, 1) := by decide +kernel
theorem dX2_init_120 : decode cX2_init 120 = .ok (.istore_n 3, 1) := by decide +kernel
theorem dX2_init_121 : decode cX2_init 121 = .ok (.iload_n 3, 1) := by decide +kernel
theorem dX2_init_122 : decode cX2_init 122 = .ok (.bipush 10, 2) := by decide +kernel
theorem dX2_init_124 : decode cX2_init 124 = .ok (.if_icmp .ge 46, 3) := by decide +kernel
theorem dX2_init_127 : decode cX2_init 127 = .ok (.new 20, 3) := by decide +kernel
theorem dX2_init_130 : decode cX2_init 130 = .ok (.dup, 1) := by decide +kernel
theorem dX2_init_131 : decode cX2_init 131 = .ok (.bipush 6, 2) := by decide +kernel
theorem dX2_init_133 : decode cX2_init 133 = .ok (.invokespecial 26, 3) := by decide +kernel
theorem dX2_init_136 : decode cX2_init 136 = .ok (.astore 4, 2) := by decide +kernel
theorem dX2_init_138 : decode cX2_init 138 = .ok (.aload_n 0, 1) := by decide +kernel
theorem dX2_init_139 : decode cX2_init 139 = .ok (.getfield 22, 3) := by decide +kernel
theorem dX2_init_142 : decode cX2_init 142 = .ok (.iload_n 2, 1) := by decide +kernel
theorem dX2_init_143 : decode cX2_init 143 = .ok (.bipush 10, 2) := by decide +kernel
theorem dX2_init_145 : decode cX2_init 145 = .ok (.imul, 1) := by decide +kernel
theorem dX2_init_146 : decode cX2_init 146 = .ok (.iload_n 3, 1) := by decide +kernel
theorem dX2_init_147 : decode cX2_init 147 = .ok (.iadd, 1) := by decide +kernel
theorem dX2_init_148 : decode cX2_init 148 = .ok (.aload 4, 2) := by decide +kernel
theorem dX2_init_150 : decode cX2_init 150 = .ok (.aastore, 1) := by decide +kernel
theorem dX2_init_151 : decode cX2_init 151 = .ok (.aload_n 0, 1) := by decide +kernel
theorem dX2_init_152 : decode cX2_init 152 = .ok (.getfield 22, 3) := by decide +kernel
theorem dX2_init_155 : decode cX2_init 155 = .ok (.iload_n 3, 1) := by decide +kernel
theorem dX2_init_156 : decode cX2_init 156 = .ok (.bipush 10, 2) := by decide +kernel
theorem dX2_init_158 : decode cX2_init 158 = .ok (.imul, 1) := by decide +kernel
theorem dX2_init_159 : decode cX2_init 159 = .ok (.iload_n 2, 1) := by decide +kernel
theorem dX2_init_160 : decode cX2_init 160 = .ok (.iadd, 1) := by decide +kernel
theorem dX2_init_161 : decode cX2_init 161 = .ok (.aload 4, 2) := by decide +kernel
theorem dX2_init_163 : decode cX2_init 163 = .ok (.aastore, 1) := by decide +kernel
theorem dX2_init_164 : decode cX2_init 164 = .ok (.iinc 3 1, 3) := by decide +kernel
theorem dX2_init_167 : decode cX2_init 167 = .ok (.goto (-46), 3) := by decide +kernel
theorem dX2_init_170 : decode cX2_init 170 = .ok (.iinc 2 1, 3) := by decide +kernel
theorem dX2_init_173 : decode cX2_init 173 = .ok (.goto (-60), 3) := by decide +kernel
theorem dX2_init_176 : decode cX2_init 176 = .ok (.return_, 1) := by decide +kernel
theorem dX2_forget_0 : decode cX2_forget 0 = .ok (.aload_n 0, 1) := by decide +kernel
theorem dX2_forget_1 : decode cX2_forget 1 = .ok (.iconst 0, 1) := by decide +kernel
theorem dX2_forget_2 : decode cX2_forget 2 = .ok (.putfield 49, 3) := by decide +kernel
theorem dX2_forget_5 : decode cX2_forget 5 = .ok (.aload_n 0, 1) := by decide +kernel
theorem dX2_forget_6 : decode cX2_forget 6 = .ok (.iconst (-1), 1) := by decide +kernel
theorem dX2_forget_7 : decode cX2_forget 7 = .ok (.putfield 53, 3) := by decide +kernel
theorem dX2_forget_10 : decode cX2_forget 10 = .ok (.return_, 1) := by decide +kernel
theorem dX2_refresh_0 : decode cX2_refresh 0 = .ok (.aload_n 0, 1) := by decide +kernel
theorem dX2_refresh_1 : decode cX2_refresh 1 = .ok (.getfield 49, 3) := by decide +kernel
theorem dX2_refresh_4 : decode cX2_refresh 4 = .ok (.ifCond .eq 4, 3) := by decide +kernel
theorem dX2_refresh_7 : decode cX2_refresh 7 = .ok (.return_, 1) := by decide +kernel
theorem dX2_refresh_8 : decode cX2_refresh 8 = .ok (.aload_n 0, 1) := by decide +kernel
theorem dX2_refresh_9 : decode cX2_refresh 9 = .ok (.iconst 1, 1) := by decide +kernel
theorem dX2_refresh_10 : decode cX2_refresh 10 = .ok (.putfield 49, 3) := by decide +kernel
theorem dX2_refresh_13 : decode cX2_refresh 13 = .ok (.iconst 0, 1) := by decide +kernel
theorem dX2_refresh_14 : decode cX2_refresh 14 = .ok (.istore_n 1, 1) := by decide +kernel
theorem dX2_refresh_15 : decode cX2_refresh 15 = .ok (.iload_n 1, 1) := by decide +kernel
theorem dX2_refresh_16 : decode cX2_refresh 16 = .ok (.aload_n 0, 1) := by decide +kernel
theorem dX2_refresh_17 : decode cX2_refresh 17 = .ok (.getfield 57, 3) := by decide +kernel
theorem dX2_refresh_20 : decode cX2_refresh 20 = .ok (.getfield 61, 3) := by decide +kernel
theorem dX2_refresh_23 : decode cX2_refresh 23 = .ok (.if_icmp .ge 26, 3) := by decide +kernel
theorem dX2_refresh_26 : decode cX2_refresh 26 = .ok (.aload_n 0, 1) := by decide +kernel
theorem dX2_refresh_27 : decode cX2_refresh 27 = .ok (.getfield 9, 3) := by decide +kernel
theorem dX2_refresh_30 : decode cX2_refresh 30 = .ok (.iload_n 1, 1) := by decide +kernel
theorem dX2_refresh_31 : decode cX2_refresh 31 = .ok (.iload_n 1, 1) := by decide +kernel
theorem dX2_refresh_32 : decode cX2_refresh 32 = .ok (.iastore, 1) := by decide +kernel
theorem dX2_refresh_33 : decode cX2_refresh 33 = .ok (.aload_n 0, 1) := by decide +kernel
theorem dX2_refresh_34 : decode cX2_refresh 34 = .ok (.getfield 17, 3) := by decide +kernel
theorem dX2_refresh_37 : decode cX2_refresh 37 = .ok (.iload_n 1, 1) := by decide +kernel
theorem dX2_refresh_38 : decode cX2_refresh 38 = .ok (.aaload, 1) := by decide +kernel
theorem dX2_refresh_39 : decode cX2_refresh 39 = .ok (.iconst 0, 1) := by decide +kernel
theorem dX2_refresh_40 : decode cX2_refresh 40 = .ok (.invokestatic 66, 3) := by decide +kernel
theorem dX2_refresh_43 : decode cX2_refresh 43 = .ok (.iinc 1 1, 3) := by decide +kernel
theorem dX2_refresh_46 : decode cX2_refresh 46 = .ok (.goto (-31), 3) := by decide +kernel
theorem dX2_refresh_49 : decode cX2_refresh 49 = .ok (.iconst 0, 1) := by decide +kernel
theorem dX2_refresh_50 : decode cX2_refresh 50 = .ok (.istore_n 1, 1) := by decide +kernel
theorem dX2_refresh_51 : decode cX2_refresh 51 = .ok (.iload_n 1, 1) := by decide +kernel
theorem dX2_refresh_52 : decode cX2_refresh 52 = .ok (.aload_n 0, 1) := by decide +kernel
theorem dX2_refresh_53 : decode cX2_refresh 53 = .ok (.getfield 57, 3) := by decide +kernel
theorem dX2_refresh_56 : decode cX2_refresh 56 = .ok (.getfield 72, 3) := by decide +kernel
theorem dX2_refresh_59 : decode cX2_refresh 59 = .ok (.if_icmp .ge 81, 3) := by decide +kernel
theorem dX2_refresh_62 : decode cX2_refresh 62 = .ok (.aload_n 0, 1) := by decide +kernel
theorem dX2_refresh_63 : decode cX2_refresh 63 = .ok (.getfield 17, 3) := by decide +kernel
theorem dX2_refresh_66 : decode cX2_refresh 66 = .ok (.aload_n 0, 1) := by decide +kernel
theorem dX2_refresh_67 : decode cX2_refresh 67 = .ok (.getfield 57, 3) := by decide +kernel
theorem dX2_refresh_70 : decode cX2_refresh 70 = .ok (.getfield 75, 3) := by decide +kernel
theorem dX2_refresh_73 : decode cX2_refresh 73 = .ok (.iload_n 1, 1) := by decide +kernel
theorem dX2_refresh_74 : decode cX2_refresh 74 = .ok (.iaload, 1) := by decide +kernel
theorem dX2_refresh_75 : decode cX2_refresh 75 = .ok (.aaload, 1) := by decide +kernel
theorem dX2_refresh_76 : decode cX2_refresh 76 = .ok (.aload_n 0, 1) := by decide +kernel
theorem dX2_refresh_77 : decode cX2_refresh 77 = .ok (.getfield 57, 3) := by decide +kernel
theorem dX2_refresh_80 : decode cX2_refresh 80 = .ok (.getfield 78, 3) := by decide +kernel
theorem dX2_refresh_83 : decode cX2_refresh 83 = .ok (.iload_n 1, 1) := by decide +kernel
theorem dX2_refresh_84 : decode cX2_refresh 84 = .ok (.iaload, 1) := by decide +kernel
theorem dX2_refresh_85 : decode cX2_refresh 85 = .ok (.dup2, 1) := by decide +kernel
theorem dX2_refresh_86 : decode cX2_refresh 86 = .ok (.iaload, 1) := by decide +kernel
theorem dX2_refresh_87 : decode cX2_refresh 87 = .ok (.aload_n 0, 1) := by decide +kernel
theorem dX2_refresh_88 : decode cX2_refresh 88 = .ok (.getfield 57, 3) := by decide +kernel
theorem dX2_refresh_91 : decode cX2_refresh 91 = .ok (.getfield 81, 3) := by decide +kernel
theorem dX2_refresh_94 : decode cX2_refresh 94 = .ok (.iload_n 1, 1) := by decide +kernel
theorem dX2_refresh_95 : decode cX2_refresh 95 = .ok (.iaload, 1) := by decide +kernel
theorem dX2_refresh_96 : decode cX2_refresh 96 = .ok (.iadd, 1) := by decide +kernel
theorem dX2_refresh_97 : decode cX2_refresh 97 = .ok (.iastore, 1) := by decide +kernel
theorem dX2_refresh_98 : decode cX2_refresh 98 = .ok (.aload_n 0, 1) := by decide +kernel
theorem dX2_refresh_99 : decode cX2_refresh 99 = .ok (.getfield 17, 3) := by decide +kernel
theorem dX2_refresh_102 : decode cX2_refresh 102 = .ok (.aload_n 0, 1) := by decide +kernel
theorem dX2_refresh_103 : decode cX2_refresh 103 = .ok (.getfield 57, 3) := by decide +kernel
theorem dX2_refresh_106 : decode cX2_refresh 106 = .ok (.getfield 78, 3) := by decide +kernel
theorem dX2_refresh_109 : decode cX2_refresh 109 = .ok (.iload_n 1, 1) := by decide +kernel
theorem dX2_refresh_110 : decode cX2_refresh 110 = .ok (.iaload, 1) := by decide +kernel
theorem dX2_refresh_111 : decode cX2_refresh 111 = .ok (.aaload, 1) := by decide +kernel
theorem dX2_refresh_112 : decode cX2_refresh 112 = .ok (.aload_n 0, 1) := by decide +kernel
theorem dX2_refresh_113 : decode cX2_refresh 113 = .ok (.getfield 57, 3) := by decide +kernel
theorem dX2_refresh_116 : decode cX2_refresh 116 = .ok (.getfield 75, 3) := by decide +kernel
theorem dX2_refresh_119 : decode cX2_refresh 119 = .ok (.iload_n 1, 1) := by decide +kernel
theorem dX2_refresh_120 : decode cX2_refresh 120 = .ok (.iaload, 1) := by decide +kernel
theorem dX2_refresh_121 : decode cX2_refresh 121 = .ok (.dup2, 1) := by decide +kernel
theorem dX2_refresh_122 : decode cX2_refresh 122 = .ok (.iaload, 1) := by decide +kernel
theorem dX2_refresh_123 : decode cX2_refresh 123 = .ok (.aload_n 0, 1) := by decide +kernel
theorem dX2_refresh_124 : decode cX2_refresh 124 = .ok (.getfield 57, 3) := by decide +kernel
theorem dX2_refresh_127 : decode cX2_refresh 127 = .ok (.getfield 81, 3) := by decide +kernel
theorem dX2_refresh_130 : decode cX2_refresh 130 = .ok (.iload_n 1, 1) := by decide +kernel
theorem dX2_refresh_131 : decode cX2_refresh 131 = .ok (.iaload, 1) := by decide +kernel
theorem dX2_refresh_132 : decode cX2_refresh 132 = .ok (.iadd, 1) := by decide +kernel
theorem dX2_refresh_133 : decode cX2_refresh 133 = .ok (.iastore, 1) := by decide +kernel
theorem dX2_refresh_134 : decode cX2_refresh 134 = .ok (.iinc 1 1, 3) := by decide +kernel
theorem dX2_refresh_137 : decode cX2_refresh 137 = .ok (.goto (-86), 3) := by decide +kernel
theorem dX2_refresh_140 : decode cX2_refresh 140 = .ok (.iconst 0, 1) := by decide +kernel
theorem dX2_refresh_141 : decode cX2_refresh 141 = .ok (.istore_n 1, 1) := by decide +kernel
theorem dX2_refresh_142 : decode cX2_refresh 142 = .ok (.iload_n 1, 1) := by decide +kernel
theorem dX2_refresh_143 : decode cX2_refresh 143 = .ok (.aload_n 0, 1) := by decide +kernel
theorem dX2_refresh_144 : decode cX2_refresh 144 = .ok (.getfield 57, 3) := by decide +kernel
theorem dX2_refresh_147 : decode cX2_refresh 147 = .ok (.getfield 61, 3) := by decide +kernel
theorem dX2_refresh_150 : decode cX2_refresh 150 = .ok (.if_icmp .ge 13, 3) := by decide +kernel
theorem dX2_refresh_153 : decode cX2_refresh 153 = .ok (.aload_n 0, 1) := by decide +kernel
theorem dX2_refresh_154 : decode cX2_refresh 154 = .ok (.invokevirtual 84, 3) := by decide +kernel
theorem dX2_refresh_157 : decode cX2_refresh 157 = .ok (.iinc 1 1, 3) := by decide +kernel
theorem dX2_refresh_160 : decode cX2_refresh 160 = .ok (.goto (-18), 3) := by decide +kernel
theorem dX2_refresh_163 : decode cX2_refresh 163 = .ok (.return_, 1) := by decide +kernel
theorem dX2_lowerGrounds_0 : decode cX2_lowerGrounds 0 = .ok (.iconst 0, 1) := by decide +kernel
theorem dX2_lowerGrounds_1 : decode cX2_lowerGrounds 1 = .ok (.istore_n 1, 1) := by decide +kernel
theorem dX2_lowerGrounds_2 : decode cX2_lowerGrounds 2 = .ok (.iload_n 1, 1) := by decide +kernel
theorem dX2_lowerGrounds_3 : decode cX2_lowerGrounds 3 = .ok (.aload_n 0, 1) := by decide +kernel
theorem dX2_lowerGrounds_4 : decode cX2_lowerGrounds 4 = .ok (.getfield 57, 3) := by decide +kernel
theorem dX2_lowerGrounds_7 : decode cX2_lowerGrounds 7 = .ok (.getfield 72, 3) := by decide +kernel
theorem dX2_lowerGrounds_10 : decode cX2_lowerGrounds 10 = .ok (.if_icmp .ge 83, 3) := by decide +kernel
theorem dX2_lowerGrounds_13 : decode cX2_lowerGrounds 13 = .ok (.aload_n 0, 1) := by decide +kernel
theorem dX2_lowerGrounds_14 : decode cX2_lowerGrounds 14 = .ok (.getfield 57, 3) := by decide +kernel
theorem dX2_lowerGrounds_17 : decode cX2_lowerGrounds 17 = .ok (.getfield 81, 3) := by decide +kernel
theorem dX2_lowerGrounds_20 : decode cX2_lowerGrounds 20 = .ok (.iload_n 1, 1) := by decide +kernel
theorem dX2_lowerGrounds_21 : decode cX2_lowerGrounds 21 = .ok (.iaload, 1) := by decide +kernel
theorem dX2_lowerGrounds_22 : decode cX2_lowerGrounds 22 = .ok (.ifCond .le 65, 3) := by decide +kernel
theorem dX2_lowerGrounds_25 : decode cX2_lowerGrounds 25 = .ok (.aload_n 0, 1) := by decide +kernel
theorem dX2_lowerGrounds_26 : decode cX2_lowerGrounds 26 = .ok (.getfield 9, 3) := by decide +kernel
theorem dX2_lowerGrounds_29 : decode cX2_lowerGrounds 29 = .ok (.aload_n 0, 1) := by decide +kernel
theorem dX2_lowerGrounds_30 : decode cX2_lowerGrounds 30 = .ok (.getfield 57, 3) := by decide +kernel
theorem dX2_lowerGrounds_33 : decode cX2_lowerGrounds 33 = .ok (.getfield 75, 3) := by decide +kernel
theorem dX2_lowerGrounds_36 : decode cX2_lowerGrounds 36 = .ok (.iload_n 1, 1) := by decide +kernel
theorem dX2_lowerGrounds_37 : decode cX2_lowerGrounds 37 = .ok (.iaload, 1) := by decide +kernel
theorem dX2_lowerGrounds_38 : decode cX2_lowerGrounds 38 = .ok (.iaload, 1) := by decide +kernel
theorem dX2_lowerGrounds_39 : decode cX2_lowerGrounds 39 = .ok (.aload_n 0, 1) := by decide +kernel
theorem dX2_lowerGrounds_40 : decode cX2_lowerGrounds 40 = .ok (.getfield 9, 3) := by decide +kernel
theorem dX2_lowerGrounds_43 : decode cX2_lowerGrounds 43 = .ok (.aload_n 0, 1) := by decide +kernel
theorem dX2_lowerGrounds_44 : decode cX2_lowerGrounds 44 = .ok (.getfield 57, 3) := by decide +kernel
theorem dX2_lowerGrounds_47 : decode cX2_lowerGrounds 47 = .ok (.getfield 78, 3) := by decide +kernel
theorem dX2_lowerGrounds_50 : decode cX2_lowerGrounds 50 = .ok (.iload_n 1, 1) := by decide +kernel
theorem dX2_lowerGrounds_51 : decode cX2_lowerGrounds 51 = .ok (.iaload, 1) := by decide +kernel
theorem dX2_lowerGrounds_52 : decode cX2_lowerGrounds 52 = .ok (.iaload, 1) := by decide +kernel
theorem dX2_lowerGrounds_53 : decode cX2_lowerGrounds 53 = .ok (.invokestatic 87, 3) := by decide +kernel
theorem dX2_lowerGrounds_56 : decode cX2_lowerGrounds 56 = .ok (.istore_n 2, 1) := by decide +kernel
theorem dX2_lowerGrounds_57 : decode cX2_lowerGrounds 57 = .ok (.aload_n 0, 1) := by decide +kernel
theorem dX2_lowerGrounds_58 : decode cX2_lowerGrounds 58 = .ok (.getfield 9, 3) := by decide +kernel
theorem dX2_lowerGrounds_61 : decode cX2_lowerGrounds 61 = .ok (.aload_n 0, 1) := by decide +kernel
theorem dX2_lowerGrounds_62 : decode cX2_lowerGrounds 62 = .ok (.getfield 57, 3) := by decide +kernel
theorem dX2_lowerGrounds_65 : decode cX2_lowerGrounds 65 = .ok (.getfield 75, 3) := by decide +kernel
theorem dX2_lowerGrounds_68 : decode cX2_lowerGrounds 68 = .ok (.iload_n 1, 1) := by decide +kernel
theorem dX2_lowerGrounds_69 : decode cX2_lowerGrounds 69 = .ok (.iaload, 1) := by decide +kernel
theorem dX2_lowerGrounds_70 : decode cX2_lowerGrounds 70 = .ok (.iload_n 2, 1) := by decide +kernel
theorem dX2_lowerGrounds_71 : decode cX2_lowerGrounds 71 = .ok (.iastore, 1) := by decide +kernel
theorem dX2_lowerGrounds_72 : decode cX2_lowerGrounds 72 = .ok (.aload_n 0, 1) := by decide +kernel
theorem dX2_lowerGrounds_73 : decode cX2_lowerGrounds 73 = .ok (.getfield 9, 3) := by decide +kernel
theorem dX2_lowerGrounds_76 : decode cX2_lowerGrounds 76 = .ok (.aload_n 0, 1) := by decide +kernel
theorem dX2_lowerGrounds_77 : decode cX2_lowerGrounds 77 = .ok (.getfield 57, 3) := by decide +kernel
theorem dX2_lowerGrounds_80 : decode cX2_lowerGrounds 80 = .ok (.getfield 78, 3) := by decide +kernel
theorem dX2_lowerGrounds_83 : decode cX2_lowerGrounds 83 = .ok (.iload_n 1, 1) := by decide +kernel
theorem dX2_lowerGrounds_84 : decode cX2_lowerGrounds 84 = .ok (.iaload, 1) := by decide +kernel
theorem dX2_lowerGrounds_85 : decode cX2_lowerGrounds 85 = .ok (.iload_n 2, 1) := by decide +kernel
theorem dX2_lowerGrounds_86 : decode cX2_lowerGrounds 86 = .ok (.iastore, 1) := by decide +kernel
theorem dX2_lowerGrounds_87 : decode cX2_lowerGrounds 87 = .ok (.iinc 1 1, 3) := by decide +kernel
theorem dX2_lowerGrounds_90 : decode cX2_lowerGrounds 90 = .ok (.goto (-88), 3) := by decide +kernel
theorem dX2_lowerGrounds_93 : decode cX2_lowerGrounds 93 = .ok (.return_, 1) := by decide +kernel
theorem dX2_countPieces_0 : decode cX2_countPieces 0 = .ok (.iconst 0, 1) := by decide +kernel
theorem dX2_countPieces_1 : decode cX2_countPieces 1 = .ok (.istore_n 1, 1) := by decide +kernel
theorem dX2_countPieces_2 : decode cX2_countPieces 2 = .ok (.iconst 0, 1) := by decide +kernel
theorem dX2_countPieces_3 : decode cX2_countPieces 3 = .ok (.istore_n 2, 1) := by decide +kernel
theorem dX2_countPieces_4 : decode cX2_countPieces 4 = .ok (.iload_n 2, 1) := by decide +kernel
theorem dX2_countPieces_5 : decode cX2_countPieces 5 = .ok (.aload_n 0, 1) := by decide +kernel
theorem dX2_countPieces_6 : decode cX2_countPieces 6 = .ok (.getfield 57, 3) := by decide +kernel
theorem dX2_countPieces_9 : decode cX2_countPieces 9 = .ok (.getfield 61, 3) := by decide +kernel
theorem dX2_countPieces_12 : decode cX2_countPieces 12 = .ok (.if_icmp .ge 22, 3) := by decide +kernel
theorem dX2_countPieces_15 : decode cX2_countPieces 15 = .ok (.aload_n 0, 1) := by decide +kernel
theorem dX2_countPieces_16 : decode cX2_countPieces 16 = .ok (.getfield 9, 3) := by decide +kernel
theorem dX2_countPieces_19 : decode cX2_countPieces 19 = .ok (.iload_n 2, 1) := by decide +kernel
theorem dX2_countPieces_20 : decode cX2_countPieces 20 = .ok (.iaload, 1) := by decide +kernel
theorem dX2_countPieces_21 : decode cX2_countPieces 21 = .ok (.iload_n 2, 1) := by decide +kernel
theorem dX2_countPieces_22 : decode cX2_countPieces 22 = .ok (.if_icmp .ne 6, 3) := by decide +kernel
theorem dX2_countPieces_25 : decode cX2_countPieces 25 = .ok (.iinc 1 1, 3) := by decide +kernel
theorem dX2_countPieces_28 : decode cX2_countPieces 28 = .ok (.iinc 2 1, 3) := by decide +kernel
theorem dX2_countPieces_31 : decode cX2_countPieces 31 = .ok (.goto (-27), 3) := by decide +kernel
theorem dX2_countPieces_34 : decode cX2_countPieces 34 = .ok (.iload_n 1, 1) := by decide +kernel
theorem dX2_countPieces_35 : decode cX2_countPieces 35 = .ok (.ireturn, 1) := by decide +kernel
theorem dX2_entryOf_0 : decode cX2_entryOf 0 = .ok (.aload_n 0, 1) := by decide +kernel
theorem dX2_entryOf_1 : decode cX2_entryOf 1 = .ok (.getfield 22, 3) := by decide +kernel
theorem dX2_entryOf_4 : decode cX2_entryOf 4 = .ok (.iload_n 1, 1) := by decide +kernel
theorem dX2_entryOf_5 : decode cX2_entryOf 5 = .ok (.bipush 10, 2) := by decide +kernel
theorem dX2_entryOf_7 : decode cX2_entryOf 7 = .ok (.imul, 1) := by decide +kernel
theorem dX2_entryOf_8 : decode cX2_entryOf 8 = .ok (.iload_n 2, 1) := by decide +kernel
theorem dX2_entryOf_9 : decode cX2_entryOf 9 = .ok (.iadd, 1) := by decide +kernel
theorem dX2_entryOf_10 : decode cX2_entryOf 10 = .ok (.aaload, 1) := by decide +kernel
theorem dX2_entryOf_11 : decode cX2_entryOf 11 = .ok (.areturn, 1) := by decide +kernel
theorem dX2_isInner_0 : decode cX2_isInner 0 = .ok (.iload_n 1, 1) := by decide +kernel
theorem dX2_isInner_1 : decode cX2_isInner 1 = .ok (.iload_n 2, 1) := by decide +kernel
theorem dX2_isInner_2 : decode cX2_isInner 2 = .ok (.if_icmp .eq 17, 3) := by decide +kernel
theorem dX2_isInner_5 : decode cX2_isInner 5 = .ok (.aload_n 0, 1) := by decide +kernel
theorem dX2_isInner_6 : decode cX2_isInner 6 = .ok (.getfield 9, 3) := by decide +kernel
theorem dX2_isInner_9 : decode cX2_isInner 9 = .ok (.iload_n 1, 1) := by decide +kernel
theorem dX2_isInner_10 : decode cX2_isInner 10 = .ok (.iaload, 1) := by decide +kernel
theorem dX2_isInner_11 : decode cX2_isInner 11 = .ok (.iload_n 2, 1) := by decide +kernel
theorem dX2_isInner_12 : decode cX2_isInner 12 = .ok (.if_icmp .ne 7, 3) := by decide +kernel
theorem dX2_isInner_15 : decode cX2_isInner 15 = .ok (.iconst 1, 1) := by decide +kernel
theorem dX2_isInner_16 : decode cX2_isInner 16 = .ok (.goto 4, 3) := by decide +kernel
theorem dX2_isInner_19 : decode cX2_isInner 19 = .ok (.iconst 0, 1) := by decide +kernel
theorem dX2_isInner_20 : decode cX2_isInner 20 = .ok (.ireturn, 1) := by decide +kernel
theorem dX2_settle_0 : decode cX2_settle 0 = .ok (.aload_n 0, 1) := by decide +kernel
theorem dX2_settle_1 : decode cX2_settle 1 = .ok (.getfield 53, 3) := by decide +kernel
theorem dX2_settle_4 : decode cX2_settle 4 = .ok (.iload_n 1, 1) := by decide +kernel
theorem dX2_settle_5 : decode cX2_settle 5 = .ok (.if_icmp .ne 4, 3) := by decide +kernel
theorem dX2_settle_8 : decode cX2_settle 8 = .ok (.return_, 1) := by decide +kernel
theorem dX2_settle_9 : decode cX2_settle 9 = .ok (.aload_n 0, 1) := by decide +kernel
theorem dX2_settle_10 : decode cX2_settle 10 = .ok (.iload_n 1, 1) := by decide +kernel
theorem dX2_settle_11 : decode cX2_settle 11 = .ok (.putfield 53, 3) := by decide +kernel
theorem dX2_settle_14 : decode cX2_settle 14 = .ok (.aload_n 0, 1) := by decide +kernel
theorem dX2_settle_15 : decode cX2_settle 15 = .ok (.getfield 29, 3) := by decide +kernel
theorem dX2_settle_18 : decode cX2_settle 18 = .ok (.lconst 1, 1) := by decide +kernel
theorem dX2_settle_19 : decode cX2_settle 19 = .ok (.invokevirtual 93, 3) := by decide +kernel
theorem dX2_settle_22 : decode cX2_settle 22 = .ok (.iconst 0, 1) := by decide +kernel
theorem dX2_settle_23 : decode cX2_settle 23 = .ok (.istore_n 2, 1) := by decide +kernel
theorem dX2_settle_24 : decode cX2_settle 24 = .ok (.iload_n 2, 1) := by decide +kernel
theorem dX2_settle_25 : decode cX2_settle 25 = .ok (.aload_n 0, 1) := by decide +kernel
theorem dX2_settle_26 : decode cX2_settle 26 = .ok (.getfield 57, 3) := by decide +kernel
theorem dX2_settle_29 : decode cX2_settle 29 = .ok (.getfield 61, 3) := by decide +kernel
theorem dX2_settle_32 : decode cX2_settle 32 = .ok (.if_icmp .ge 78, 3) := by decide +kernel
theorem dX2_settle_35 : decode cX2_settle 35 = .ok (.iload_n 2, 1) := by decide +kernel
theorem dX2_settle_36 : decode cX2_settle 36 = .ok (.istore_n 3, 1) := by decide +kernel
theorem dX2_settle_37 : decode cX2_settle 37 = .ok (.iload_n 3, 1) := by decide +kernel
theorem dX2_settle_38 : decode cX2_settle 38 = .ok (.aload_n 0, 1) := by decide +kernel
theorem dX2_settle_39 : decode cX2_settle 39 = .ok (.getfield 57, 3) := by decide +kernel
theorem dX2_settle_42 : decode cX2_settle 42 = .ok (.getfield 61, 3) := by decide +kernel
theorem dX2_settle_45 : decode cX2_settle 45 = .ok (.if_icmp .ge 59, 3) := by decide +kernel
end
section
/-! ===== memory of a fixed shape, and a light judgement WP over W ===== -/
/-- what the cells hold: ints by (cell, place), longs by (cell, place) -/
abbrev Mem : Type := (Nat → Nat → Int32) × (Nat → Nat → Int64)
abbrev YI : Type := MethodName × ByteArray × Nat × Option FieldType × Nat × Nat

def tg (a : Nat) : Nat := (SH.getD a (99, 0, [])).1
def ln (a : Nat) : Nat := (SH.getD a (99, 0, [])).2.1
def rfo (a k : Nat) : Option Nat := (SH.getD a (99, 0, [])).2.2.getD k none
def rf (a k : Nat) : Nat := (rfo a k).getD 0
abbrev inb (i : Int32) (n : Nat) : Prop := ¬ (i < 0 ∨ n ≤ i.toNatClampNeg)
def rdI (M : Mem) (a : Nat) (i : Int32) : Int32 := M.1 a i.toNatClampNeg
def rdL (M : Mem) (a : Nat) (i : Int32) : Int64 := M.2 a i.toNatClampNeg
def stI (M : Mem) (a k : Nat) (v : Int32) : Mem := (fun b j => if b = a ∧ j = k then v else M.1 b j, M.2)
def stL (M : Mem) (a k : Nat) (v : Int64) : Mem := (M.1, fun b j => if b = a ∧ j = k then v else M.2 b j)
def bnd {α β : Type} (e : α) (f : α → β) : β := f e
def FU : Nat := 10000000
/-- copies n longs -/
def cpL (M : Mem) (a sp b dp n : Nat) : Mem := (M.1, fun q j => if q = b then va_cpy (M.2 a) (M.2 b) sp dp n j else M.2 q j)
def cv (bs : Nat) : Value → Value
  | .ref a => .ref (bs + a)
  | v => v
def cE (bs : Nat) (aC : Nat → ClassId) (M : Mem) (a : Nat) : va_E :=
  if tg a = 10 then .inl (aC 0, ln a, .inl (M.1 a))
  else if tg a = 11 then .inl (aC 1, ln a, .inr (.inl (M.2 a)))
  else if tg a = 12 then .inl (aC 2, ln a, .inl (M.1 a))
  else if tg a < 9 then .inr (tg a, (List.range (ln a)).map (fun k => match rfo a k with | some r => Value.ref (bs + r) | none => Value.int (M.1 a k)))
  else .inl (aC (tg a - 10), ln a, .inr (.inr (.inr (.inr (fun i => (rfo a i).map (bs + ·))))))
def NC : Nat := SH.length
def wld (bs : Nat) (aC : Nat → ClassId) (M : Mem) : va_W := (List.range NC).map (fun a => (bs + a, cE bs aC M a))
def tysOf (aC : Nat → ClassId) : List (ClassId × FieldType) := [(aC 0, .int), (aC 1, .long), (aC 2, .boolean), (aC 3, .array .int), (aC 4, .object "BetweenCounts$Big"), (aC 5, .object "BetweenCounts$Fraction")]
theorem wld_get {bs : Nat} {aC : Nat → ClassId} {M : Mem} {a : Nat} (h : a < NC) : (wld bs aC M)[a]? = some (bs + a, cE bs aC M a) := by
  simp [wld, h]
theorem tg_lt {a : Nat} (h : tg a ≠ 99) : a < NC := by
  rcases Nat.lt_or_ge a NC with q | q
  · exact q
  · exfalso; apply h; unfold tg; rw [List.getD_eq_getElem?_getD, List.getElem?_eq_none q]; rfl
theorem wld_D {bs : Nat} {aC : Nat → ClassId} {M : Mem} : va_D (fun q => bs ≤ q) (wld bs aC M) := by
  refine ⟨fun i j p q hp hq e => ?_, fun k q hq => ?_⟩
  · have hi : i < NC := by have := (List.getElem?_eq_some_iff.mp hp).1; simpa [wld] using this
    have hj : j < NC := by have := (List.getElem?_eq_some_iff.mp hq).1; simpa [wld] using this
    rw [wld_get hi] at hp
    rw [wld_get hj] at hq
    cases hp; cases hq
    simp at e; exact e
  · have hi : k < NC := by have := (List.getElem?_eq_some_iff.mp hq).1; simpa [wld] using this
    rw [wld_get hi] at hq
    cases hq
    exact Nat.le_add_right _ _
theorem wld_set {bs : Nat} {aC : Nat → ClassId} {M M' : Mem} {a : Nat} {e : va_E} (he : cE bs aC M' a = e) (ho : ∀ b, b ≠ a → cE bs aC M' b = cE bs aC M b) : (wld bs aC M).set a (bs + a, e) = wld bs aC M' := by
  apply List.ext_getElem?
  intro k
  rw [List.getElem?_set]
  by_cases hk : k < NC
  · rw [wld_get hk, wld_get hk]
    by_cases e1 : a = k
    · subst e1
      have : a < (wld bs aC M).length := by simpa [wld] using hk
      simp [this, he]
    · simp [e1]
      exact (ho k (fun q => e1 q.symm)).symm
  · have h1 : (wld bs aC M)[k]? = none := by simp [wld]; omega
    have h2 : (wld bs aC M')[k]? = none := by simp [wld]; omega
    rw [h1, h2]
    by_cases e1 : a = k
    · subst e1
      have : ¬ a < (wld bs aC M).length := by simpa [wld] using hk
      simp [this]
    · simp [e1]
theorem cE_off_I {bs : Nat} {aC : Nat → ClassId} {M : Mem} {a k b : Nat} {v : Int32} (h : b ≠ a) : cE bs aC (stI M a k v) b = cE bs aC M b := by
  have e1 : (stI M a k v).1 b = M.1 b := by funext j; simp [stI, h]
  have e2 : (stI M a k v).2 b = M.2 b := rfl
  unfold cE
  rw [e1, e2]
theorem cE_off_L {bs : Nat} {aC : Nat → ClassId} {M : Mem} {a k b : Nat} {v : Int64} (h : b ≠ a) : cE bs aC (stL M a k v) b = cE bs aC M b := by
  have e1 : (stL M a k v).1 b = M.1 b := rfl
  have e2 : (stL M a k v).2 b = M.2 b := by funext j; simp [stL, h]
  unfold cE
  rw [e1, e2]
theorem cE_I {bs : Nat} {aC : Nat → ClassId} {M : Mem} {a : Nat} (h : tg a = 10) : cE bs aC M a = .inl (aC 0, ln a, .inl (M.1 a)) := by simp [cE, h]
theorem cE_J {bs : Nat} {aC : Nat → ClassId} {M : Mem} {a : Nat} (h : tg a = 11) : cE bs aC M a = .inl (aC 1, ln a, .inr (.inl (M.2 a))) := by simp [cE, h]
theorem cE_Z {bs : Nat} {aC : Nat → ClassId} {M : Mem} {a : Nat} (h : tg a = 12) : cE bs aC M a = .inl (aC 2, ln a, .inl (M.1 a)) := by simp [cE, h]
theorem cE_R {bs : Nat} {aC : Nat → ClassId} {M : Mem} {a t : Nat} (h : tg a = t) (h1 : 13 ≤ t) : cE bs aC M a = .inl (aC (t - 10), ln a, .inr (.inr (.inr (.inr (fun i => (rfo a i).map (bs + ·)))))) := by
  unfold cE
  rw [h, if_neg (by omega), if_neg (by omega), if_neg (by omega), if_neg (by omega)]
theorem cE_O {bs : Nat} {aC : Nat → ClassId} {M : Mem} {a c : Nat} (h : tg a = c) (hc : c < 9) : cE bs aC M a = .inr (c, (List.range (ln a)).map (fun k => match rfo a k with | some r => Value.ref (bs + r) | none => Value.int (M.1 a k))) := by
  unfold cE
  rw [h, if_neg (by omega), if_neg (by omega), if_neg (by omega), if_pos hc]
/-- the tables of the shape are well formed: class c's field k is an int, or a cell of a kind -/
def okCell (a : Nat) : Bool :=
  if tg a < 9 then (ln a == NF (tg a)) && (List.range (ln a)).all (fun k => match rfo a k, FT (tg a) k with | some r, some t => tg r == t | none, none => true | _, _ => false)
  else if tg a < 13 then true
  else (List.range (ln a)).all (fun k => match rfo a k, FT (tg a) 0 with | some r, some t => tg r == t | _, _ => false)
theorem ok_all : (List.range NC).all okCell = true := by decide +kernel
theorem ok_at {a : Nat} (h : a < NC) : okCell a = true := List.all_eq_true.mp ok_all a (List.mem_range.mpr h)
theorem ok_ln {a c : Nat} (h : tg a = c) (hc : c < 9) : ln a = NF c := by
  have h1 := ok_at (tg_lt (show tg a ≠ 99 by omega))
  unfold okCell at h1
  rw [h, if_pos hc] at h1
  simp at h1
  exact h1.1
theorem ok_int {a c k : Nat} (h : tg a = c) (hc : c < 9) (hk : k < NF c) (ht : FT c k = none) : rfo a k = none := by
  have h1 := ok_at (tg_lt (show tg a ≠ 99 by omega))
  unfold okCell at h1
  rw [h, if_pos hc, Bool.and_eq_true] at h1
  have h2 := List.all_eq_true.mp h1.2 k (List.mem_range.mpr (by rw [ok_ln h hc]; exact hk))
  rw [ht] at h2
  cases hr : rfo a k with
  | none => rfl
  | some r => rw [hr] at h2; simp at h2
theorem ok_ref {a c k t : Nat} (h : tg a = c) (hc : c < 9) (hk : k < NF c) (ht : FT c k = some t) : rfo a k = some (rf a k) ∧ tg (rf a k) = t := by
  have h1 := ok_at (tg_lt (show tg a ≠ 99 by omega))
  unfold okCell at h1
  rw [h, if_pos hc, Bool.and_eq_true] at h1
  have h2 := List.all_eq_true.mp h1.2 k (List.mem_range.mpr (by rw [ok_ln h hc]; exact hk))
  rw [ht] at h2
  unfold rf
  cases hr : rfo a k with
  | none => rw [hr] at h2; simp at h2
  | some r => rw [hr] at h2; simp at h2; exact ⟨rfl, h2⟩
theorem tg_f {a c k t : Nat} (h : tg a = c) (hc : c < 9) (hk : k < NF c) (ht : FT c k = some t) : tg (rf a k) = t := (ok_ref h hc hk ht).2
theorem ok_el {a c t k : Nat} (h : tg a = c) (hc : 13 ≤ c) (hn : c ≠ 99) (hk : k < ln a) (ht : FT c 0 = some t) : rfo a k = some (rf a k) ∧ tg (rf a k) = t := by
  have h1 := ok_at (tg_lt (show tg a ≠ 99 by omega))
  unfold okCell at h1
  rw [h, if_neg (by omega), if_neg (by omega)] at h1
  have h2 := List.all_eq_true.mp h1 k (List.mem_range.mpr hk)
  rw [ht] at h2
  unfold rf
  cases hr : rfo a k with
  | none => rw [hr] at h2; simp at h2
  | some r => rw [hr] at h2; simp at h2; exact ⟨rfl, h2⟩
theorem tg_e {a c t : Nat} {i : Int32} (h : tg a = c) (hc : 13 ≤ c) (hn : c ≠ 99) (hk : inb i (ln a)) (ht : FT c 0 = some t) : tg (rf a i.toNatClampNeg) = t := (ok_el h hc hn (Nat.not_le.mp fun q => hk (Or.inr q)) ht).2
/-! the judgement -/
def Cx (y : YI) (p : Program) (s : State) (m : MethodId) (args : Array Value) (meth : Method) (c : Code) (D : va_G) (aC : Nat → ClassId) : Prop :=
  p.tables.exec = Jvm.exec ∧ c.code = y.2.1 ∧ c.maxLocals = y.2.2.1 ∧ meth.sig.returnType = y.2.2.2.1 ∧ s.vm.findClass y.1.cls = some m.cls ∧ (∀ w ∈ TS, w.before args s = true) ∧ meth.locks = false ∧ va_K D vwCl (tysOf aC) s
def rmO (y : YI) : Room := { frames := y.2.2.2.2.1, cells := 0, slots := 0, locals := y.2.2.2.2.2 }
def wsO (y : YI) : List Cond := Cond.code y.1 y.2.1 y.2.2.1 y.2.2.2.1 :: TS
def PQ (bs : Nat) (D : va_G) (aC : Nat → ClassId) (Q : Option Value → Mem → Prop) : Array Value → State → Outcome → State → Prop := fun _ st oc t =>
  (∃ (r : Option Value) (M' : Mem), oc = .returned (r.map (cv bs)) ∧ Q r M' ∧ va_P D vwCl (wld bs aC M') t.heap) ∧ va_F (fun q => bs ≤ q) st t
def cvl (bs : Nat) (lv : List (Nat × Value)) : List (Nat × Value) := lv.map (fun q => (q.1, cv bs q.2))
def WP (y : YI) (pc : Nat) (lv : List (Nat × Value)) (st : List Value) (M : Mem) (Q : Option Value → Mem → Prop) : Prop :=
  ∀ (p : Program) (l : Launch) (e : Env) (s : State) (m : MethodId) (args : Array Value) (below : List Frame) (meth : Method) (c : Code) (D : va_G) (aC : Nat → ClassId) (bs : Nat) (H : Heap) (locs : List Loc) (ls : Array Slot),
    Cx y p s m args meth c D aC → va_P D vwCl (wld bs aC M) H → va_S (fun q => bs ≤ q) s.heap H locs → lv_has ls y.2.2.1 (cvl bs lv) →
    W p l e (rmO y) s m args below meth c H locs 0 0 (MQ below (PQ bs D aC Q) args s 0 0 (fun q => bs ≤ q)) (F0 m pc ls (st.map (cv bs)))
def PreO (bs : Nat) (D : va_G) (aC : Nat → ClassId) (M : Mem) (U : State) : Prop := va_P D vwCl (wld bs aC M) U.heap ∧ va_K D vwCl (tysOf aC) U
def Ctr (y : YI) (as : List Value) (M : Mem) (Q : Option Value → Mem → Prop) : Prop :=
  ∀ (l : Launch) (D : va_G) (aC : Nat → ClassId) (bs : Nat), Met l y.1 (wsO y) (rmO y) (va_Pc (as.map (cv bs)) (PreO bs D aC M)) (PQ bs D aC Q) 0 0 (fun q => bs ≤ q)
theorem cv_cat (bs : Nat) (v : Value) : (cv bs v).category = v.category := by cases v <;> rfl
theorem cvl_args (bs : Nat) : ∀ (vs : List Value) (i : Nat), lv_args i (vs.map (cv bs)) = cvl bs (lv_args i vs)
  | [], _ => rfl
  | v :: vs, i => by
    simp only [List.map_cons, lv_args, cv_cat, cvl]
    rw [cvl_args bs vs]
    rfl
theorem lg_cv (bs : Nat) (vs : List Value) : (lg_sl (vs.map (cv bs))).length = (lg_sl vs).length := by
  induction vs with
  | nil => rfl
  | cons v vs ih =>
    simp only [lg_sl, List.map_cons, List.flatMap_cons, List.length_append, cv_cat] at ih ⊢
    rw [ih]
    split <;> rfl
theorem Ctr.of {y : YI} {as : List Value} {M : Mem} {Q : Option Value → Mem → Prop} {lv : List (Nat × Value)} (hy : plainName y.1.cls = true) (hl : lv_args 0 as = lv) (hn : (lg_sl as).length ≤ y.2.2.1) (k : WP y 0 lv [] M Q) : Ctr y as M Q := by
  intro l D aC bs
  refine Met.ofW (cc := y.2.1) (maxL := y.2.2.1) (ret := y.2.2.2.1) hy rfl ?_
  intro p e s m args below meth c s₁ B hml hv
  obtain ⟨rfl, hP, hK⟩ := hv
  have hts := atoms_spec (ws := wsO y) B.pre
  have C : Cx y p s m (as.map (cv bs)).toArray meth c D aC := ⟨B.exec, B.bytes, hml, B.returns, findClass_of_methodNamed B.named, fun w h => hts w (List.mem_cons_of_mem _ h), B.notSynchronized, hK⟩
  have hle := lv_entry (as.map (cv bs)) (n := y.2.2.1) (by rw [lg_cv]; exact hn)
  rw [cvl_args, hl] at hle
  rw [lg_entry_eq]
  exact k p l e s m _ below meth c D aC bs s.heap [] _ C hP va_S.rf hle
end
section
section Rules
variable {y : YI} {pc : Nat} {lv lv' : List (Nat × Value)} {st : List Value} {M : Mem} {Q : Option Value → Mem → Prop}
theorem wp_iconst {n : Int} {v : Int32} (hd : decode y.2.1 pc = .ok (.iconst n, 1)) (hv : Int32.ofInt n = v) (k : WP y (pc + 1) lv (.int v :: st) M Q) : WP y pc lv (st) M Q := by
  intro p l e s m args below meth c D aC bs H locs ls C hP hS hl
  exact lv_iconst C.1 C.2.1 hd hv (k p l e s m args below meth c D aC bs H locs ls C hP hS hl)
theorem wp_bipush {n : Int} {v : Int32} (hd : decode y.2.1 pc = .ok (.bipush n, 2)) (hv : (Int8.ofInt n).toInt32 = v) (k : WP y (pc + 2) lv (.int v :: st) M Q) : WP y pc lv (st) M Q := by
  intro p l e s m args below meth c D aC bs H locs ls C hP hS hl
  exact lv_bipush C.1 C.2.1 hd hv (k p l e s m args below meth c D aC bs H locs ls C hP hS hl)
theorem wp_sipush {n : Int} {v : Int32} (hd : decode y.2.1 pc = .ok (.sipush n, 3)) (hv : (Int16.ofInt n).toInt32 = v) (k : WP y (pc + 3) lv (.int v :: st) M Q) : WP y pc lv (st) M Q := by
  intro p l e s m args below meth c D aC bs H locs ls C hP hS hl
  exact lv_sipush C.1 C.2.1 hd hv (k p l e s m args below meth c D aC bs H locs ls C hP hS hl)
theorem wp_lconst {n : Fin 2} {v : Int64} (hd : decode y.2.1 pc = .ok (.lconst n, 1)) (hv : Int64.ofNat (n : Nat) = v) (k : WP y (pc + 1) lv (.long v :: st) M Q) : WP y pc lv (st) M Q := by
  intro p l e s m args below meth c D aC bs H locs ls C hP hS hl
  exact lv_lconst C.1 C.2.1 hd hv (k p l e s m args below meth c D aC bs H locs ls C hP hS hl)
theorem wp_ldc {idx : Nat} {v : Int32} (hd : decode y.2.1 pc = .ok (.ldc idx, 2)) (hc : Jvm.Cond.constant y.1.cls idx v ∈ TS) (k : WP y (pc + 2) lv (.int v :: st) M Q) : WP y pc lv (st) M Q := by
  intro p l e s m args below meth c D aC bs H locs ls C hP hS hl
  exact lv_ldc C.1 C.2.1 C.2.2.2.2.1 (C.2.2.2.2.2.1 _ hc) hd (k p l e s m args below meth c D aC bs H locs ls C hP hS hl)
theorem wp_ldc2 {idx : Nat} {v : Int64} (hd : decode y.2.1 pc = .ok (.ldc2_w idx, 3)) (hc : Jvm.Cond.constantLong y.1.cls idx v ∈ TS) (k : WP y (pc + 3) lv (.long v :: st) M Q) : WP y pc lv (st) M Q := by
  intro p l e s m args below meth c D aC bs H locs ls C hP hS hl
  exact lv_ldc2 C.1 C.2.1 C.2.2.2.2.1 (C.2.2.2.2.2.1 _ hc) hd (k p l e s m args below meth c D aC bs H locs ls C hP hS hl)
theorem lk_has {ls : Array Slot} {nL bs i : Nat} {l : List (Nat × Value)} {v : Value} (h : lv_has ls nL (cvl bs l)) (hk : l.lookup i = some v) : ls[i]? = some (.val (cv bs v)) := by
  have hm : (i, v) ∈ l := by
    induction l with
    | nil => simp at hk
    | cons q l ih =>
      obtain ⟨a, b⟩ := q
      rw [List.lookup_cons] at hk
      by_cases e : i = a
      · subst e
        simp at hk
        subst hk
        exact List.mem_cons_self
      · have e' : (i == a) = false := by simpa using e
        rw [e'] at hk
        exact List.mem_cons_of_mem _ (ih ⟨h.1, h.2.1, fun q hq => h.2.2 q (List.mem_cons_of_mem _ hq)⟩ hk)
  exact h.2.2 (i, cv bs v) (List.mem_map.mpr ⟨(i, v), hm, rfl⟩)
theorem wp_iload_n {k4 : Fin 4} {x : Int32} (hd : decode y.2.1 pc = .ok (.iload_n k4, 1)) (hk : lv.lookup (k4 : Nat) = some (.int x)) (k : WP y (pc + 1) lv (.int x :: st) M Q) : WP y pc lv (st) M Q := by
  intro p l e s m args below meth c D aC bs H locs ls C hP hS hl
  exact lv_iload_n C.1 C.2.1 hd rfl (lk_has hl hk) (k p l e s m args below meth c D aC bs H locs ls C hP hS hl)
theorem wp_iload {i : Nat} {x : Int32} (hd : decode y.2.1 pc = .ok (.iload i, 2)) (hk : lv.lookup i = some (.int x)) (k : WP y (pc + 2) lv (.int x :: st) M Q) : WP y pc lv (st) M Q := by
  intro p l e s m args below meth c D aC bs H locs ls C hP hS hl
  exact lv_iload C.1 C.2.1 hd (lk_has hl hk) (k p l e s m args below meth c D aC bs H locs ls C hP hS hl)
theorem wp_lload_n {k4 : Fin 4} {x : Int64} (hd : decode y.2.1 pc = .ok (.lload_n k4, 1)) (hk : lv.lookup (k4 : Nat) = some (.long x)) (k : WP y (pc + 1) lv (.long x :: st) M Q) : WP y pc lv (st) M Q := by
  intro p l e s m args below meth c D aC bs H locs ls C hP hS hl
  exact lv_lload_n C.1 C.2.1 hd rfl (lk_has hl hk) (k p l e s m args below meth c D aC bs H locs ls C hP hS hl)
theorem wp_lload {i : Nat} {x : Int64} (hd : decode y.2.1 pc = .ok (.lload i, 2)) (hk : lv.lookup i = some (.long x)) (k : WP y (pc + 2) lv (.long x :: st) M Q) : WP y pc lv (st) M Q := by
  intro p l e s m args below meth c D aC bs H locs ls C hP hS hl
  exact lv_lload C.1 C.2.1 hd (lk_has hl hk) (k p l e s m args below meth c D aC bs H locs ls C hP hS hl)
theorem wp_aload_n {k4 : Fin 4} {x : Nat} (hd : decode y.2.1 pc = .ok (.aload_n k4, 1)) (hk : lv.lookup (k4 : Nat) = some (.ref x)) (k : WP y (pc + 1) lv (.ref x :: st) M Q) : WP y pc lv (st) M Q := by
  intro p l e s m args below meth c D aC bs H locs ls C hP hS hl
  exact lv_aload_n C.1 C.2.1 hd rfl (lk_has hl hk) (k p l e s m args below meth c D aC bs H locs ls C hP hS hl)
theorem wp_aload {i : Nat} {x : Nat} (hd : decode y.2.1 pc = .ok (.aload i, 2)) (hk : lv.lookup i = some (.ref x)) (k : WP y (pc + 2) lv (.ref x :: st) M Q) : WP y pc lv (st) M Q := by
  intro p l e s m args below meth c D aC bs H locs ls C hP hS hl
  exact lv_aload C.1 C.2.1 hd (lk_has hl hk) (k p l e s m args below meth c D aC bs H locs ls C hP hS hl)
theorem cvl_f1 (bs i : Nat) : ∀ l : List (Nat × Value), (cvl bs l).filter (fun q => !(q.1 == i) && !(q.1 + 1 == i && q.2.category == 2)) = cvl bs (l.filter (fun q => !(q.1 == i) && !(q.1 + 1 == i && q.2.category == 2)))
  | [] => rfl
  | q :: l => by
    have ih := cvl_f1 bs i l
    simp only [cvl, List.map_cons, List.filter_cons, cv_cat] at ih ⊢
    split
    · rw [List.map_cons, ih]
    · exact ih
theorem cvl_f2 (bs i : Nat) : ∀ l : List (Nat × Value), (cvl bs l).filter (fun q => !(q.1 == i) && (!(q.1 == i + 1) && !(q.1 + 1 == i && q.2.category == 2))) = cvl bs (l.filter (fun q => !(q.1 == i) && (!(q.1 == i + 1) && !(q.1 + 1 == i && q.2.category == 2))))
  | [] => rfl
  | q :: l => by
    have ih := cvl_f2 bs i l
    simp only [cvl, List.map_cons, List.filter_cons, cv_cat] at ih ⊢
    split
    · rw [List.map_cons, ih]
    · exact ih
theorem wp_istore_n {k4 : Fin 4} {x : Int32} (hd : decode y.2.1 pc = .ok (.istore_n k4, 1)) (hn : (k4 : Nat) < y.2.2.1) (hl2 : ((k4 : Nat), Value.int x) :: lv.filter (fun q => !(q.1 == (k4 : Nat)) && !(q.1 + 1 == (k4 : Nat) && q.2.category == 2)) = lv') (k : WP y (pc + 1) lv' st M Q) : WP y pc lv (.int x :: st) M Q := by
  intro p l e s m args below meth c D aC bs H locs ls C hP hS hl
  refine lv_istore_n (lv' := cvl bs lv') C.1 C.2.1 hd rfl hl hn (by rw [cvl_f1, ← hl2]; rfl) (fun ls' hl' => ?_)
  exact k p l e s m args below meth c D aC bs H locs ls' C hP hS hl'
theorem wp_istore {i : Nat} {x : Int32} (hd : decode y.2.1 pc = .ok (.istore i, 2)) (hn : i < y.2.2.1) (hl2 : (i, Value.int x) :: lv.filter (fun q => !(q.1 == i) && !(q.1 + 1 == i && q.2.category == 2)) = lv') (k : WP y (pc + 2) lv' st M Q) : WP y pc lv (.int x :: st) M Q := by
  intro p l e s m args below meth c D aC bs H locs ls C hP hS hl
  refine lv_istore (lv' := cvl bs lv') C.1 C.2.1 hd hl hn (by rw [cvl_f1, ← hl2]; rfl) (fun ls' hl' => ?_)
  exact k p l e s m args below meth c D aC bs H locs ls' C hP hS hl'
theorem wp_lstore_n {k4 : Fin 4} {x : Int64} (hd : decode y.2.1 pc = .ok (.lstore_n k4, 1)) (hn : (k4 : Nat) + 1 < y.2.2.1) (hl2 : ((k4 : Nat), Value.long x) :: lv.filter (fun q => !(q.1 == (k4 : Nat)) && (!(q.1 == (k4 : Nat) + 1) && !(q.1 + 1 == (k4 : Nat) && q.2.category == 2))) = lv') (k : WP y (pc + 1) lv' st M Q) : WP y pc lv (.long x :: st) M Q := by
  intro p l e s m args below meth c D aC bs H locs ls C hP hS hl
  refine lv_lstore_n (lv' := cvl bs lv') C.1 C.2.1 hd rfl hl hn (by rw [cvl_f2, ← hl2]; rfl) (fun ls' hl' => ?_)
  exact k p l e s m args below meth c D aC bs H locs ls' C hP hS hl'
theorem wp_lstore {i : Nat} {x : Int64} (hd : decode y.2.1 pc = .ok (.lstore i, 2)) (hn : i + 1 < y.2.2.1) (hl2 : (i, Value.long x) :: lv.filter (fun q => !(q.1 == i) && (!(q.1 == i + 1) && !(q.1 + 1 == i && q.2.category == 2))) = lv') (k : WP y (pc + 2) lv' st M Q) : WP y pc lv (.long x :: st) M Q := by
  intro p l e s m args below meth c D aC bs H locs ls C hP hS hl
  refine lv_lstore (lv' := cvl bs lv') C.1 C.2.1 hd hl hn (by rw [cvl_f2, ← hl2]; rfl) (fun ls' hl' => ?_)
  exact k p l e s m args below meth c D aC bs H locs ls' C hP hS hl'
theorem wp_astore_n {k4 : Fin 4} {x : Nat} (hd : decode y.2.1 pc = .ok (.astore_n k4, 1)) (hn : (k4 : Nat) < y.2.2.1) (hl2 : ((k4 : Nat), Value.ref x) :: lv.filter (fun q => !(q.1 == (k4 : Nat)) && !(q.1 + 1 == (k4 : Nat) && q.2.category == 2)) = lv') (k : WP y (pc + 1) lv' st M Q) : WP y pc lv (.ref x :: st) M Q := by
  intro p l e s m args below meth c D aC bs H locs ls C hP hS hl
  refine lv_astore_n (lv' := cvl bs lv') C.1 C.2.1 hd rfl hl hn (by rw [cvl_f1, ← hl2]; rfl) (fun ls' hl' => ?_)
  exact k p l e s m args below meth c D aC bs H locs ls' C hP hS hl'
theorem wp_astore {i : Nat} {x : Nat} (hd : decode y.2.1 pc = .ok (.astore i, 2)) (hn : i < y.2.2.1) (hl2 : (i, Value.ref x) :: lv.filter (fun q => !(q.1 == i) && !(q.1 + 1 == i && q.2.category == 2)) = lv') (k : WP y (pc + 2) lv' st M Q) : WP y pc lv (.ref x :: st) M Q := by
  intro p l e s m args below meth c D aC bs H locs ls C hP hS hl
  refine lv_astore (lv' := cvl bs lv') C.1 C.2.1 hd hl hn (by rw [cvl_f1, ← hl2]; rfl) (fun ls' hl' => ?_)
  exact k p l e s m args below meth c D aC bs H locs ls' C hP hS hl'
theorem wp_iinc {i : Nat} {n : Int} {x v : Int32} (hd : decode y.2.1 pc = .ok (.iinc i n, 3)) (hk : lv.lookup i = some (.int x)) (hv : x + Int32.ofInt n = v) (hn : i < y.2.2.1) (hl2 : (i, Value.int v) :: lv.filter (fun q => !(q.1 == i) && !(q.1 + 1 == i && q.2.category == 2)) = lv') (k : WP y (pc + 3) lv' st M Q) : WP y pc lv st M Q := by
  intro p l e s m args below meth c D aC bs H locs ls C hP hS hl
  have hg := lk_has hl hk
  obtain ⟨ls', e', h'⟩ := lv_store1 (v := .int v) hl hn rfl
  rw [cvl_f1] at h'
  have h2 : lv_has ls' y.2.2.1 (cvl bs lv') := by rw [← hl2]; exact h'
  intro T hT X
  obtain ⟨t, a, b⟩ := k p l e s m args below meth c D aC bs H locs ls' C hP hS h2 T hT X
  refine ⟨t, ?_, b⟩
  have hexec := C.1
  have hb := C.2.1
  have hg2 : ls[i]? = some (.val (.int x)) := hg
  subst hv
  jvm_step X.here [X.here.top, ↓top_set X.here.top, hexec, hb, hd, hg2, e']
  exact a
theorem wp_iadd {x z : Int32} (hd : decode y.2.1 pc = .ok (.iadd, 1)) (k : WP y (pc + 1) lv (.int (x + z) :: st) M Q) : WP y pc lv (.int z :: .int x :: st) M Q := by
  intro p l e s m args below meth c D aC bs H locs ls C hP hS hl
  exact lv_iadd C.1 C.2.1 hd (k p l e s m args below meth c D aC bs H locs ls C hP hS hl)
theorem wp_isub {x z : Int32} (hd : decode y.2.1 pc = .ok (.isub, 1)) (k : WP y (pc + 1) lv (.int (x - z) :: st) M Q) : WP y pc lv (.int z :: .int x :: st) M Q := by
  intro p l e s m args below meth c D aC bs H locs ls C hP hS hl
  exact lv_isub C.1 C.2.1 hd (k p l e s m args below meth c D aC bs H locs ls C hP hS hl)
theorem wp_imul {x z : Int32} (hd : decode y.2.1 pc = .ok (.imul, 1)) (k : WP y (pc + 1) lv (.int (x * z) :: st) M Q) : WP y pc lv (.int z :: .int x :: st) M Q := by
  intro p l e s m args below meth c D aC bs H locs ls C hP hS hl
  exact lv_imul C.1 C.2.1 hd (k p l e s m args below meth c D aC bs H locs ls C hP hS hl)
theorem wp_iand {x z : Int32} (hd : decode y.2.1 pc = .ok (.iand, 1)) (k : WP y (pc + 1) lv (.int (x &&& z) :: st) M Q) : WP y pc lv (.int z :: .int x :: st) M Q := by
  intro p l e s m args below meth c D aC bs H locs ls C hP hS hl
  exact lv_iand C.1 C.2.1 hd (k p l e s m args below meth c D aC bs H locs ls C hP hS hl)
theorem wp_ladd {x z : Int64} (hd : decode y.2.1 pc = .ok (.ladd, 1)) (k : WP y (pc + 1) lv (.long (x + z) :: st) M Q) : WP y pc lv (.long z :: .long x :: st) M Q := by
  intro p l e s m args below meth c D aC bs H locs ls C hP hS hl
  exact lv_ladd C.1 C.2.1 hd (k p l e s m args below meth c D aC bs H locs ls C hP hS hl)
theorem wp_lsub {x z : Int64} (hd : decode y.2.1 pc = .ok (.lsub, 1)) (k : WP y (pc + 1) lv (.long (x - z) :: st) M Q) : WP y pc lv (.long z :: .long x :: st) M Q := by
  intro p l e s m args below meth c D aC bs H locs ls C hP hS hl
  exact lv_lsub C.1 C.2.1 hd (k p l e s m args below meth c D aC bs H locs ls C hP hS hl)
theorem wp_lmul {x z : Int64} (hd : decode y.2.1 pc = .ok (.lmul, 1)) (k : WP y (pc + 1) lv (.long (x * z) :: st) M Q) : WP y pc lv (.long z :: .long x :: st) M Q := by
  intro p l e s m args below meth c D aC bs H locs ls C hP hS hl
  exact lv_lmul C.1 C.2.1 hd (k p l e s m args below meth c D aC bs H locs ls C hP hS hl)
theorem wp_land {x z : Int64} (hd : decode y.2.1 pc = .ok (.land, 1)) (k : WP y (pc + 1) lv (.long (x &&& z) :: st) M Q) : WP y pc lv (.long z :: .long x :: st) M Q := by
  intro p l e s m args below meth c D aC bs H locs ls C hP hS hl
  exact lv_land C.1 C.2.1 hd (k p l e s m args below meth c D aC bs H locs ls C hP hS hl)
theorem wp_lor {x z : Int64} (hd : decode y.2.1 pc = .ok (.lor, 1)) (k : WP y (pc + 1) lv (.long (x ||| z) :: st) M Q) : WP y pc lv (.long z :: .long x :: st) M Q := by
  intro p l e s m args below meth c D aC bs H locs ls C hP hS hl
  exact lv_lor C.1 C.2.1 hd (k p l e s m args below meth c D aC bs H locs ls C hP hS hl)
theorem wp_idiv {x z : Int32} (hd : decode y.2.1 pc = .ok (.idiv, 1)) (hne : ¬ z = 0) (k : WP y (pc + 1) lv (.int (x / z) :: st) M Q) : WP y pc lv (.int z :: .int x :: st) M Q := by
  intro p l e s m args below meth c D aC bs H locs ls C hP hS hl
  exact lv_idiv C.1 C.2.1 hd hne (k p l e s m args below meth c D aC bs H locs ls C hP hS hl)
theorem wp_irem {x z : Int32} (hd : decode y.2.1 pc = .ok (.irem, 1)) (hne : ¬ z = 0) (k : WP y (pc + 1) lv (.int (x - x / z * z) :: st) M Q) : WP y pc lv (.int z :: .int x :: st) M Q := by
  intro p l e s m args below meth c D aC bs H locs ls C hP hS hl
  exact lv_irem C.1 C.2.1 hd hne (k p l e s m args below meth c D aC bs H locs ls C hP hS hl)
theorem wp_ldiv {x z : Int64} (hd : decode y.2.1 pc = .ok (.ldiv, 1)) (hne : ¬ z = 0) (k : WP y (pc + 1) lv (.long (x / z) :: st) M Q) : WP y pc lv (.long z :: .long x :: st) M Q := by
  intro p l e s m args below meth c D aC bs H locs ls C hP hS hl
  exact lv_ldiv C.1 C.2.1 hd hne (k p l e s m args below meth c D aC bs H locs ls C hP hS hl)
theorem wp_lrem {x z : Int64} (hd : decode y.2.1 pc = .ok (.lrem, 1)) (hne : ¬ z = 0) (k : WP y (pc + 1) lv (.long (x - x / z * z) :: st) M Q) : WP y pc lv (.long z :: .long x :: st) M Q := by
  intro p l e s m args below meth c D aC bs H locs ls C hP hS hl
  exact lv_lrem C.1 C.2.1 hd hne (k p l e s m args below meth c D aC bs H locs ls C hP hS hl)
theorem wp_lneg {x : Int64} (hd : decode y.2.1 pc = .ok (.lneg, 1)) (k : WP y (pc + 1) lv (.long (-x) :: st) M Q) : WP y pc lv (.long x :: st) M Q := by
  intro p l e s m args below meth c D aC bs H locs ls C hP hS hl
  exact lv_lneg C.1 C.2.1 hd (k p l e s m args below meth c D aC bs H locs ls C hP hS hl)
theorem wp_ishr {x z : Int32} (hd : decode y.2.1 pc = .ok (.ishr, 1)) (k : WP y (pc + 1) lv (.int (x >>> (z &&& 31)) :: st) M Q) : WP y pc lv (.int z :: .int x :: st) M Q := by
  intro p l e s m args below meth c D aC bs H locs ls C hP hS hl
  exact lv_ishr C.1 C.2.1 hd (k p l e s m args below meth c D aC bs H locs ls C hP hS hl)
theorem wp_i2l {x : Int32} (hd : decode y.2.1 pc = .ok (.i2l, 1)) (k : WP y (pc + 1) lv (.long x.toInt64 :: st) M Q) : WP y pc lv (.int x :: st) M Q := by
  intro p l e s m args below meth c D aC bs H locs ls C hP hS hl
  exact lv_i2l C.1 C.2.1 hd rfl (k p l e s m args below meth c D aC bs H locs ls C hP hS hl)
theorem wp_l2i {x : Int64} (hd : decode y.2.1 pc = .ok (.l2i, 1)) (k : WP y (pc + 1) lv (.int x.toInt32 :: st) M Q) : WP y pc lv (.long x :: st) M Q := by
  intro p l e s m args below meth c D aC bs H locs ls C hP hS hl
  exact lv_l2i C.1 C.2.1 hd rfl (k p l e s m args below meth c D aC bs H locs ls C hP hS hl)
theorem wp_lushr {x : Int64} {z : Int32} (hd : decode y.2.1 pc = .ok (.lushr, 1)) (k : WP y (pc + 1) lv (.long (x.toUInt64 >>> (z.toInt64.toUInt64 &&& Int64.toUInt64 63)).toInt64 :: st) M Q) : WP y pc lv (.int z :: .long x :: st) M Q := by
  intro p l e s m args below meth c D aC bs H locs ls C hP hS hl
  exact lv_lushr C.1 C.2.1 hd rfl (k p l e s m args below meth c D aC bs H locs ls C hP hS hl)
theorem wp_lshl {x : Int64} {z : Int32} (hd : decode y.2.1 pc = .ok (.lshl, 1)) (k : WP y (pc + 1) lv (.long (x <<< (z.toInt64 &&& 63)) :: st) M Q) : WP y pc lv (.int z :: .long x :: st) M Q := by
  intro p l e s m args below meth c D aC bs H locs ls C hP hS hl
  exact lv_lshl C.1 C.2.1 hd rfl (k p l e s m args below meth c D aC bs H locs ls C hP hS hl)
theorem wp_lshr {x : Int64} {z : Int32} (hd : decode y.2.1 pc = .ok (.lshr, 1)) (k : WP y (pc + 1) lv (.long (x >>> (z.toInt64 &&& 63)) :: st) M Q) : WP y pc lv (.int z :: .long x :: st) M Q := by
  intro p l e s m args below meth c D aC bs H locs ls C hP hS hl
  exact lv_lshr C.1 C.2.1 hd rfl (k p l e s m args below meth c D aC bs H locs ls C hP hS hl)
theorem wp_dup {v : Value} (hd : decode y.2.1 pc = .ok (.dup, 1)) (hv : v.category = 1) (k : WP y (pc + 1) lv (v :: v :: st) M Q) : WP y pc lv (v :: st) M Q := by
  intro p l e s m args below meth c D aC bs H locs ls C hP hS hl
  exact lv_dup C.1 C.2.1 hd (by rw [cv_cat]; exact hv) (k p l e s m args below meth c D aC bs H locs ls C hP hS hl)
theorem wp_dup_x1 {v w : Value} (hd : decode y.2.1 pc = .ok (.dup_x1, 1)) (hv : v.category = 1) (hw : w.category = 1) (k : WP y (pc + 1) lv (v :: w :: v :: st) M Q) : WP y pc lv (v :: w :: st) M Q := by
  intro p l e s m args below meth c D aC bs H locs ls C hP hS hl
  exact lv_dup_x1 C.1 C.2.1 hd (by rw [cv_cat]; exact hv) (by rw [cv_cat]; exact hw) (k p l e s m args below meth c D aC bs H locs ls C hP hS hl)
theorem wp_dup2_11 {v w : Value} (hd : decode y.2.1 pc = .ok (.dup2, 1)) (hv : v.category = 1) (hw : w.category = 1) (k : WP y (pc + 1) lv (v :: w :: v :: w :: st) M Q) : WP y pc lv (v :: w :: st) M Q := by
  intro p l e s m args below meth c D aC bs H locs ls C hP hS hl
  exact lv_dup2_11 C.1 C.2.1 hd (by rw [cv_cat]; exact hv) (by rw [cv_cat]; exact hw) (k p l e s m args below meth c D aC bs H locs ls C hP hS hl)
theorem wp_dup2_2 {v : Value} (hd : decode y.2.1 pc = .ok (.dup2, 1)) (hv : v.category = 2) (k : WP y (pc + 1) lv (v :: v :: st) M Q) : WP y pc lv (v :: st) M Q := by
  intro p l e s m args below meth c D aC bs H locs ls C hP hS hl
  exact lv_dup2_2 C.1 C.2.1 hd (by rw [cv_cat]; exact hv) (k p l e s m args below meth c D aC bs H locs ls C hP hS hl)
theorem wp_pop2_2 {v : Value} (hd : decode y.2.1 pc = .ok (.pop2, 1)) (hv : v.category = 2) (k : WP y (pc + 1) lv (st) M Q) : WP y pc lv (v :: st) M Q := by
  intro p l e s m args below meth c D aC bs H locs ls C hP hS hl
  exact lv_pop2_2 C.1 C.2.1 hd (by rw [cv_cat]; exact hv) (k p l e s m args below meth c D aC bs H locs ls C hP hS hl)
theorem wp_icmp_eq {x z : Int32} {off : Int} (tgt : Nat) (hd : decode y.2.1 pc = .ok (.if_icmp .eq off, 3)) (ht : (pc : Int) + off = (tgt : Int)) (kt : x = z → WP y tgt lv st M Q) (kf : ¬ x = z → WP y (pc + 3) lv st M Q) : WP y pc lv (.int z :: .int x :: st) M Q := by
  intro p l e s m args below meth c D aC bs H locs ls C hP hS hl
  exact lv_icmp_eq C.1 C.2.1 hd ht (fun hc => (kt hc p l e s m args below meth c D aC bs H locs ls C hP hS hl)) (fun hc => (kf hc p l e s m args below meth c D aC bs H locs ls C hP hS hl))
theorem wp_if_eq {x : Int32} {off : Int} (tgt : Nat) (hd : decode y.2.1 pc = .ok (.ifCond .eq off, 3)) (ht : (pc : Int) + off = (tgt : Int)) (kt : x = 0 → WP y tgt lv st M Q) (kf : ¬ x = 0 → WP y (pc + 3) lv st M Q) : WP y pc lv (.int x :: st) M Q := by
  intro p l e s m args below meth c D aC bs H locs ls C hP hS hl
  exact lv_if_eq C.1 C.2.1 hd ht (fun hc => (kt hc p l e s m args below meth c D aC bs H locs ls C hP hS hl)) (fun hc => (kf hc p l e s m args below meth c D aC bs H locs ls C hP hS hl))
theorem wp_icmp_ne {x z : Int32} {off : Int} (tgt : Nat) (hd : decode y.2.1 pc = .ok (.if_icmp .ne off, 3)) (ht : (pc : Int) + off = (tgt : Int)) (kt : ¬ x = z → WP y tgt lv st M Q) (kf : x = z → WP y (pc + 3) lv st M Q) : WP y pc lv (.int z :: .int x :: st) M Q := by
  intro p l e s m args below meth c D aC bs H locs ls C hP hS hl
  exact lv_icmp_ne C.1 C.2.1 hd ht (fun hc => (kt hc p l e s m args below meth c D aC bs H locs ls C hP hS hl)) (fun hc => (kf hc p l e s m args below meth c D aC bs H locs ls C hP hS hl))
theorem wp_if_ne {x : Int32} {off : Int} (tgt : Nat) (hd : decode y.2.1 pc = .ok (.ifCond .ne off, 3)) (ht : (pc : Int) + off = (tgt : Int)) (kt : ¬ x = 0 → WP y tgt lv st M Q) (kf : x = 0 → WP y (pc + 3) lv st M Q) : WP y pc lv (.int x :: st) M Q := by
  intro p l e s m args below meth c D aC bs H locs ls C hP hS hl
  exact lv_if_ne C.1 C.2.1 hd ht (fun hc => (kt hc p l e s m args below meth c D aC bs H locs ls C hP hS hl)) (fun hc => (kf hc p l e s m args below meth c D aC bs H locs ls C hP hS hl))
theorem wp_icmp_lt {x z : Int32} {off : Int} (tgt : Nat) (hd : decode y.2.1 pc = .ok (.if_icmp .lt off, 3)) (ht : (pc : Int) + off = (tgt : Int)) (kt : x < z → WP y tgt lv st M Q) (kf : ¬ x < z → WP y (pc + 3) lv st M Q) : WP y pc lv (.int z :: .int x :: st) M Q := by
  intro p l e s m args below meth c D aC bs H locs ls C hP hS hl
  exact lv_icmp_lt C.1 C.2.1 hd ht (fun hc => (kt hc p l e s m args below meth c D aC bs H locs ls C hP hS hl)) (fun hc => (kf hc p l e s m args below meth c D aC bs H locs ls C hP hS hl))
theorem wp_if_lt {x : Int32} {off : Int} (tgt : Nat) (hd : decode y.2.1 pc = .ok (.ifCond .lt off, 3)) (ht : (pc : Int) + off = (tgt : Int)) (kt : x < 0 → WP y tgt lv st M Q) (kf : ¬ x < 0 → WP y (pc + 3) lv st M Q) : WP y pc lv (.int x :: st) M Q := by
  intro p l e s m args below meth c D aC bs H locs ls C hP hS hl
  exact lv_if_lt C.1 C.2.1 hd ht (fun hc => (kt hc p l e s m args below meth c D aC bs H locs ls C hP hS hl)) (fun hc => (kf hc p l e s m args below meth c D aC bs H locs ls C hP hS hl))
theorem wp_icmp_ge {x z : Int32} {off : Int} (tgt : Nat) (hd : decode y.2.1 pc = .ok (.if_icmp .ge off, 3)) (ht : (pc : Int) + off = (tgt : Int)) (kt : z ≤ x → WP y tgt lv st M Q) (kf : ¬ z ≤ x → WP y (pc + 3) lv st M Q) : WP y pc lv (.int z :: .int x :: st) M Q := by
  intro p l e s m args below meth c D aC bs H locs ls C hP hS hl
  exact lv_icmp_ge C.1 C.2.1 hd ht (fun hc => (kt hc p l e s m args below meth c D aC bs H locs ls C hP hS hl)) (fun hc => (kf hc p l e s m args below meth c D aC bs H locs ls C hP hS hl))
theorem wp_if_ge {x : Int32} {off : Int} (tgt : Nat) (hd : decode y.2.1 pc = .ok (.ifCond .ge off, 3)) (ht : (pc : Int) + off = (tgt : Int)) (kt : 0 ≤ x → WP y tgt lv st M Q) (kf : ¬ 0 ≤ x → WP y (pc + 3) lv st M Q) : WP y pc lv (.int x :: st) M Q := by
  intro p l e s m args below meth c D aC bs H locs ls C hP hS hl
  exact lv_if_ge C.1 C.2.1 hd ht (fun hc => (kt hc p l e s m args below meth c D aC bs H locs ls C hP hS hl)) (fun hc => (kf hc p l e s m args below meth c D aC bs H locs ls C hP hS hl))
theorem wp_icmp_gt {x z : Int32} {off : Int} (tgt : Nat) (hd : decode y.2.1 pc = .ok (.if_icmp .gt off, 3)) (ht : (pc : Int) + off = (tgt : Int)) (kt : z < x → WP y tgt lv st M Q) (kf : ¬ z < x → WP y (pc + 3) lv st M Q) : WP y pc lv (.int z :: .int x :: st) M Q := by
  intro p l e s m args below meth c D aC bs H locs ls C hP hS hl
  exact lv_icmp_gt C.1 C.2.1 hd ht (fun hc => (kt hc p l e s m args below meth c D aC bs H locs ls C hP hS hl)) (fun hc => (kf hc p l e s m args below meth c D aC bs H locs ls C hP hS hl))
theorem wp_if_gt {x : Int32} {off : Int} (tgt : Nat) (hd : decode y.2.1 pc = .ok (.ifCond .gt off, 3)) (ht : (pc : Int) + off = (tgt : Int)) (kt : 0 < x → WP y tgt lv st M Q) (kf : ¬ 0 < x → WP y (pc + 3) lv st M Q) : WP y pc lv (.int x :: st) M Q := by
  intro p l e s m args below meth c D aC bs H locs ls C hP hS hl
  exact lv_if_gt C.1 C.2.1 hd ht (fun hc => (kt hc p l e s m args below meth c D aC bs H locs ls C hP hS hl)) (fun hc => (kf hc p l e s m args below meth c D aC bs H locs ls C hP hS hl))
theorem wp_icmp_le {x z : Int32} {off : Int} (tgt : Nat) (hd : decode y.2.1 pc = .ok (.if_icmp .le off, 3)) (ht : (pc : Int) + off = (tgt : Int)) (kt : x ≤ z → WP y tgt lv st M Q) (kf : ¬ x ≤ z → WP y (pc + 3) lv st M Q) : WP y pc lv (.int z :: .int x :: st) M Q := by
  intro p l e s m args below meth c D aC bs H locs ls C hP hS hl
  exact lv_icmp_le C.1 C.2.1 hd ht (fun hc => (kt hc p l e s m args below meth c D aC bs H locs ls C hP hS hl)) (fun hc => (kf hc p l e s m args below meth c D aC bs H locs ls C hP hS hl))
theorem wp_if_le {x : Int32} {off : Int} (tgt : Nat) (hd : decode y.2.1 pc = .ok (.ifCond .le off, 3)) (ht : (pc : Int) + off = (tgt : Int)) (kt : x ≤ 0 → WP y tgt lv st M Q) (kf : ¬ x ≤ 0 → WP y (pc + 3) lv st M Q) : WP y pc lv (.int x :: st) M Q := by
  intro p l e s m args below meth c D aC bs H locs ls C hP hS hl
  exact lv_if_le C.1 C.2.1 hd ht (fun hc => (kt hc p l e s m args below meth c D aC bs H locs ls C hP hS hl)) (fun hc => (kf hc p l e s m args below meth c D aC bs H locs ls C hP hS hl))
theorem cmp_eq0 (x z : Int64) : (lg_cmp x z = 0) ↔ x = z := by
  unfold lg_cmp
  split
  · rename_i h
    constructor
    · intro q; exact absurd q (by decide)
    · intro q; subst q; exact absurd h (by simp [Int64.lt_iff_toInt_lt])
  · split
    · rename_i h; exact ⟨fun _ => h, fun _ => rfl⟩
    · rename_i h; exact ⟨fun q => absurd q (by decide), fun q => absurd q h⟩
theorem cmp_lt0 (x z : Int64) : (lg_cmp x z < 0) ↔ x < z := by
  have h := lg_cmp_ge x z
  rw [Int32.lt_iff_toInt_lt, Int64.lt_iff_toInt_lt]
  rw [Int32.le_iff_toInt_le, Int64.le_iff_toInt_le] at h
  omega
theorem cmp_gt0 (x z : Int64) : (0 < lg_cmp x z) ↔ z < x := by
  unfold lg_cmp
  split
  · rename_i h; exact ⟨fun _ => h, fun _ => by decide⟩
  · rename_i h
    split
    · exact ⟨fun q => absurd q (by decide), fun q => absurd q h⟩
    · exact ⟨fun q => absurd q (by decide), fun q => absurd q h⟩
theorem cmp_le0 (x z : Int64) : (lg_cmp x z ≤ 0) ↔ x ≤ z := by
  have h := cmp_gt0 x z
  rw [Int32.le_iff_toInt_le, Int64.le_iff_toInt_le]
  rw [Int32.lt_iff_toInt_lt, Int64.lt_iff_toInt_lt] at h
  omega
theorem wp_lcmp {x z : Int64} (hd : decode y.2.1 pc = .ok (.lcmp, 1)) (k : WP y (pc + 1) lv (.int (lg_cmp x z) :: st) M Q) : WP y pc lv (.long z :: .long x :: st) M Q := by
  intro p l e s m args below meth c D aC bs H locs ls C hP hS hl
  exact W.lcmp C.1 C.2.1 hd (k p l e s m args below meth c D aC bs H locs ls C hP hS hl)
theorem wp_lif_eq {x z : Int64} {off : Int} (tgt : Nat) (hd1 : decode y.2.1 pc = .ok (.lcmp, 1)) (hd : decode y.2.1 (pc + 1) = .ok (.ifCond .eq off, 3)) (ht : ((pc + 1 : Nat) : Int) + off = (tgt : Int)) (kt : x = z → WP y tgt lv st M Q) (kf : ¬ x = z → WP y (pc + 1 + 3) lv st M Q) : WP y pc lv (.long z :: .long x :: st) M Q :=
  wp_lcmp hd1 (wp_if_eq tgt hd ht (fun hc => kt ((cmp_eq0 x z).mp hc)) (fun hc => kf (fun q => hc ((cmp_eq0 x z).mpr q))))
theorem wp_lif_ne {x z : Int64} {off : Int} (tgt : Nat) (hd1 : decode y.2.1 pc = .ok (.lcmp, 1)) (hd : decode y.2.1 (pc + 1) = .ok (.ifCond .ne off, 3)) (ht : ((pc + 1 : Nat) : Int) + off = (tgt : Int)) (kt : ¬ x = z → WP y tgt lv st M Q) (kf : x = z → WP y (pc + 1 + 3) lv st M Q) : WP y pc lv (.long z :: .long x :: st) M Q :=
  wp_lcmp hd1 (wp_if_ne tgt hd ht (fun hc => kt (fun q => hc ((cmp_eq0 x z).mpr q))) (fun hc => kf ((cmp_eq0 x z).mp hc)))
theorem wp_lif_lt {x z : Int64} {off : Int} (tgt : Nat) (hd1 : decode y.2.1 pc = .ok (.lcmp, 1)) (hd : decode y.2.1 (pc + 1) = .ok (.ifCond .lt off, 3)) (ht : ((pc + 1 : Nat) : Int) + off = (tgt : Int)) (kt : x < z → WP y tgt lv st M Q) (kf : ¬ x < z → WP y (pc + 1 + 3) lv st M Q) : WP y pc lv (.long z :: .long x :: st) M Q :=
  wp_lcmp hd1 (wp_if_lt tgt hd ht (fun hc => kt ((cmp_lt0 x z).mp hc)) (fun hc => kf (fun q => hc ((cmp_lt0 x z).mpr q))))
theorem wp_lif_ge {x z : Int64} {off : Int} (tgt : Nat) (hd1 : decode y.2.1 pc = .ok (.lcmp, 1)) (hd : decode y.2.1 (pc + 1) = .ok (.ifCond .ge off, 3)) (ht : ((pc + 1 : Nat) : Int) + off = (tgt : Int)) (kt : z ≤ x → WP y tgt lv st M Q) (kf : ¬ z ≤ x → WP y (pc + 1 + 3) lv st M Q) : WP y pc lv (.long z :: .long x :: st) M Q :=
  wp_lcmp hd1 (wp_if_ge tgt hd ht (fun hc => kt ((lg_cmp_ge x z).mp hc)) (fun hc => kf (fun q => hc ((lg_cmp_ge x z).mpr q))))
theorem wp_lif_gt {x z : Int64} {off : Int} (tgt : Nat) (hd1 : decode y.2.1 pc = .ok (.lcmp, 1)) (hd : decode y.2.1 (pc + 1) = .ok (.ifCond .gt off, 3)) (ht : ((pc + 1 : Nat) : Int) + off = (tgt : Int)) (kt : z < x → WP y tgt lv st M Q) (kf : ¬ z < x → WP y (pc + 1 + 3) lv st M Q) : WP y pc lv (.long z :: .long x :: st) M Q :=
  wp_lcmp hd1 (wp_if_gt tgt hd ht (fun hc => kt ((cmp_gt0 x z).mp hc)) (fun hc => kf (fun q => hc ((cmp_gt0 x z).mpr q))))
theorem wp_lif_le {x z : Int64} {off : Int} (tgt : Nat) (hd1 : decode y.2.1 pc = .ok (.lcmp, 1)) (hd : decode y.2.1 (pc + 1) = .ok (.ifCond .le off, 3)) (ht : ((pc + 1 : Nat) : Int) + off = (tgt : Int)) (kt : x ≤ z → WP y tgt lv st M Q) (kf : ¬ x ≤ z → WP y (pc + 1 + 3) lv st M Q) : WP y pc lv (.long z :: .long x :: st) M Q :=
  wp_lcmp hd1 (wp_if_le tgt hd ht (fun hc => kt ((cmp_le0 x z).mp hc)) (fun hc => kf (fun q => hc ((cmp_le0 x z).mpr q))))
theorem wp_goto {off : Int} (tgt : Nat) (hd : decode y.2.1 pc = .ok (.goto off, 3)) (ht : (pc : Int) + off = (tgt : Int)) (k : WP y tgt lv st M Q) : WP y pc lv st M Q := by
  intro p l e s m args below meth c D aC bs H locs ls C hP hS hl
  exact lv_goto C.1 C.2.1 hd ht (k p l e s m args below meth c D aC bs H locs ls C hP hS hl)
theorem wp_tabIn {dflt lo hi : Int} {offs : Array Int} {len : Nat} {x : Int32} {off : Int} (tgt : Nat) (hd : decode y.2.1 pc = .ok (.tableswitch dflt lo hi offs, len)) (h1 : ¬ x.toInt < lo) (h2 : ¬ hi < x.toInt) (ho : offs[(x.toInt - lo).toNat]? = some off) (ht : (pc : Int) + off = (tgt : Int)) (k : WP y tgt lv st M Q) : WP y pc lv (.int x :: st) M Q := by
  intro p l e s m args below meth c D aC bs H locs ls C hP hS hl
  exact lv_tableIn C.1 C.2.1 hd h1 h2 ho ht (k p l e s m args below meth c D aC bs H locs ls C hP hS hl)
theorem wp_tabOut {dflt lo hi : Int} {offs : Array Int} {len : Nat} {x : Int32} (tgt : Nat) (hd : decode y.2.1 pc = .ok (.tableswitch dflt lo hi offs, len)) (h : x.toInt < lo ∨ hi < x.toInt) (ht : (pc : Int) + dflt = (tgt : Int)) (k : WP y tgt lv st M Q) : WP y pc lv (.int x :: st) M Q := by
  intro p l e s m args below meth c D aC bs H locs ls C hP hS hl
  exact lv_tableOut C.1 C.2.1 hd h ht (k p l e s m args below meth c D aC bs H locs ls C hP hS hl)
theorem wp_sub (ks : List Nat) (h : lv_pick lv ks = lv') (k : WP y pc lv' st M Q) : WP y pc lv st M Q := by
  intro p l e s m args below meth c D aC bs H locs ls C hP hS hl
  refine k p l e s m args below meth c D aC bs H locs ls C hP hS ?_
  refine ⟨hl.1, hl.2.1, fun q hq => ?_⟩
  obtain ⟨r, hr, rfl⟩ := List.mem_map.mp hq
  rw [← h] at hr
  obtain ⟨i, -, hi⟩ := List.mem_filterMap.mp hr
  exact hl.2.2 _ (List.mem_map.mpr ⟨r, List.mem_of_getElem? hi, rfl⟩)
theorem PQ_of {bs : Nat} {D : va_G} {aC : Nat → ClassId} {args : Array Value} {s t : State} {H : Heap} {locs : List Loc} {r : Option Value} (hP : va_P D vwCl (wld bs aC M) H) (hS : va_S (fun q => bs ≤ q) s.heap H locs) (hq : Q r M) (ht : t.heap = H) : PQ bs D aC Q args s (.returned (r.map (cv bs))) t := by
  refine ⟨⟨r, M, rfl, hq, ?_⟩, hS.F ht⟩
  rw [ht]; exact hP
theorem wp_iret {v : Int32} (hd : decode y.2.1 pc = .ok (.ireturn, 1)) (hr : y.2.2.2.1 = some .int) (hq : Q (some (.int v)) M) : WP y pc lv [.int v] M Q := by
  intro p l e s m args below meth c D aC bs H locs ls C hP hS hl
  have hlocks := C.2.2.2.2.2.2.1
  exact W.iret C.1 C.2.1 (C.2.2.2.1.trans hr) (fun t ht _ => PQ_of (r := some (.int v)) hP hS hq ht) (fun q h => hS.2.2 q h) hd
theorem wp_zret {v : Int32} (hd : decode y.2.1 pc = .ok (.ireturn, 1)) (hr : y.2.2.2.1 = some .boolean) (hv : v = 0 ∨ v = 1) (hq : Q (some (.int v)) M) : WP y pc lv [.int v] M Q := by
  intro p l e s m args below meth c D aC bs H locs ls C hP hS hl
  have hlocks := C.2.2.2.2.2.2.1
  exact W.zret C.1 C.2.1 (C.2.2.2.1.trans hr) (by rcases hv with rfl | rfl <;> rfl) (fun t ht _ => PQ_of (r := some (.int v)) hP hS hq ht) (fun q h => hS.2.2 q h) hd
theorem wp_lret {v : Int64} (hd : decode y.2.1 pc = .ok (.lreturn, 1)) (hr : y.2.2.2.1 = some .long) (hq : Q (some (.long v)) M) : WP y pc lv [.long v] M Q := by
  intro p l e s m args below meth c D aC bs H locs ls C hP hS hl
  have hlocks := C.2.2.2.2.2.2.1
  exact W.lret C.1 C.2.1 (C.2.2.2.1.trans hr) (fun t ht _ => PQ_of (r := some (.long v)) hP hS hq ht) (fun q h => hS.2.2 q h) hd
theorem wp_vret (hd : decode y.2.1 pc = .ok (.return_, 1)) (hr : y.2.2.2.1 = none) (hq : Q none M) : WP y pc lv [] M Q := by
  intro p l e s m args below meth c D aC bs H locs ls C hP hS hl
  have hlocks := C.2.2.2.2.2.2.1
  exact W.vret C.1 C.2.1 (C.2.2.2.1.trans hr) (fun t ht _ => PQ_of (r := none) hP hS hq ht) (fun q h => hS.2.2 q h) hd
theorem wp_aret {v : Nat} {n : String} (hd : decode y.2.1 pc = .ok (.areturn, 1)) (hr : y.2.2.2.1 = some (.object n)) (hq : Q (some (.ref v)) M) : WP y pc lv [.ref v] M Q := by
  intro p l e s m args below meth c D aC bs H locs ls C hP hS hl
  have hlocks := C.2.2.2.2.2.2.1
  exact W.aret C.1 C.2.1 (C.2.2.2.1.trans hr) (Or.inl ⟨_, rfl⟩) (Or.inr ⟨_, rfl⟩) (fun t ht _ => PQ_of (r := some (.ref v)) hP hS hq ht) (fun q h => hS.2.2 q h) hd
end Rules
end
section
section HeapRules
variable {y : YI} {pc : Nat} {lv lv' : List (Nat × Value)} {st : List Value} {M : Mem} {Q : Option Value → Mem → Prop}
def Fd0 (own : String) (idx ci k : Nat) : Prop := ∃ (C : String) (T : u_T) (N : Nat), vwCl[ci]? = some (C, T, N) ∧ (∀ w ∈ u_ws C T N, w ∈ TS) ∧ ci < 9 ∧ NF ci = N ∧ k < N ∧ Cond.fieldLink own idx (T k).1 (T k).2.1 (T k).2.2.1 ∈ TS
def FdP (own : String) (idx ci k : Nat) (ty : FieldType) : Prop := ∃ (C : String) (T : u_T) (N : Nat) (ty0 : Nat → FieldType), vwCl[ci]? = some (C, T, N) ∧ (∀ w ∈ u_ws C T N, w ∈ TS) ∧ ci < 9 ∧ NF ci = N ∧ k < N ∧ Cond.fieldLink own idx (T k).1 (T k).2.1 (T k).2.2.1 ∈ TS ∧ (∀ k, k < N → parseFieldDescriptor (T k).2.2.1 = some (ty0 k)) ∧ (∀ a, a < N → ∀ b, b < N → a ≠ b → (T a).2.1 ≠ (T b).2.1) ∧ (T k).2.2.2 = false ∧ parseFieldDescriptor (T k).2.2.1 = some ty
def oF (bs : Nat) (M : Mem) (a : Nat) : List Value := (List.range (ln a)).map (fun k => match rfo a k with | some r => Value.ref (bs + r) | none => Value.int (M.1 a k))
theorem oF_int {bs a k : Nat} (hk : k < ln a) (hr : rfo a k = none) : (oF bs M a)[k]? = some (.int (M.1 a k)) := by
  simp [oF, hk, hr]
theorem oF_ref {bs a k r : Nat} (hk : k < ln a) (hr : rfo a k = some r) : (oF bs M a)[k]? = some (.ref (bs + r)) := by
  simp [oF, hk, hr]
theorem oF_set {bs a k : Nat} {v : Int32} (hr : rfo a k = none) : (oF bs M a).set k (.int v) = oF bs (stI M a k v) a := by
  apply List.ext_getElem?
  intro j
  rw [List.getElem?_set]
  by_cases hj : j < ln a
  · by_cases e : k = j
    · subst e
      have h1 : k < (oF bs M a).length := by simpa [oF] using hj
      rw [if_pos rfl, if_pos h1, oF_int hj hr]
      simp [stI]
    · rw [if_neg e]
      have : (stI M a k v).1 a j = M.1 a j := by simp [stI, show j ≠ k from fun q => e q.symm]
      cases hq : rfo a j with
      | none => rw [oF_int hj hq, oF_int hj hq, this]
      | some r => rw [oF_ref hj hq, oF_ref hj hq]
  · have h1 : (oF bs M a)[j]? = none := by simp [oF]; omega
    have h2 : (oF bs (stI M a k v) a)[j]? = none := by simp [oF]; omega
    rw [h1, h2]
    split
    · split
      · rename_i e h; subst e; exact absurd (by simpa [oF] using h) hj
      · rfl
    · rfl
theorem w_obj {bs : Nat} {aC : Nat → ClassId} {a c : Nat} (h : tg a = c) (hc : c < 9) : (wld bs aC M)[a]? = some (bs + a, .inr (c, oF bs M a)) := by
  rw [wld_get (tg_lt (show tg a ≠ 99 by omega)), cE_O h hc]; rfl
theorem wp_getI {a ci k idx : Nat} (hd : decode y.2.1 pc = .ok (.getfield idx, 3)) (hf : Fd0 y.1.cls idx ci k) (ht : FT ci k = none) (ha : tg a = ci) (kk : WP y (pc + 3) lv (.int (M.1 a k) :: st) M Q) : WP y pc lv (.ref a :: st) M Q := by
  intro p l e s m args below meth c D aC bs H locs ls C hP hS hl
  obtain ⟨Cn, T, N, h1, h2, h3, h4, h5, h6⟩ := hf
  have hk : k < ln a := by rw [ok_ln ha h3, h4]; exact h5
  exact va_get (own := y.1.cls) (ref := (T k).1) C.1 C.2.1 C.2.2.2.2.2.1 h2 C.2.2.2.2.1 C.2.2.2.2.2.2.2 hP a (w_obj ha h3) h1 k h5 (C.2.2.2.2.2.1 _ h6) (fun _ h => h) (oF_int hk (ok_int ha h3 (by rw [h4]; exact h5) ht)) hd (kk p l e s m args below meth c D aC bs H locs ls C hP hS hl)
theorem wp_getR {a ci k idx t : Nat} (hd : decode y.2.1 pc = .ok (.getfield idx, 3)) (hf : Fd0 y.1.cls idx ci k) (ht : FT ci k = some t) (ha : tg a = ci) (kk : WP y (pc + 3) lv (.ref (rf a k) :: st) M Q) : WP y pc lv (.ref a :: st) M Q := by
  intro p l e s m args below meth c D aC bs H locs ls C hP hS hl
  obtain ⟨Cn, T, N, h1, h2, h3, h4, h5, h6⟩ := hf
  have hk : k < ln a := by rw [ok_ln ha h3, h4]; exact h5
  exact va_get (own := y.1.cls) (ref := (T k).1) C.1 C.2.1 C.2.2.2.2.2.1 h2 C.2.2.2.2.1 C.2.2.2.2.2.2.2 hP a (w_obj ha h3) h1 k h5 (C.2.2.2.2.2.1 _ h6) (fun _ h => h) (oF_ref hk (ok_ref ha h3 (by rw [h4]; exact h5) ht).1) hd (kk p l e s m args below meth c D aC bs H locs ls C hP hS hl)
theorem wp_putG {a ci k idx : Nat} {v : Int32} {ty : FieldType} (hd : decode y.2.1 pc = .ok (.putfield idx, 3)) (hf : FdP y.1.cls idx ci k ty) (ht : FT ci k = none) (ha : tg a = ci) (hn : narrow ty (.int v) = .int v) (hfit : fits ty (.int v) = true) (kk : ∀ M', M' = stI M a k v → WP y (pc + 3) lv st M' Q) : WP y pc lv (.int v :: .ref a :: st) M Q := by
  intro p l e s m args below meth c D aC bs H locs ls C hP hS hl
  obtain ⟨Cn, T, N, ty0, h1, h2, h3, h4, h5, h6, h7, h8, h9, h10⟩ := hf
  have hk : k < ln a := by rw [ok_ln ha h3, h4]; exact h5
  have hr : rfo a k = none := ok_int ha h3 (by rw [h4]; exact h5) ht
  refine va_put (own := y.1.cls) (ref := (T k).1) C.1 C.2.1 C.2.2.2.2.2.1 h2 ty0 h7 h8 C.2.2.2.2.1 C.2.2.2.2.2.2.2 hP wld_D hS a (w_obj ha h3) h1 k h5 (C.2.2.2.2.2.1 _ h6) (fun _ h => h) h9 h10 hn hfit (by simpa [oF] using hk) hd (fun H1 locs1 hP1 _ hS1 => ?_)
  have hP1 : va_P D vwCl ((wld bs aC M).set a (bs + a, .inr (ci, (oF bs M a).set k (.int v)))) H1 := hP1
  rw [oF_set hr, wld_set (M' := stI M a k v) (e := .inr (ci, oF bs (stI M a k v) a)) (cE_O ha h3) (fun b hb => cE_off_I hb)] at hP1
  exact kk _ rfl p l e s m args below meth c D aC bs H1 locs1 ls C hP1 hS1 hl
theorem wp_putI {a ci k idx : Nat} {v : Int32} (hd : decode y.2.1 pc = .ok (.putfield idx, 3)) (hf : FdP y.1.cls idx ci k .int) (ht : FT ci k = none) (ha : tg a = ci) (kk : ∀ M', M' = stI M a k v → WP y (pc + 3) lv st M' Q) : WP y pc lv (.int v :: .ref a :: st) M Q := wp_putG hd hf ht ha rfl rfl kk
theorem wp_putZ {a ci k idx : Nat} {v : Int32} (hd : decode y.2.1 pc = .ok (.putfield idx, 3)) (hf : FdP y.1.cls idx ci k .boolean) (ht : FT ci k = none) (ha : tg a = ci) (hv : v = 0 ∨ v = 1) (kk : ∀ M', M' = stI M a k v → WP y (pc + 3) lv st M' Q) : WP y pc lv (.int v :: .ref a :: st) M Q := wp_putG hd hf ht ha (by rcases hv with rfl | rfl <;> rfl) (by rcases hv with rfl | rfl <;> rfl) kk
theorem wp_iald {a : Nat} {i : Int32} (hd : decode y.2.1 pc = .ok (.iaload, 1)) (ha : tg a = 10) (hi : inb i (ln a)) (k : WP y (pc + 1) lv (.int (rdI M a i) :: st) M Q) : WP y pc lv (.int i :: .ref a :: st) M Q := by
  intro p l e s m args below meth c D aC bs H locs ls C hP hS hl
  exact va_iald C.1 C.2.1 C.2.2.2.2.2.2.2 hP a 0 (by rw [wld_get (tg_lt (show tg a ≠ 99 by omega)), cE_I ha]) rfl hi hd (k p l e s m args below meth c D aC bs H locs ls C hP hS hl)
theorem wp_zald {a : Nat} {i : Int32} (hd : decode y.2.1 pc = .ok (.baload, 1)) (ha : tg a = 12) (hi : inb i (ln a)) (k : WP y (pc + 1) lv (.int (rdI M a i) :: st) M Q) : WP y pc lv (.int i :: .ref a :: st) M Q := by
  intro p l e s m args below meth c D aC bs H locs ls C hP hS hl
  exact va_zald C.1 C.2.1 C.2.2.2.2.2.2.2 hP a 2 (by rw [wld_get (tg_lt (show tg a ≠ 99 by omega)), cE_Z ha]) rfl hi hd (k p l e s m args below meth c D aC bs H locs ls C hP hS hl)
theorem wp_lald {a : Nat} {i : Int32} (hd : decode y.2.1 pc = .ok (.laload, 1)) (ha : tg a = 11) (hi : inb i (ln a)) (k : WP y (pc + 1) lv (.long (rdL M a i) :: st) M Q) : WP y pc lv (.int i :: .ref a :: st) M Q := by
  intro p l e s m args below meth c D aC bs H locs ls C hP hS hl
  exact va_lald C.1 C.2.1 C.2.2.2.2.2.2.2 hP a 1 (by rw [wld_get (tg_lt (show tg a ≠ 99 by omega)), cE_J ha]) rfl hi hd (k p l e s m args below meth c D aC bs H locs ls C hP hS hl)
theorem wp_aald {a t u : Nat} {i : Int32} (hd : decode y.2.1 pc = .ok (.aaload, 1)) (ha : tg a = t) (h13 : t = 13 ∨ t = 14 ∨ t = 15) (hu : FT t 0 = some u) (hi : inb i (ln a)) (k : WP y (pc + 1) lv (.ref (rf a i.toNatClampNeg) :: st) M Q) : WP y pc lv (.int i :: .ref a :: st) M Q := by
  intro p l e s m args below meth c D aC bs H locs ls C hP hS hl
  have hlt : i.toNatClampNeg < ln a := Nat.not_le.mp fun q => hi (Or.inr q)
  have hr := (ok_el ha (by omega) (by omega) hlt hu).1
  have hg : (wld bs aC M)[a]? = some (bs + a, .inl (aC (t - 10), ln a, .inr (.inr (.inr (.inr (fun i => (rfo a i).map (bs + ·))))))) := by
    rw [wld_get (tg_lt (show tg a ≠ 99 by omega)), cE_R ha (by omega)]
  have kk := k p l e s m args below meth c D aC bs H locs ls C hP hS hl
  have hK := C.2.2.2.2.2.2.2
  have ev : va_rf ((rfo a i.toNatClampNeg).map (bs + ·)) = Value.ref (bs + rf a i.toNatClampNeg) := by rw [hr]; rfl
  have main : ∀ (ty : FieldType), ty.isReference = true → (tysOf aC)[t - 10]? = some (aC (t - 10), ty) → W p l e (rmO y) s m args below meth c H locs 0 0 (MQ below (PQ bs D aC Q) args s 0 0 (fun q => bs ≤ q)) (F0 m pc ls ((.int i :: .ref a :: st).map (cv bs))) := by
    intro ty hty htt
    refine W.aald (v := va_rf ((rfo a i.toNatClampNeg).map (bs + ·))) (ty := ty) C.1 C.2.1 (hP a _ hg) ((hK.2 (t - 10) _ htt).1 (ln a) (fun j => va_rf ((rfo a j).map (bs + ·)))) hty (fun q => by cases q) (by show ¬ (i < 0 ∨ (arrV _ _ _).slots.size ≤ _); rw [arrV_size]; exact hi) (by show (arrV _ _ _).slots[_]? = _; rw [arrV_read _ _ hlt]) rfl rfl hd ?_
    rw [ev]
    exact kk
  rcases h13 with rfl | rfl | rfl
  · exact main (.array .int) rfl rfl
  · exact main (.object "BetweenCounts$Big") rfl rfl
  · exact main (.object "BetweenCounts$Fraction") rfl rfl
theorem upd_st {a k : Nat} {v : Int32} : (stI M a k v).1 a = upd (M.1 a) k v := by funext j; simp [stI, upd]
theorem updL_st {a k : Nat} {v : Int64} : (stL M a k v).2 a = vp_updL (M.2 a) k v := by funext j; simp [stL, vp_updL]
theorem wp_iast {a : Nat} {i v : Int32} (hd : decode y.2.1 pc = .ok (.iastore, 1)) (ha : tg a = 10) (hi : inb i (ln a)) (k : ∀ M', M' = stI M a i.toNatClampNeg v → WP y (pc + 1) lv st M' Q) : WP y pc lv (.int v :: .int i :: .ref a :: st) M Q := by
  intro p l e s m args below meth c D aC bs H locs ls C hP hS hl
  refine va_iast C.1 C.2.1 C.2.2.2.2.2.2.2 hP wld_D hS a 0 (by rw [wld_get (tg_lt (show tg a ≠ 99 by omega)), cE_I ha]) rfl hi hd (fun H1 locs1 hP1 _ hS1 => ?_)
  rw [wld_set (M' := stI M a i.toNatClampNeg v) (by rw [cE_I ha, upd_st]) (fun b hb => cE_off_I hb)] at hP1
  exact k _ rfl p l e s m args below meth c D aC bs H1 locs1 ls C hP1 hS1 hl
theorem nar_z (x : Int32) : vp_nar .boolean x = x &&& 1 := rfl
theorem wp_zast {a : Nat} {i v : Int32} (hd : decode y.2.1 pc = .ok (.bastore, 1)) (ha : tg a = 12) (hi : inb i (ln a)) (k : ∀ M', M' = stI M a i.toNatClampNeg (v &&& 1) → WP y (pc + 1) lv st M' Q) : WP y pc lv (.int v :: .int i :: .ref a :: st) M Q := by
  intro p l e s m args below meth c D aC bs H locs ls C hP hS hl
  refine va_zast C.1 C.2.1 C.2.2.2.2.2.2.2 hP wld_D hS a 2 (by rw [wld_get (tg_lt (show tg a ≠ 99 by omega)), cE_Z ha]) rfl hi hd (fun H1 locs1 hP1 _ hS1 => ?_)
  rw [nar_z, wld_set (M' := stI M a i.toNatClampNeg (v &&& 1)) (by rw [cE_Z ha, upd_st]) (fun b hb => cE_off_I hb)] at hP1
  exact k _ rfl p l e s m args below meth c D aC bs H1 locs1 ls C hP1 hS1 hl
theorem wp_last {a : Nat} {i : Int32} {v : Int64} (hd : decode y.2.1 pc = .ok (.lastore, 1)) (ha : tg a = 11) (hi : inb i (ln a)) (k : ∀ M', M' = stL M a i.toNatClampNeg v → WP y (pc + 1) lv st M' Q) : WP y pc lv (.long v :: .int i :: .ref a :: st) M Q := by
  intro p l e s m args below meth c D aC bs H locs ls C hP hS hl
  refine va_last C.1 C.2.1 C.2.2.2.2.2.2.2 hP wld_D hS a 1 (by rw [wld_get (tg_lt (show tg a ≠ 99 by omega)), cE_J ha]) rfl hi hd (fun H1 locs1 hP1 _ hS1 => ?_)
  rw [wld_set (M' := stL M a i.toNatClampNeg v) (by rw [cE_J ha, updL_st]) (fun b hb => cE_off_L hb)] at hP1
  exact k _ rfl p l e s m args below meth c D aC bs H1 locs1 ls C hP1 hS1 hl
theorem wp_alenJ {a : Nat} (hd : decode y.2.1 pc = .ok (.arraylength, 1)) (ha : tg a = 11) (k : WP y (pc + 1) lv (.int (Int32.ofNat (ln a)) :: st) M Q) : WP y pc lv (.ref a :: st) M Q := by
  intro p l e s m args below meth c D aC bs H locs ls C hP hS hl
  exact va_alen C.1 C.2.1 C.2.2.2.2.2.2.2 hP a 1 (x := (ln a, .inr (.inl (M.2 a)))) (by rw [wld_get (tg_lt (show tg a ≠ 99 by omega)), cE_J ha]) rfl rfl hd (k p l e s m args below meth c D aC bs H locs ls C hP hS hl)
theorem wp_alenI {a : Nat} (hd : decode y.2.1 pc = .ok (.arraylength, 1)) (ha : tg a = 10) (k : WP y (pc + 1) lv (.int (Int32.ofNat (ln a)) :: st) M Q) : WP y pc lv (.ref a :: st) M Q := by
  intro p l e s m args below meth c D aC bs H locs ls C hP hS hl
  exact va_alen C.1 C.2.1 C.2.2.2.2.2.2.2 hP a 0 (x := (ln a, .inl (M.1 a))) (by rw [wld_get (tg_lt (show tg a ≠ 99 by omega)), cE_I ha]) rfl rfl hd (k p l e s m args below meth c D aC bs H locs ls C hP hS hl)
theorem cat_cv (bs : Nat) (l : List Value) : ((l.map (cv bs)).map fun v => v.category).sum = (l.map fun v => v.category).sum := by
  rw [List.map_map]
  congr 1
  exact List.map_congr_left (fun v _ => cv_cat bs v)
theorem wp_max {idx : Nat} {x z : Int32} (hd : decode y.2.1 pc = .ok (.invokestatic idx, 3)) (h1 : Cond.methodLink y.1.cls idx Lib.Math.max.name ∈ TS) (h2 : Cond.static Lib.Math.max.name ∈ TS) (h3 : Cond.initialized "java/lang/Math" ∈ TS) (h4 : Cond.code Lib.Math.max.name Lib.Math.max.code 2 (some .int) ∈ TS) (hf : 1 ≤ y.2.2.2.2.1) (hw : (st.map fun v => v.category).sum + 13 ≤ y.2.2.2.2.2) (k : WP y (pc + 3) lv (.int (if x < z then z else x) :: st) M Q) : WP y pc lv (.int z :: .int x :: st) M Q := by
  intro p l e s m args below meth c D aC bs H locs ls C hP hS hl
  have hts := C.2.2.2.2.2.1
  exact va_mmax C.1 C.2.1 (C.2.2.1.trans hl.1.symm) C.2.2.2.2.1 (hts _ h1) (hts _ h2) (hts _ h3) (hts _ h4) hf (by rw [cat_cv]; exact hw) (Nat.zero_le _) (Nat.zero_le _) hd (k p l e s m args below meth c D aC bs H locs ls C hP hS hl)
theorem wp_min {idx : Nat} {x z : Int32} (hd : decode y.2.1 pc = .ok (.invokestatic idx, 3)) (h1 : Cond.methodLink y.1.cls idx Lib.Math.min.name ∈ TS) (h2 : Cond.static Lib.Math.min.name ∈ TS) (h3 : Cond.initialized "java/lang/Math" ∈ TS) (h4 : Cond.code Lib.Math.min.name Lib.Math.min.code 2 (some .int) ∈ TS) (hf : 1 ≤ y.2.2.2.2.1) (hw : (st.map fun v => v.category).sum + 13 ≤ y.2.2.2.2.2) (k : WP y (pc + 3) lv (.int (if z < x then z else x) :: st) M Q) : WP y pc lv (.int z :: .int x :: st) M Q := by
  intro p l e s m args below meth c D aC bs H locs ls C hP hS hl
  have hts := C.2.2.2.2.2.1
  exact va_mmin C.1 C.2.1 (C.2.2.1.trans hl.1.symm) C.2.2.2.2.1 (hts _ h1) (hts _ h2) (hts _ h3) (hts _ h4) hf (by rw [cat_cv]; exact hw) (Nat.zero_le _) (Nat.zero_le _) hd (k p l e s m args below meth c D aC bs H locs ls C hP hS hl)
theorem wp_copyL {idx a b : Nat} {sp dp n : Int32} (hd : decode y.2.1 pc = .ok (.invokestatic idx, 3)) (h1 : Cond.methodLink y.1.cls idx arraycopyName ∈ TS) (h2 : Cond.native arraycopyName ∈ TS) (h3 : Cond.static arraycopyName ∈ TS) (h4 : Cond.initialized "java/lang/System" ∈ TS) (hf : 1 ≤ y.2.2.2.2.1) (hw : (st.map fun v => v.category).sum + (nativeFrameWords "java/lang/System" "arraycopy" 5 + 11) ≤ y.2.2.2.2.2)
    (ha : tg a = 11) (hb : tg b = 11) (g1 : ¬ sp < 0) (g2 : ¬ dp < 0) (g3 : ¬ n < 0) (g4 : sp.toNatClampNeg + n.toNatClampNeg ≤ ln a) (g5 : dp.toNatClampNeg + n.toNatClampNeg ≤ ln b) (k : ∀ M', M' = cpL M a sp.toNatClampNeg b dp.toNatClampNeg n.toNatClampNeg → WP y (pc + 3) lv st M' Q) : WP y pc lv (.int n :: .int dp :: .ref b :: .int sp :: .ref a :: st) M Q := by
  intro p l e s m args below meth c D aC bs H locs ls C hP hS hl
  have hts := C.2.2.2.2.2.1
  refine va_copyl C.1 C.2.1 (C.2.2.1.trans hl.1.symm) C.2.2.2.2.1 (hts _ h1) (hts _ h2) (hts _ h3) (hts _ h4) C.2.2.2.2.2.2.2 hP wld_D hS a b 1 1 (by rw [wld_get (tg_lt (show tg a ≠ 99 by omega)), cE_J ha]) (by rw [wld_get (tg_lt (show tg b ≠ 99 by omega)), cE_J hb]) rfl rfl rfl g1 g2 g3 g4 g5 (fun _ _ => rfl) hf (by rw [cat_cv]; exact hw) hd (fun H1 locs1 hP1 _ hS1 => ?_)
  rw [wld_set (M' := cpL M a sp.toNatClampNeg b dp.toNatClampNeg n.toNatClampNeg) (by rw [cE_J hb]; simp [cpL]) (fun q hq => by
    have e1 : (cpL M a sp.toNatClampNeg b dp.toNatClampNeg n.toNatClampNeg).1 q = M.1 q := rfl
    have e2 : (cpL M a sp.toNatClampNeg b dp.toNatClampNeg n.toNatClampNeg).2 q = M.2 q := by funext j; simp [cpL, hq]
    unfold cE
    rw [e1, e2])] at hP1
  exact k _ rfl p l e s m args below meth c D aC bs H1 locs1 ls C hP1 hS1 hl
/-! calls -/
def CalB (y z : YI) (idx n : Nat) : Prop := Cond.methodLink y.1.cls idx z.1 ∈ TS ∧ Cond.initialized z.1.cls ∈ TS ∧ Cond.code z.1 z.2.1 z.2.2.1 z.2.2.2.1 ∈ TS ∧ (z.1.cls ≠ "java/lang/invoke/MethodHandle" ∧ z.1.cls ≠ "java/lang/invoke/VarHandle") ∧ (parseMethodDescriptor z.1.desc).map (fun d => d.parameters.length) = some n ∧ z.2.2.2.2.1 + 1 ≤ y.2.2.2.2.1 ∧ 8 + (z.2.2.1 + 11) + z.2.2.2.2.2 ≤ y.2.2.2.2.2
def CalV (y z : YI) (idx ci n : Nat) : Prop := CalB y z idx n ∧ (∃ (T : u_T) (N : Nat), vwCl[ci]? = some (z.1.cls, T, N)) ∧ ci < 9 ∧ Cond.instanceMethod z.1 ∈ TS ∧ Cond.selects z.1.cls z.1 z.1 ∈ TS
def CalS (y z : YI) (idx n : Nat) : Prop := CalB y z idx n ∧ Cond.static z.1 ∈ TS
theorem cal_B {z : YI} {idx n : Nat} {s : State} {args : Array Value} (hts : ∀ w ∈ TS, w.before args s = true) (h : CalB y z idx n) : CallB (rmO y) s args y.1.cls idx z.1 z.2.1 z.2.2.1 z.2.2.2.1 (wsO z) (rmO z) 0 0 n := by
  obtain ⟨h1, h2, h3, h4, h5, h6, h7⟩ := h
  refine ⟨rfl, rfl, h6, h7, fun w hw a' U hW => ?_, List.mem_cons_self, hts _ h3, hts _ h2, h4, fun sig hs => ?_, hts _ h1⟩
  · have hm : w ∈ TS := by
      rcases List.mem_cons.mp hw with q | q
      · rw [q]; exact h3
      · exact q
    exact word_at hW (TS_gd hm) (hts w hm)
  · rw [hs] at h5
    exact (Option.some.inj h5).symm
theorem blindO {bs : Nat} {D : va_G} {aC : Nat → ClassId} {as : List Value} : FrameBlind (va_Pc as (PreO bs D aC M)) := fun a U g mk q => ⟨q.1, q.2.1, va_K.moved (u := U) (U := U.calling g mk a) (Vm.Alike.refl U.vm) q.2.2⟩
theorem wp_run {rest : List Value} {Qz : Option Value → Mem → Prop} {p : Program} {l : Launch} {e : Env} {s : State} {m : MethodId} {args a : Array Value} {below : List Frame} {meth : Method} {c : Code} {D : va_G} {aC : Nat → ClassId} {bs : Nat} {H : Heap} {locs : List Loc} {ls : Array Slot}
    (C : Cx y p s m args meth c D aC) (hS : va_S (fun q => bs ≤ q) s.heap H locs) (hl : lv_has ls y.2.2.1 (cvl bs lv))
    (hr : va_Run p l e (rmO y) s m args below meth c H locs 0 0 0 0 (F0 m pc ls (st.map (cv bs))) (rest.map (cv bs)) (PQ bs D aC Qz a) (fun q => bs ≤ q))
    (k : ∀ (r : Option Value) (M' : Mem), Qz r M' → WP y (pc + 3) lv (r.toList ++ rest) M' Q) : W p l e (rmO y) s m args below meth c H locs 0 0 (MQ below (PQ bs D aC Q) args s 0 0 (fun q => bs ≤ q)) (F0 m pc ls (st.map (cv bs))) := by
  intro T hT X
  obtain ⟨v, st₀, t, T', L, h0, X', hL, e1, e2, ⟨⟨r, M', hv, hq, hP'⟩, hz, hk⟩, stp⟩ := hr T hT X
  have hv' : v = r.map (cv bs) := by cases hv; rfl
  subst hv'
  rw [h0] at hz hk
  have hS' : va_S (fun q => bs ≤ q) s.heap T'.heap (locs ++ L) := ⟨Nat.le_trans hS.1 (by rw [e1]; exact hz), fun q h1 h2 => by rw [e1, hk q (Nat.lt_of_lt_of_le h1 hS.1) h2]; exact hS.2.1 q h1 h2, fun q hq => by
      rcases List.mem_append.mp hq with h | h
      · exact hS.2.2 q h
      · exact hL q h⟩
  obtain ⟨t2, a1, b1⟩ := k r M' hq p l e s m args below meth c D aC bs T'.heap (locs ++ L) ls C (by rw [e1]; exact hP') hS' hl T' rfl X'
  refine ⟨t2, stp t2 ?_, b1⟩
  have hstk : (r.toList ++ rest).map (cv bs) = (r.map (cv bs)).toList ++ rest.map (cv bs) := by cases r <;> rfl
  rw [hstk] at a1
  exact a1
theorem wp_callV {z : YI} {idx ci a : Nat} (As rest : List Value) {Qz : Option Value → Mem → Prop} (hd : decode y.2.1 pc = .ok (.invokevirtual idx, 3)) (hc : CalV y z idx ci As.length) (ha : tg a = ci) (hst : st = As.reverse ++ .ref a :: rest) (hw : (rest.map fun v => v.category).sum ≤ 8) (hz : Ctr z (.ref a :: As) M Qz)
    (k : ∀ (r : Option Value) (M' : Mem), Qz r M' → WP y (pc + 3) lv (r.toList ++ rest) M' Q) : WP y pc lv st M Q := by
  intro p l e s m args below meth c D aC bs H locs ls C hP hS hl
  obtain ⟨hB, ⟨T, N, h1⟩, h2, h3, h4⟩ := hc
  have hts := C.2.2.2.2.2.1
  have hK := C.2.2.2.2.2.2.2
  have cw : CallW (rmO y) s args y.1.cls z.1.cls idx z.1 z.2.1 z.2.2.1 z.2.2.2.1 (wsO z) (rmO z) 0 0 As.length := ⟨cal_B hts hB, hts _ h3, hts _ h4⟩
  have hp : PreV s H z.1.cls (bs + a) (va_Pc ((Value.ref a :: As).map (cv bs)) (PreO bs D aC M)) (As.map (cv bs)) := ⟨blindO, va_recv hK hP h1 (w_obj ha h2), fun U hU hW => ⟨rfl, by rw [hU]; exact hP, va_K.moved hW.alike hK⟩⟩
  have hr := va_runV (g := F0 m pc ls (st.map (cv bs))) (below := below) (e := e) (meth := meth) (locs := locs) (cells := 0) (slots := 0) (rest := rest.map (cv bs)) (S := ⟨C.1, C.2.1, C.2.2.1, C.2.2.2.2.1, hts⟩) (hz l D aC bs) cw hp rfl (by simp) hl.1 (by rw [hst]; simp [List.map_append, List.map_reverse]; rfl) (by rw [cat_cv]; show 2 * 0 + _ ≤ 8; omega) hd ⟨Nat.le_refl _, Nat.le_refl _⟩
  exact wp_run C hS hl hr k
theorem wp_callS {z : YI} {idx : Nat} (As rest : List Value) {Qz : Option Value → Mem → Prop} (hd : decode y.2.1 pc = .ok (.invokestatic idx, 3)) (hc : CalS y z idx As.length) (hst : st = As.reverse ++ rest) (hw : (rest.map fun v => v.category).sum ≤ 8) (hz : Ctr z As M Qz)
    (k : ∀ (r : Option Value) (M' : Mem), Qz r M' → WP y (pc + 3) lv (r.toList ++ rest) M' Q) : WP y pc lv st M Q := by
  intro p l e s m args below meth c D aC bs H locs ls C hP hS hl
  obtain ⟨hB, h3⟩ := hc
  have hts := C.2.2.2.2.2.1
  have hK := C.2.2.2.2.2.2.2
  have hp : PreS s H (va_Pc (As.map (cv bs)) (PreO bs D aC M)) (As.map (cv bs)) := ⟨blindO, fun U hU hW => ⟨rfl, by rw [hU]; exact hP, va_K.moved hW.alike hK⟩⟩
  have hr := va_runS (g := F0 m pc ls (st.map (cv bs))) (below := below) (e := e) (meth := meth) (locs := locs) (cells := 0) (slots := 0) (rest := rest.map (cv bs)) (S := ⟨C.1, C.2.1, C.2.2.1, C.2.2.2.2.1, hts⟩) (hz l D aC bs) ⟨cal_B hts hB, hts _ h3⟩ hp rfl (by simp) hl.1 (by rw [hst]; simp [List.map_append, List.map_reverse]) (by rw [cat_cv]; show 2 * 0 + _ ≤ 8; omega) hd ⟨Nat.le_refl _, Nat.le_refl _⟩
  exact wp_run C hS hl hr k
end HeapRules
end
section
-- last
theorem zz_last : True := trivial
end
