theorem tw_0 : Cond.selects "BetweenCounts$Big" ⟨"BetweenCounts$Big", "append", "(J)V"⟩ ⟨"BetweenCounts$Big", "append", "(J)V"⟩ ∈ TS := TS_in (List.mem_of_getElem? (i := 0) (by decide +kernel)) rfl
theorem tw_1 : Cond.selects "BetweenCounts" ⟨"BetweenCounts", "forgetNetwork", "()V"⟩ ⟨"BetweenCounts", "forgetNetwork", "()V"⟩ ∈ TS := TS_in (List.mem_of_getElem? (i := 1) (by decide +kernel)) rfl
theorem tw_2 : Cond.selects "BetweenCounts" ⟨"BetweenCounts", "forgetChoice", "()V"⟩ ⟨"BetweenCounts", "forgetChoice", "()V"⟩ ∈ TS := TS_in (List.mem_of_getElem? (i := 2) (by decide +kernel)) rfl
theorem tw_3 : Cond.selects "BetweenCounts$WayTable" ⟨"BetweenCounts$WayTable", "spreadFrom", "(I[I[I)V"⟩ ⟨"BetweenCounts$WayTable", "spreadFrom", "(I[I[I)V"⟩ ∈ TS := TS_in (List.mem_of_getElem? (i := 3) (by decide +kernel)) rfl
theorem tw_4 : Cond.selects "BetweenCounts$WayTable" ⟨"BetweenCounts$WayTable", "nearestLeft", "([I)I"⟩ ⟨"BetweenCounts$WayTable", "nearestLeft", "([I)I"⟩ ∈ TS := TS_in (List.mem_of_getElem? (i := 4) (by decide +kernel)) rfl
theorem tw_5 : Cond.selects "BetweenCounts$WayTable" ⟨"BetweenCounts$WayTable", "goBy", "(I[I[I)V"⟩ ⟨"BetweenCounts$WayTable", "goBy", "(I[I[I)V"⟩ ∈ TS := TS_in (List.mem_of_getElem? (i := 5) (by decide +kernel)) rfl
theorem tw_6 : Cond.selects "BetweenCounts" ⟨"BetweenCounts", "isPair", "(II)Z"⟩ ⟨"BetweenCounts", "isPair", "(II)Z"⟩ ∈ TS := TS_in (List.mem_of_getElem? (i := 6) (by decide +kernel)) rfl
theorem tw_7 : Cond.selects "BetweenCounts" ⟨"BetweenCounts", "needBetween", "(I)V"⟩ ⟨"BetweenCounts", "needBetween", "(I)V"⟩ ∈ TS := TS_in (List.mem_of_getElem? (i := 7) (by decide +kernel)) rfl
theorem tw_8 : Cond.selects "BetweenCounts$Big" ⟨"BetweenCounts$Big", "carryFrom", "(IJ)V"⟩ ⟨"BetweenCounts$Big", "carryFrom", "(IJ)V"⟩ ∈ TS := TS_in (List.mem_of_getElem? (i := 8) (by decide +kernel)) rfl
theorem tw_9 : Cond.selects "BetweenCounts" ⟨"BetweenCounts", "isNewQuestion", "(I)Z"⟩ ⟨"BetweenCounts", "isNewQuestion", "(I)Z"⟩ ∈ TS := TS_in (List.mem_of_getElem? (i := 9) (by decide +kernel)) rfl
theorem tw_10 : Cond.selects "BetweenCounts" ⟨"BetweenCounts", "sumArc", "(I)V"⟩ ⟨"BetweenCounts", "sumArc", "(I)V"⟩ ∈ TS := TS_in (List.mem_of_getElem? (i := 10) (by decide +kernel)) rfl
theorem tw_11 : Cond.selects "BetweenCounts" ⟨"BetweenCounts", "sumGroup", "()V"⟩ ⟨"BetweenCounts", "sumGroup", "()V"⟩ ∈ TS := TS_in (List.mem_of_getElem? (i := 11) (by decide +kernel)) rfl
theorem tw_12 : Cond.selects "BetweenCounts" ⟨"BetweenCounts", "countAround", "(II)I"⟩ ⟨"BetweenCounts", "countAround", "(II)I"⟩ ∈ TS := TS_in (List.mem_of_getElem? (i := 12) (by decide +kernel)) rfl
theorem tw_13 : Cond.selects "BetweenCounts" ⟨"BetweenCounts", "sumHarmonic", "(I)V"⟩ ⟨"BetweenCounts", "sumHarmonic", "(I)V"⟩ ∈ TS := TS_in (List.mem_of_getElem? (i := 13) (by decide +kernel)) rfl
theorem tw_14 : Cond.selects "BetweenCounts" ⟨"BetweenCounts", "sumClose", "(I)V"⟩ ⟨"BetweenCounts", "sumClose", "(I)V"⟩ ∈ TS := TS_in (List.mem_of_getElem? (i := 14) (by decide +kernel)) rfl
theorem tw_15 : Cond.selects "BetweenCounts$Ranking" ⟨"BetweenCounts$Ranking", "countAhead", "(I)V"⟩ ⟨"BetweenCounts$Ranking", "countAhead", "(I)V"⟩ ∈ TS := TS_in (List.mem_of_getElem? (i := 15) (by decide +kernel)) rfl
theorem tw_16 : Cond.selects "BetweenCounts$Ranking" ⟨"BetweenCounts$Ranking", "isLess", "(LBetweenCounts$Fraction;LBetweenCounts$Fraction;)Z"⟩ ⟨"BetweenCounts$Ranking", "isLess", "(LBetweenCounts$Fraction;LBetweenCounts$Fraction;)Z"⟩ ∈ TS := TS_in (List.mem_of_getElem? (i := 16) (by decide +kernel)) rfl
theorem tw_17 : Cond.selects "BetweenCounts$Flow" ⟨"BetweenCounts$Flow", "lowerGrounds", "()V"⟩ ⟨"BetweenCounts$Flow", "lowerGrounds", "()V"⟩ ∈ TS := TS_in (List.mem_of_getElem? (i := 17) (by decide +kernel)) rfl
theorem tw_18 : Cond.selects "BetweenCounts$Flow" ⟨"BetweenCounts$Flow", "isInner", "(II)Z"⟩ ⟨"BetweenCounts$Flow", "isInner", "(II)Z"⟩ ∈ TS := TS_in (List.mem_of_getElem? (i := 18) (by decide +kernel)) rfl
theorem tw_19 : Cond.selects "BetweenCounts$Flow" ⟨"BetweenCounts$Flow", "entryOf", "(II)LBetweenCounts$Big;"⟩ ⟨"BetweenCounts$Flow", "entryOf", "(II)LBetweenCounts$Big;"⟩ ∈ TS := TS_in (List.mem_of_getElem? (i := 19) (by decide +kernel)) rfl
theorem tw_20 : Cond.selects "BetweenCounts$Flow" ⟨"BetweenCounts$Flow", "startOf", "(II)I"⟩ ⟨"BetweenCounts$Flow", "startOf", "(II)I"⟩ ∈ TS := TS_in (List.mem_of_getElem? (i := 20) (by decide +kernel)) rfl
theorem tw_21 : Cond.selects "BetweenCounts$Flow" ⟨"BetweenCounts$Flow", "sweep", "(II)V"⟩ ⟨"BetweenCounts$Flow", "sweep", "(II)V"⟩ ∈ TS := TS_in (List.mem_of_getElem? (i := 21) (by decide +kernel)) rfl
theorem tw_22 : Cond.selects "BetweenCounts$Flow" ⟨"BetweenCounts$Flow", "sweepEntry", "(III)V"⟩ ⟨"BetweenCounts$Flow", "sweepEntry", "(III)V"⟩ ∈ TS := TS_in (List.mem_of_getElem? (i := 22) (by decide +kernel)) rfl
theorem tw_23 : Cond.selects "BetweenCounts$Divider" ⟨"BetweenCounts$Divider", "takeDigit", "(LBetweenCounts$Big;I)J"⟩ ⟨"BetweenCounts$Divider", "takeDigit", "(LBetweenCounts$Big;I)J"⟩ ∈ TS := TS_in (List.mem_of_getElem? (i := 23) (by decide +kernel)) rfl
theorem tw_24 : Cond.selects "BetweenCounts$Divider" ⟨"BetweenCounts$Divider", "guess", "(LBetweenCounts$Big;I)J"⟩ ⟨"BetweenCounts$Divider", "guess", "(LBetweenCounts$Big;I)J"⟩ ∈ TS := TS_in (List.mem_of_getElem? (i := 24) (by decide +kernel)) rfl
theorem tw_25 : Cond.selects "BetweenCounts$Divider" ⟨"BetweenCounts$Divider", "takeAway", "(LBetweenCounts$Big;IJ)J"⟩ ⟨"BetweenCounts$Divider", "takeAway", "(LBetweenCounts$Big;IJ)J"⟩ ∈ TS := TS_in (List.mem_of_getElem? (i := 25) (by decide +kernel)) rfl
theorem tw_26 : Cond.selects "BetweenCounts$Divider" ⟨"BetweenCounts$Divider", "putBack", "(LBetweenCounts$Big;I)V"⟩ ⟨"BetweenCounts$Divider", "putBack", "(LBetweenCounts$Big;I)V"⟩ ∈ TS := TS_in (List.mem_of_getElem? (i := 26) (by decide +kernel)) rfl
theorem tw_27 : Cond.selects "BetweenCounts$Flow" ⟨"BetweenCounts$Flow", "isOther", "(II)Z"⟩ ⟨"BetweenCounts$Flow", "isOther", "(II)Z"⟩ ∈ TS := TS_in (List.mem_of_getElem? (i := 27) (by decide +kernel)) rfl
theorem tw_28 : Cond.selects "BetweenCounts$Flow" ⟨"BetweenCounts$Flow", "addFlows", "(IIILBetweenCounts$Big;)V"⟩ ⟨"BetweenCounts$Flow", "addFlows", "(IIILBetweenCounts$Big;)V"⟩ ∈ TS := TS_in (List.mem_of_getElem? (i := 28) (by decide +kernel)) rfl
theorem tw_29 : Cond.selects "BetweenCounts$Flow" ⟨"BetweenCounts$Flow", "dropOf", "(IIII)LBetweenCounts$Big;"⟩ ⟨"BetweenCounts$Flow", "dropOf", "(IIII)LBetweenCounts$Big;"⟩ ∈ TS := TS_in (List.mem_of_getElem? (i := 29) (by decide +kernel)) rfl
theorem tw_30 : Cond.selects "BetweenCounts" ⟨"BetweenCounts", "countPairs", "()I"⟩ ⟨"BetweenCounts", "countPairs", "()I"⟩ ∈ TS := TS_in (List.mem_of_getElem? (i := 30) (by decide +kernel)) rfl
theorem tw_31 : Cond.selects "BetweenCounts" ⟨"BetweenCounts", "countGroup", "()I"⟩ ⟨"BetweenCounts", "countGroup", "()I"⟩ ∈ TS := TS_in (List.mem_of_getElem? (i := 31) (by decide +kernel)) rfl
theorem tw_32 : Cond.selects "BetweenCountsModel" ⟨"BetweenCountsModel", "isNode", "(I)Z"⟩ ⟨"BetweenCountsModel", "isNode", "(I)Z"⟩ ∈ TS := TS_in (List.mem_of_getElem? (i := 32) (by decide +kernel)) rfl
theorem tw_33 : Cond.selects "BetweenCountsModel" ⟨"BetweenCountsModel", "isArc", "(I)Z"⟩ ⟨"BetweenCountsModel", "isArc", "(I)Z"⟩ ∈ TS := TS_in (List.mem_of_getElem? (i := 33) (by decide +kernel)) rfl
theorem tw_34 : Cond.selects "BetweenCountsModel" ⟨"BetweenCountsModel", "isChosen", "(II)Z"⟩ ⟨"BetweenCountsModel", "isChosen", "(II)Z"⟩ ∈ TS := TS_in (List.mem_of_getElem? (i := 34) (by decide +kernel)) rfl
theorem tw_35 : Cond.selects "BetweenCountsModel" ⟨"BetweenCountsModel", "lengths", "()V"⟩ ⟨"BetweenCountsModel", "lengths", "()V"⟩ ∈ TS := TS_in (List.mem_of_getElem? (i := 35) (by decide +kernel)) rfl
theorem tw_36 : Cond.selects "BetweenCountsModel" ⟨"BetweenCountsModel", "cell", "(II)I"⟩ ⟨"BetweenCountsModel", "cell", "(II)I"⟩ ∈ TS := TS_in (List.mem_of_getElem? (i := 36) (by decide +kernel)) rfl
theorem tw_37 : Cond.selects "BetweenCountsModel" ⟨"BetweenCountsModel", "countAll", "(Z)V"⟩ ⟨"BetweenCountsModel", "countAll", "(Z)V"⟩ ∈ TS := TS_in (List.mem_of_getElem? (i := 37) (by decide +kernel)) rfl
theorem tw_38 : Cond.selects "BetweenCountsModel" ⟨"BetweenCountsModel", "intoNode", "(IIZ)J"⟩ ⟨"BetweenCountsModel", "intoNode", "(IIZ)J"⟩ ∈ TS := TS_in (List.mem_of_getElem? (i := 38) (by decide +kernel)) rfl
theorem tw_39 : Cond.selects "BetweenCountsModel" ⟨"BetweenCountsModel", "isPair", "(II)Z"⟩ ⟨"BetweenCountsModel", "isPair", "(II)Z"⟩ ∈ TS := TS_in (List.mem_of_getElem? (i := 39) (by decide +kernel)) rfl
theorem tw_40 : Cond.selects "BetweenCountsModel" ⟨"BetweenCountsModel", "through", "(III)J"⟩ ⟨"BetweenCountsModel", "through", "(III)J"⟩ ∈ TS := TS_in (List.mem_of_getElem? (i := 40) (by decide +kernel)) rfl
theorem tw_41 : Cond.selects "BetweenCountsModel" ⟨"BetweenCountsModel", "isOther", "(III)Z"⟩ ⟨"BetweenCountsModel", "isOther", "(III)Z"⟩ ∈ TS := TS_in (List.mem_of_getElem? (i := 41) (by decide +kernel)) rfl
theorem tw_42 : Cond.selects "BetweenCountsModel" ⟨"BetweenCountsModel", "addBetween", "(I)V"⟩ ⟨"BetweenCountsModel", "addBetween", "(I)V"⟩ ∈ TS := TS_in (List.mem_of_getElem? (i := 42) (by decide +kernel)) rfl
theorem tw_43 : Cond.selects "BetweenCountsModel" ⟨"BetweenCountsModel", "nothing", "()V"⟩ ⟨"BetweenCountsModel", "nothing", "()V"⟩ ∈ TS := TS_in (List.mem_of_getElem? (i := 43) (by decide +kernel)) rfl
theorem tw_44 : Cond.selects "BetweenCountsModel" ⟨"BetweenCountsModel", "more", "(JJ)V"⟩ ⟨"BetweenCountsModel", "more", "(JJ)V"⟩ ∈ TS := TS_in (List.mem_of_getElem? (i := 44) (by decide +kernel)) rfl
theorem tw_45 : Cond.selects "BetweenCountsModel" ⟨"BetweenCountsModel", "rest", "([JJ)J"⟩ ⟨"BetweenCountsModel", "rest", "([JJ)J"⟩ ∈ TS := TS_in (List.mem_of_getElem? (i := 45) (by decide +kernel)) rfl
theorem tw_46 : Cond.selects "BetweenCountsModel" ⟨"BetweenCountsModel", "copy", "([J[J)V"⟩ ⟨"BetweenCountsModel", "copy", "([J[J)V"⟩ ∈ TS := TS_in (List.mem_of_getElem? (i := 46) (by decide +kernel)) rfl
theorem tw_47 : Cond.selects "BetweenCountsModel" ⟨"BetweenCountsModel", "by", "([JJ)J"⟩ ⟨"BetweenCountsModel", "by", "([JJ)J"⟩ ∈ TS := TS_in (List.mem_of_getElem? (i := 47) (by decide +kernel)) rfl
theorem tw_48 : Cond.selects "BetweenCountsModel" ⟨"BetweenCountsModel", "times", "([JJ)V"⟩ ⟨"BetweenCountsModel", "times", "([JJ)V"⟩ ∈ TS := TS_in (List.mem_of_getElem? (i := 48) (by decide +kernel)) rfl
theorem tw_49 : Cond.selects "BetweenCountsModel" ⟨"BetweenCountsModel", "add", "([J[J)V"⟩ ⟨"BetweenCountsModel", "add", "([J[J)V"⟩ ∈ TS := TS_in (List.mem_of_getElem? (i := 49) (by decide +kernel)) rfl
theorem tw_50 : Cond.selects "BetweenCountsModel" ⟨"BetweenCountsModel", "isZero", "([J)Z"⟩ ⟨"BetweenCountsModel", "isZero", "([J)Z"⟩ ∈ TS := TS_in (List.mem_of_getElem? (i := 50) (by decide +kernel)) rfl
theorem tw_51 : Cond.selects "BetweenCountsModel" ⟨"BetweenCountsModel", "told", "(II)J"⟩ ⟨"BetweenCountsModel", "told", "(II)J"⟩ ∈ TS := TS_in (List.mem_of_getElem? (i := 51) (by decide +kernel)) rfl
theorem tw_52 : Cond.selects "BetweenCountsModel" ⟨"BetweenCountsModel", "isGreater", "(II)Z"⟩ ⟨"BetweenCountsModel", "isGreater", "(II)Z"⟩ ∈ TS := TS_in (List.mem_of_getElem? (i := 52) (by decide +kernel)) rfl
theorem tw_53 : Cond.selects "BetweenCountsModel" ⟨"BetweenCountsModel", "product", "([J[JI[JI)V"⟩ ⟨"BetweenCountsModel", "product", "([J[JI[JI)V"⟩ ∈ TS := TS_in (List.mem_of_getElem? (i := 53) (by decide +kernel)) rfl
theorem tw_54 : Cond.selects "BetweenCountsModel" ⟨"BetweenCountsModel", "lookAtPiece", "(I)V"⟩ ⟨"BetweenCountsModel", "lookAtPiece", "(I)V"⟩ ∈ TS := TS_in (List.mem_of_getElem? (i := 54) (by decide +kernel)) rfl
theorem tw_55 : Cond.selects "BetweenCountsModel" ⟨"BetweenCountsModel", "invert", "(IJ)Z"⟩ ⟨"BetweenCountsModel", "invert", "(IJ)Z"⟩ ∈ TS := TS_in (List.mem_of_getElem? (i := 55) (by decide +kernel)) rfl
theorem tw_56 : Cond.selects "BetweenCountsModel" ⟨"BetweenCountsModel", "begin", "()V"⟩ ⟨"BetweenCountsModel", "begin", "()V"⟩ ∈ TS := TS_in (List.mem_of_getElem? (i := 56) (by decide +kernel)) rfl
theorem tw_57 : Cond.selects "BetweenCountsModel" ⟨"BetweenCountsModel", "potential", "(III)J"⟩ ⟨"BetweenCountsModel", "potential", "(III)J"⟩ ∈ TS := TS_in (List.mem_of_getElem? (i := 57) (by decide +kernel)) rfl
theorem tw_58 : Cond.selects "BetweenCountsModel" ⟨"BetweenCountsModel", "whole", "([J)V"⟩ ⟨"BetweenCountsModel", "whole", "([J)V"⟩ ∈ TS := TS_in (List.mem_of_getElem? (i := 58) (by decide +kernel)) rfl
theorem tw_59 : Cond.selects "BetweenCountsModel" ⟨"BetweenCountsModel", "less", "([J[J)V"⟩ ⟨"BetweenCountsModel", "less", "([J[J)V"⟩ ∈ TS := TS_in (List.mem_of_getElem? (i := 59) (by decide +kernel)) rfl
theorem tw_60 : Cond.selects "BetweenCountsModel" ⟨"BetweenCountsModel", "compare", "([J[J)I"⟩ ⟨"BetweenCountsModel", "compare", "([J[J)I"⟩ ∈ TS := TS_in (List.mem_of_getElem? (i := 60) (by decide +kernel)) rfl
theorem tw_61 : Cond.selects "BetweenCountsModel" ⟨"BetweenCountsModel", "treesOf", "([J)V"⟩ ⟨"BetweenCountsModel", "treesOf", "([J)V"⟩ ∈ TS := TS_in (List.mem_of_getElem? (i := 61) (by decide +kernel)) rfl
theorem tw_62 : Cond.selects "BetweenCountsModel" ⟨"BetweenCountsModel", "lowest", "()V"⟩ ⟨"BetweenCountsModel", "lowest", "()V"⟩ ∈ TS := TS_in (List.mem_of_getElem? (i := 62) (by decide +kernel)) rfl
theorem tw_63 : Cond.selects "BetweenCountsModel" ⟨"BetweenCountsModel", "half", "([J)V"⟩ ⟨"BetweenCountsModel", "half", "([J)V"⟩ ∈ TS := TS_in (List.mem_of_getElem? (i := 63) (by decide +kernel)) rfl
theorem tw_64 : Cond.selects "BetweenCountsModel" ⟨"BetweenCountsModel", "divide", "([J)V"⟩ ⟨"BetweenCountsModel", "divide", "([J)V"⟩ ∈ TS := TS_in (List.mem_of_getElem? (i := 64) (by decide +kernel)) rfl
theorem tw_65 : Cond.selects "BetweenCountsModel" ⟨"BetweenCountsModel", "addFlow", "(III)V"⟩ ⟨"BetweenCountsModel", "addFlow", "(III)V"⟩ ∈ TS := TS_in (List.mem_of_getElem? (i := 65) (by decide +kernel)) rfl
theorem tw_66 : (Jvm.Cond.initialized "BetweenCountsLaw") ∈ TS := TS_in (List.mem_of_getElem? (i := 66) (by decide +kernel)) rfl
theorem tw_67 : (Jvm.Cond.initialized "BetweenCounts") ∈ TS := TS_in (List.mem_of_getElem? (i := 67) (by decide +kernel)) rfl
theorem tw_68 : (Jvm.Cond.initialized "BetweenCounts$Net") ∈ TS := TS_in (List.mem_of_getElem? (i := 68) (by decide +kernel)) rfl
theorem tw_69 : (Jvm.Cond.initialized "BetweenCounts$WayTable") ∈ TS := TS_in (List.mem_of_getElem? (i := 69) (by decide +kernel)) rfl
theorem tw_70 : (Jvm.Cond.initialized "BetweenCounts$Flow") ∈ TS := TS_in (List.mem_of_getElem? (i := 70) (by decide +kernel)) rfl
theorem tw_71 : (Jvm.Cond.initialized "BetweenCounts$Big") ∈ TS := TS_in (List.mem_of_getElem? (i := 71) (by decide +kernel)) rfl
theorem tw_72 : (Jvm.Cond.initialized "java/lang/Math") ∈ TS := TS_in (List.mem_of_getElem? (i := 72) (by decide +kernel)) rfl
theorem tw_73 : (Jvm.Cond.initialized "BetweenCounts$Divider") ∈ TS := TS_in (List.mem_of_getElem? (i := 73) (by decide +kernel)) rfl
theorem tw_74 : (Jvm.Cond.initialized "BetweenCounts$Ranking") ∈ TS := TS_in (List.mem_of_getElem? (i := 74) (by decide +kernel)) rfl
theorem tw_75 : (Jvm.Cond.initialized "BetweenCounts$Fraction") ∈ TS := TS_in (List.mem_of_getElem? (i := 75) (by decide +kernel)) rfl
theorem tw_76 : (Jvm.Cond.initialized "BetweenCountsModel") ∈ TS := TS_in (List.mem_of_getElem? (i := 76) (by decide +kernel)) rfl
theorem tw_77 : (Jvm.Cond.initialized "java/util/Arrays") ∈ TS := TS_in (List.mem_of_getElem? (i := 77) (by decide +kernel)) rfl
theorem tw_78 : (Jvm.Cond.initialized "java/lang/System") ∈ TS := TS_in (List.mem_of_getElem? (i := 78) (by decide +kernel)) rfl
theorem tw_79 : (Jvm.Cond.classLink "BetweenCountsLaw" (7 : Nat) "BetweenCounts") ∈ TS := TS_in (List.mem_of_getElem? (i := 79) (by decide +kernel)) rfl
theorem tw_80 : (Jvm.Cond.instantiable "BetweenCounts" (10 : Nat)) ∈ TS := TS_in (List.mem_of_getElem? (i := 80) (by decide +kernel)) rfl
theorem tw_81 : (Jvm.Cond.methodLink "BetweenCountsLaw" (9 : Nat) ({ cls := "BetweenCounts", name := "<init>", desc := "()V" } : Jvm.MethodName)) ∈ TS := TS_in (List.mem_of_getElem? (i := 81) (by decide +kernel)) rfl
theorem tw_82 : (Jvm.Cond.instanceMethod ({ cls := "BetweenCounts", name := "<init>", desc := "()V" } : Jvm.MethodName)) ∈ TS := TS_in (List.mem_of_getElem? (i := 82) (by decide +kernel)) rfl
set_option maxRecDepth 20000 in
theorem tw_83 : (Jvm.Cond.code ({ cls := "BetweenCounts", name := "<init>", desc := "()V" } : Jvm.MethodName) prog_1_method_1_code (2 : Nat) (Option.none : Option Jvm.ClassFile.FieldType)) ∈ TS := TS_in (List.mem_of_getElem? (i := 83) rfl) rfl
theorem tw_84 : (Jvm.Cond.methodLink "BetweenCounts" (3 : Nat) ({ cls := "java/lang/Object", name := "<init>", desc := "()V" } : Jvm.MethodName)) ∈ TS := TS_in (List.mem_of_getElem? (i := 84) (by decide +kernel)) rfl
theorem tw_85 : (Jvm.Cond.instanceMethod ({ cls := "java/lang/Object", name := "<init>", desc := "()V" } : Jvm.MethodName)) ∈ TS := TS_in (List.mem_of_getElem? (i := 85) (by decide +kernel)) rfl
set_option maxRecDepth 20000 in
theorem tw_86 : (Jvm.Cond.code ({ cls := "java/lang/Object", name := "<init>", desc := "()V" } : Jvm.MethodName) object_method_1_code (1 : Nat) (Option.none : Option Jvm.ClassFile.FieldType)) ∈ TS := TS_in (List.mem_of_getElem? (i := 86) rfl) rfl
theorem tw_87 : (Jvm.Cond.classLink "BetweenCounts" (9 : Nat) "BetweenCounts$Net") ∈ TS := TS_in (List.mem_of_getElem? (i := 87) (by decide +kernel)) rfl
theorem tw_88 : (Jvm.Cond.instantiable "BetweenCounts$Net" (5 : Nat)) ∈ TS := TS_in (List.mem_of_getElem? (i := 88) (by decide +kernel)) rfl
theorem tw_89 : (Jvm.Cond.methodLinkNest "BetweenCounts" (11 : Nat) ({ cls := "BetweenCounts$Net", name := "<init>", desc := "()V" } : Jvm.MethodName) "BetweenCounts") ∈ lw_tbl := List.mem_of_getElem? (i := 89) (by decide +kernel)
theorem tw_90 : (Jvm.Cond.instanceMethod ({ cls := "BetweenCounts$Net", name := "<init>", desc := "()V" } : Jvm.MethodName)) ∈ TS := TS_in (List.mem_of_getElem? (i := 90) (by decide +kernel)) rfl
set_option maxRecDepth 20000 in
theorem tw_91 : (Jvm.Cond.code ({ cls := "BetweenCounts$Net", name := "<init>", desc := "()V" } : Jvm.MethodName) prog_6_method_1_code (1 : Nat) (Option.none : Option Jvm.ClassFile.FieldType)) ∈ TS := TS_in (List.mem_of_getElem? (i := 91) rfl) rfl
theorem tw_92 : (Jvm.Cond.methodLink "BetweenCounts$Net" (3 : Nat) ({ cls := "java/lang/Object", name := "<init>", desc := "()V" } : Jvm.MethodName)) ∈ TS := TS_in (List.mem_of_getElem? (i := 92) (by decide +kernel)) rfl
theorem tw_93 : (Jvm.Cond.fieldLink "BetweenCounts$Net" (9 : Nat) "BetweenCounts$Net" "nodes" "I") ∈ TS := TS_in (List.mem_of_getElem? (i := 93) (by decide +kernel)) rfl
theorem tw_94 : (Jvm.Cond.fieldLink "BetweenCounts$WayTable" (34 : Nat) "BetweenCounts$Net" "nodes" "I") ∈ TS := TS_in (List.mem_of_getElem? (i := 94) (by decide +kernel)) rfl
theorem tw_95 : (Jvm.Cond.fieldLink "BetweenCounts$Flow" (61 : Nat) "BetweenCounts$Net" "nodes" "I") ∈ TS := TS_in (List.mem_of_getElem? (i := 95) (by decide +kernel)) rfl
theorem tw_96 : (Jvm.Cond.fieldLink "BetweenCounts" (105 : Nat) "BetweenCounts$Net" "nodes" "I") ∈ TS := TS_in (List.mem_of_getElem? (i := 96) (by decide +kernel)) rfl
theorem tw_97 : (Jvm.Cond.fieldLink "BetweenCounts$Net" (15 : Nat) "BetweenCounts$Net" "arcs" "I") ∈ TS := TS_in (List.mem_of_getElem? (i := 97) (by decide +kernel)) rfl
theorem tw_98 : (Jvm.Cond.fieldLink "BetweenCounts$Flow" (72 : Nat) "BetweenCounts$Net" "arcs" "I") ∈ TS := TS_in (List.mem_of_getElem? (i := 98) (by decide +kernel)) rfl
theorem tw_99 : (Jvm.Cond.fieldLink "BetweenCounts$WayTable" (54 : Nat) "BetweenCounts$Net" "arcs" "I") ∈ TS := TS_in (List.mem_of_getElem? (i := 99) (by decide +kernel)) rfl
theorem tw_100 : (Jvm.Cond.fieldLink "BetweenCounts" (164 : Nat) "BetweenCounts$Net" "arcs" "I") ∈ TS := TS_in (List.mem_of_getElem? (i := 100) (by decide +kernel)) rfl
theorem tw_101 : (Jvm.Cond.fieldLink "BetweenCounts$Net" (18 : Nat) "BetweenCounts$Net" "from" "[I") ∈ TS := TS_in (List.mem_of_getElem? (i := 101) (by decide +kernel)) rfl
theorem tw_102 : (Jvm.Cond.fieldLink "BetweenCounts$Flow" (75 : Nat) "BetweenCounts$Net" "from" "[I") ∈ TS := TS_in (List.mem_of_getElem? (i := 102) (by decide +kernel)) rfl
theorem tw_103 : (Jvm.Cond.fieldLink "BetweenCounts$WayTable" (57 : Nat) "BetweenCounts$Net" "from" "[I") ∈ TS := TS_in (List.mem_of_getElem? (i := 103) (by decide +kernel)) rfl
theorem tw_104 : (Jvm.Cond.fieldLink "BetweenCounts$Net" (22 : Nat) "BetweenCounts$Net" "to" "[I") ∈ TS := TS_in (List.mem_of_getElem? (i := 104) (by decide +kernel)) rfl
theorem tw_105 : (Jvm.Cond.fieldLink "BetweenCounts$Flow" (78 : Nat) "BetweenCounts$Net" "to" "[I") ∈ TS := TS_in (List.mem_of_getElem? (i := 105) (by decide +kernel)) rfl
theorem tw_106 : (Jvm.Cond.fieldLink "BetweenCounts$WayTable" (64 : Nat) "BetweenCounts$Net" "to" "[I") ∈ TS := TS_in (List.mem_of_getElem? (i := 106) (by decide +kernel)) rfl
theorem tw_107 : (Jvm.Cond.fieldLink "BetweenCounts$Net" (25 : Nat) "BetweenCounts$Net" "weight" "[I") ∈ TS := TS_in (List.mem_of_getElem? (i := 107) (by decide +kernel)) rfl
theorem tw_108 : (Jvm.Cond.fieldLink "BetweenCounts$Flow" (81 : Nat) "BetweenCounts$Net" "weight" "[I") ∈ TS := TS_in (List.mem_of_getElem? (i := 108) (by decide +kernel)) rfl
theorem tw_109 : (Jvm.Cond.fieldLink "BetweenCounts" (83 : Nat) "BetweenCounts$Net" "weight" "[I") ∈ TS := TS_in (List.mem_of_getElem? (i := 109) (by decide +kernel)) rfl
theorem tw_110 : (Jvm.Cond.fieldLink "BetweenCounts$WayTable" (61 : Nat) "BetweenCounts$Net" "weight" "[I") ∈ TS := TS_in (List.mem_of_getElem? (i := 110) (by decide +kernel)) rfl
theorem tw_122 : (Jvm.Cond.arrayClass Jvm.ClassFile.FieldType.int) ∈ TS := TS_in (List.mem_of_getElem? (i := 122) (by decide +kernel)) rfl
theorem tw_123 : (Jvm.Cond.classLink "BetweenCounts" (26 : Nat) "BetweenCounts$WayTable") ∈ TS := TS_in (List.mem_of_getElem? (i := 123) (by decide +kernel)) rfl
theorem tw_124 : (Jvm.Cond.instantiable "BetweenCounts$WayTable" (6 : Nat)) ∈ TS := TS_in (List.mem_of_getElem? (i := 124) (by decide +kernel)) rfl
theorem tw_125 : (Jvm.Cond.methodLink "BetweenCounts" (28 : Nat) ({ cls := "BetweenCounts$WayTable", name := "<init>", desc := "(LBetweenCounts$Net;[Z)V" } : Jvm.MethodName)) ∈ TS := TS_in (List.mem_of_getElem? (i := 125) (by decide +kernel)) rfl
theorem tw_126 : (Jvm.Cond.instanceMethod ({ cls := "BetweenCounts$WayTable", name := "<init>", desc := "(LBetweenCounts$Net;[Z)V" } : Jvm.MethodName)) ∈ TS := TS_in (List.mem_of_getElem? (i := 126) (by decide +kernel)) rfl
set_option maxRecDepth 20000 in
theorem tw_127 : (Jvm.Cond.code ({ cls := "BetweenCounts$WayTable", name := "<init>", desc := "(LBetweenCounts$Net;[Z)V" } : Jvm.MethodName) prog_8_method_1_code (3 : Nat) (Option.none : Option Jvm.ClassFile.FieldType)) ∈ TS := TS_in (List.mem_of_getElem? (i := 127) rfl) rfl
theorem tw_128 : (Jvm.Cond.methodLink "BetweenCounts$WayTable" (3 : Nat) ({ cls := "java/lang/Object", name := "<init>", desc := "()V" } : Jvm.MethodName)) ∈ TS := TS_in (List.mem_of_getElem? (i := 128) (by decide +kernel)) rfl
theorem tw_129 : (Jvm.Cond.classLink "BetweenCounts$WayTable" (9 : Nat) "[[I") ∈ TS := TS_in (List.mem_of_getElem? (i := 129) (by decide +kernel)) rfl
theorem tw_130 : (Jvm.Cond.arrayOver (Jvm.ClassFile.FieldType.array Jvm.ClassFile.FieldType.int)) ∈ lw_tbl := List.mem_of_getElem? (i := 130) (by decide +kernel)
theorem tw_131 : (Jvm.Cond.fieldLink "BetweenCounts$WayTable" (11 : Nat) "BetweenCounts$WayTable" "length" "[[I") ∈ TS := TS_in (List.mem_of_getElem? (i := 131) (by decide +kernel)) rfl
theorem tw_132 : (Jvm.Cond.fieldLink "BetweenCounts" (96 : Nat) "BetweenCounts$WayTable" "length" "[[I") ∈ TS := TS_in (List.mem_of_getElem? (i := 132) (by decide +kernel)) rfl
theorem tw_133 : (Jvm.Cond.fieldLink "BetweenCounts$WayTable" (16 : Nat) "BetweenCounts$WayTable" "count" "[[I") ∈ TS := TS_in (List.mem_of_getElem? (i := 133) (by decide +kernel)) rfl
theorem tw_134 : (Jvm.Cond.fieldLink "BetweenCounts" (100 : Nat) "BetweenCounts$WayTable" "count" "[[I") ∈ TS := TS_in (List.mem_of_getElem? (i := 134) (by decide +kernel)) rfl
theorem tw_135 : (Jvm.Cond.fieldLink "BetweenCounts$WayTable" (27 : Nat) "BetweenCounts$WayTable" "net" "LBetweenCounts$Net;") ∈ TS := TS_in (List.mem_of_getElem? (i := 135) (by decide +kernel)) rfl
theorem tw_136 : (Jvm.Cond.fieldLink "BetweenCounts$WayTable" (31 : Nat) "BetweenCounts$WayTable" "shut" "[Z") ∈ TS := TS_in (List.mem_of_getElem? (i := 136) (by decide +kernel)) rfl
theorem tw_137 : (Jvm.Cond.fieldLink "BetweenCounts$WayTable" (19 : Nat) "BetweenCounts$WayTable" "done" "[Z") ∈ TS := TS_in (List.mem_of_getElem? (i := 137) (by decide +kernel)) rfl
theorem tw_138 : (Jvm.Cond.fieldLink "BetweenCounts$WayTable" (23 : Nat) "BetweenCounts$WayTable" "fresh" "Z") ∈ TS := TS_in (List.mem_of_getElem? (i := 138) (by decide +kernel)) rfl
theorem tw_152 : (Jvm.Cond.arrayClass Jvm.ClassFile.FieldType.boolean) ∈ TS := TS_in (List.mem_of_getElem? (i := 152) (by decide +kernel)) rfl
theorem tw_153 : (Jvm.Cond.classLink "BetweenCounts" (38 : Nat) "BetweenCounts$Flow") ∈ TS := TS_in (List.mem_of_getElem? (i := 153) (by decide +kernel)) rfl
theorem tw_154 : (Jvm.Cond.instantiable "BetweenCounts$Flow" (11 : Nat)) ∈ TS := TS_in (List.mem_of_getElem? (i := 154) (by decide +kernel)) rfl
theorem tw_155 : (Jvm.Cond.methodLink "BetweenCounts" (40 : Nat) ({ cls := "BetweenCounts$Flow", name := "<init>", desc := "(LBetweenCounts$Net;)V" } : Jvm.MethodName)) ∈ TS := TS_in (List.mem_of_getElem? (i := 155) (by decide +kernel)) rfl
theorem tw_156 : (Jvm.Cond.instanceMethod ({ cls := "BetweenCounts$Flow", name := "<init>", desc := "(LBetweenCounts$Net;)V" } : Jvm.MethodName)) ∈ TS := TS_in (List.mem_of_getElem? (i := 156) (by decide +kernel)) rfl
set_option maxRecDepth 20000 in
theorem tw_157 : (Jvm.Cond.code ({ cls := "BetweenCounts$Flow", name := "<init>", desc := "(LBetweenCounts$Net;)V" } : Jvm.MethodName) prog_4_method_1_code (5 : Nat) (Option.none : Option Jvm.ClassFile.FieldType)) ∈ TS := TS_in (List.mem_of_getElem? (i := 157) rfl) rfl
theorem tw_158 : (Jvm.Cond.methodLink "BetweenCounts$Flow" (3 : Nat) ({ cls := "java/lang/Object", name := "<init>", desc := "()V" } : Jvm.MethodName)) ∈ TS := TS_in (List.mem_of_getElem? (i := 158) (by decide +kernel)) rfl
theorem tw_159 : (Jvm.Cond.classLink "BetweenCounts$Flow" (15 : Nat) "[[I") ∈ TS := TS_in (List.mem_of_getElem? (i := 159) (by decide +kernel)) rfl
theorem tw_160 : (Jvm.Cond.classLink "BetweenCounts$Flow" (20 : Nat) "BetweenCounts$Big") ∈ TS := TS_in (List.mem_of_getElem? (i := 160) (by decide +kernel)) rfl
theorem tw_161 : (Jvm.Cond.arrayOver (Jvm.ClassFile.FieldType.object "BetweenCounts$Big")) ∈ lw_tbl := List.mem_of_getElem? (i := 161) (by decide +kernel)
theorem tw_162 : (Jvm.Cond.instantiable "BetweenCounts$Big" (2 : Nat)) ∈ TS := TS_in (List.mem_of_getElem? (i := 162) (by decide +kernel)) rfl
theorem tw_163 : (Jvm.Cond.methodLink "BetweenCounts$Flow" (26 : Nat) ({ cls := "BetweenCounts$Big", name := "<init>", desc := "(I)V" } : Jvm.MethodName)) ∈ TS := TS_in (List.mem_of_getElem? (i := 163) (by decide +kernel)) rfl
theorem tw_164 : (Jvm.Cond.instanceMethod ({ cls := "BetweenCounts$Big", name := "<init>", desc := "(I)V" } : Jvm.MethodName)) ∈ TS := TS_in (List.mem_of_getElem? (i := 164) (by decide +kernel)) rfl
set_option maxRecDepth 20000 in
theorem tw_165 : (Jvm.Cond.code ({ cls := "BetweenCounts$Big", name := "<init>", desc := "(I)V" } : Jvm.MethodName) prog_2_method_1_code (2 : Nat) (Option.none : Option Jvm.ClassFile.FieldType)) ∈ TS := TS_in (List.mem_of_getElem? (i := 165) rfl) rfl
theorem tw_166 : (Jvm.Cond.methodLink "BetweenCounts$Big" (3 : Nat) ({ cls := "java/lang/Object", name := "<init>", desc := "()V" } : Jvm.MethodName)) ∈ TS := TS_in (List.mem_of_getElem? (i := 166) (by decide +kernel)) rfl
theorem tw_167 : (Jvm.Cond.methodLink "BetweenCounts$Big" (15 : Nat) ({ cls := "java/lang/Math", name := "max", desc := "(II)I" } : Jvm.MethodName)) ∈ TS := TS_in (List.mem_of_getElem? (i := 167) (by decide +kernel)) rfl
theorem tw_168 : (Jvm.Cond.static ({ cls := "java/lang/Math", name := "max", desc := "(II)I" } : Jvm.MethodName)) ∈ TS := TS_in (List.mem_of_getElem? (i := 168) (by decide +kernel)) rfl
set_option maxRecDepth 20000 in
theorem tw_169 : (Jvm.Cond.code ({ cls := "java/lang/Math", name := "max", desc := "(II)I" } : Jvm.MethodName) prog_11_method_65_code (2 : Nat) (Option.some Jvm.ClassFile.FieldType.int)) ∈ TS := TS_in (List.mem_of_getElem? (i := 169) rfl) rfl
theorem tw_170 : (Jvm.Cond.fieldLink "BetweenCounts$Big" (21 : Nat) "BetweenCounts$Big" "digit" "[J") ∈ TS := TS_in (List.mem_of_getElem? (i := 170) (by decide +kernel)) rfl
theorem tw_171 : (Jvm.Cond.fieldLink "BetweenCounts$Divider" (45 : Nat) "BetweenCounts$Big" "digit" "[J") ∈ TS := TS_in (List.mem_of_getElem? (i := 171) (by decide +kernel)) rfl
theorem tw_172 : (Jvm.Cond.fieldLink "BetweenCounts$Big" (9 : Nat) "BetweenCounts$Big" "size" "I") ∈ TS := TS_in (List.mem_of_getElem? (i := 172) (by decide +kernel)) rfl
theorem tw_173 : (Jvm.Cond.fieldLink "BetweenCounts$Divider" (33 : Nat) "BetweenCounts$Big" "size" "I") ∈ TS := TS_in (List.mem_of_getElem? (i := 173) (by decide +kernel)) rfl
theorem tw_179 : (Jvm.Cond.arrayClass Jvm.ClassFile.FieldType.long) ∈ TS := TS_in (List.mem_of_getElem? (i := 179) (by decide +kernel)) rfl
theorem tw_180 : (Jvm.Cond.classLink "BetweenCounts$Flow" (42 : Nat) "BetweenCounts$Divider") ∈ TS := TS_in (List.mem_of_getElem? (i := 180) (by decide +kernel)) rfl
theorem tw_181 : (Jvm.Cond.instantiable "BetweenCounts$Divider" (4 : Nat)) ∈ TS := TS_in (List.mem_of_getElem? (i := 181) (by decide +kernel)) rfl
theorem tw_182 : (Jvm.Cond.methodLinkNest "BetweenCounts$Flow" (44 : Nat) ({ cls := "BetweenCounts$Divider", name := "<init>", desc := "()V" } : Jvm.MethodName) "BetweenCounts") ∈ lw_tbl := List.mem_of_getElem? (i := 182) (by decide +kernel)
theorem tw_183 : (Jvm.Cond.instanceMethod ({ cls := "BetweenCounts$Divider", name := "<init>", desc := "()V" } : Jvm.MethodName)) ∈ TS := TS_in (List.mem_of_getElem? (i := 183) (by decide +kernel)) rfl
set_option maxRecDepth 20000 in
theorem tw_184 : (Jvm.Cond.code ({ cls := "BetweenCounts$Divider", name := "<init>", desc := "()V" } : Jvm.MethodName) prog_3_method_1_code (1 : Nat) (Option.none : Option Jvm.ClassFile.FieldType)) ∈ TS := TS_in (List.mem_of_getElem? (i := 184) rfl) rfl
theorem tw_185 : (Jvm.Cond.methodLink "BetweenCounts$Divider" (3 : Nat) ({ cls := "java/lang/Object", name := "<init>", desc := "()V" } : Jvm.MethodName)) ∈ TS := TS_in (List.mem_of_getElem? (i := 185) (by decide +kernel)) rfl
theorem tw_186 : (Jvm.Cond.classLink "BetweenCounts$Divider" (9 : Nat) "BetweenCounts$Big") ∈ TS := TS_in (List.mem_of_getElem? (i := 186) (by decide +kernel)) rfl
theorem tw_187 : (Jvm.Cond.methodLink "BetweenCounts$Divider" (11 : Nat) ({ cls := "BetweenCounts$Big", name := "<init>", desc := "(I)V" } : Jvm.MethodName)) ∈ TS := TS_in (List.mem_of_getElem? (i := 187) (by decide +kernel)) rfl
theorem tw_188 : (Jvm.Cond.fieldLink "BetweenCounts$Divider" (14 : Nat) "BetweenCounts$Divider" "quotient" "LBetweenCounts$Big;") ∈ TS := TS_in (List.mem_of_getElem? (i := 188) (by decide +kernel)) rfl
theorem tw_189 : (Jvm.Cond.fieldLink "BetweenCounts$Flow" (133 : Nat) "BetweenCounts$Divider" "quotient" "LBetweenCounts$Big;") ∈ TS := TS_in (List.mem_of_getElem? (i := 189) (by decide +kernel)) rfl
theorem tw_190 : (Jvm.Cond.fieldLink "BetweenCounts$Divider" (20 : Nat) "BetweenCounts$Divider" "scaled" "LBetweenCounts$Big;") ∈ TS := TS_in (List.mem_of_getElem? (i := 190) (by decide +kernel)) rfl
theorem tw_191 : (Jvm.Cond.fieldLink "BetweenCounts$Divider" (23 : Nat) "BetweenCounts$Divider" "left" "LBetweenCounts$Big;") ∈ TS := TS_in (List.mem_of_getElem? (i := 191) (by decide +kernel)) rfl
theorem tw_192 : (Jvm.Cond.fieldLink "BetweenCounts$Divider" (26 : Nat) "BetweenCounts$Divider" "right" "LBetweenCounts$Big;") ∈ TS := TS_in (List.mem_of_getElem? (i := 192) (by decide +kernel)) rfl
theorem tw_202 : (Jvm.Cond.fieldLink "BetweenCounts$Flow" (9 : Nat) "BetweenCounts$Flow" "ground" "[I") ∈ TS := TS_in (List.mem_of_getElem? (i := 202) (by decide +kernel)) rfl
theorem tw_203 : (Jvm.Cond.fieldLink "BetweenCounts" (150 : Nat) "BetweenCounts$Flow" "ground" "[I") ∈ TS := TS_in (List.mem_of_getElem? (i := 203) (by decide +kernel)) rfl
theorem tw_204 : (Jvm.Cond.fieldLink "BetweenCounts$Flow" (57 : Nat) "BetweenCounts$Flow" "net" "LBetweenCounts$Net;") ∈ TS := TS_in (List.mem_of_getElem? (i := 204) (by decide +kernel)) rfl
theorem tw_205 : (Jvm.Cond.fieldLink "BetweenCounts$Flow" (17 : Nat) "BetweenCounts$Flow" "conducts" "[[I") ∈ TS := TS_in (List.mem_of_getElem? (i := 205) (by decide +kernel)) rfl
theorem tw_206 : (Jvm.Cond.fieldLink "BetweenCounts$Flow" (22 : Nat) "BetweenCounts$Flow" "entry" "[LBetweenCounts$Big;") ∈ TS := TS_in (List.mem_of_getElem? (i := 206) (by decide +kernel)) rfl
theorem tw_207 : (Jvm.Cond.fieldLink "BetweenCounts$Flow" (29 : Nat) "BetweenCounts$Flow" "whole" "LBetweenCounts$Big;") ∈ TS := TS_in (List.mem_of_getElem? (i := 207) (by decide +kernel)) rfl
theorem tw_208 : (Jvm.Cond.fieldLink "BetweenCounts$Flow" (33 : Nat) "BetweenCounts$Flow" "pivot" "LBetweenCounts$Big;") ∈ TS := TS_in (List.mem_of_getElem? (i := 208) (by decide +kernel)) rfl
theorem tw_209 : (Jvm.Cond.fieldLink "BetweenCounts$Flow" (36 : Nat) "BetweenCounts$Flow" "one" "LBetweenCounts$Big;") ∈ TS := TS_in (List.mem_of_getElem? (i := 209) (by decide +kernel)) rfl
theorem tw_210 : (Jvm.Cond.fieldLink "BetweenCounts$Flow" (39 : Nat) "BetweenCounts$Flow" "other" "LBetweenCounts$Big;") ∈ TS := TS_in (List.mem_of_getElem? (i := 210) (by decide +kernel)) rfl
theorem tw_211 : (Jvm.Cond.fieldLink "BetweenCounts$Flow" (45 : Nat) "BetweenCounts$Flow" "divider" "LBetweenCounts$Divider;") ∈ TS := TS_in (List.mem_of_getElem? (i := 211) (by decide +kernel)) rfl
theorem tw_212 : (Jvm.Cond.fieldLink "BetweenCounts$Flow" (49 : Nat) "BetweenCounts$Flow" "fresh" "Z") ∈ TS := TS_in (List.mem_of_getElem? (i := 212) (by decide +kernel)) rfl
theorem tw_213 : (Jvm.Cond.fieldLink "BetweenCounts$Flow" (53 : Nat) "BetweenCounts$Flow" "settledFor" "I") ∈ TS := TS_in (List.mem_of_getElem? (i := 213) (by decide +kernel)) rfl
theorem tw_237 : (Jvm.Cond.classLink "BetweenCounts" (47 : Nat) "BetweenCounts$Ranking") ∈ TS := TS_in (List.mem_of_getElem? (i := 237) (by decide +kernel)) rfl
theorem tw_238 : (Jvm.Cond.instantiable "BetweenCounts$Ranking" (6 : Nat)) ∈ TS := TS_in (List.mem_of_getElem? (i := 238) (by decide +kernel)) rfl
theorem tw_239 : (Jvm.Cond.methodLink "BetweenCounts" (49 : Nat) ({ cls := "BetweenCounts$Ranking", name := "<init>", desc := "()V" } : Jvm.MethodName)) ∈ TS := TS_in (List.mem_of_getElem? (i := 239) (by decide +kernel)) rfl
theorem tw_240 : (Jvm.Cond.instanceMethod ({ cls := "BetweenCounts$Ranking", name := "<init>", desc := "()V" } : Jvm.MethodName)) ∈ TS := TS_in (List.mem_of_getElem? (i := 240) (by decide +kernel)) rfl
set_option maxRecDepth 20000 in
theorem tw_241 : (Jvm.Cond.code ({ cls := "BetweenCounts$Ranking", name := "<init>", desc := "()V" } : Jvm.MethodName) prog_7_method_1_code (2 : Nat) (Option.none : Option Jvm.ClassFile.FieldType)) ∈ TS := TS_in (List.mem_of_getElem? (i := 241) rfl) rfl
theorem tw_242 : (Jvm.Cond.methodLink "BetweenCounts$Ranking" (3 : Nat) ({ cls := "java/lang/Object", name := "<init>", desc := "()V" } : Jvm.MethodName)) ∈ TS := TS_in (List.mem_of_getElem? (i := 242) (by decide +kernel)) rfl
theorem tw_243 : (Jvm.Cond.classLink "BetweenCounts$Ranking" (9 : Nat) "BetweenCounts$Fraction") ∈ TS := TS_in (List.mem_of_getElem? (i := 243) (by decide +kernel)) rfl
theorem tw_244 : (Jvm.Cond.arrayOver (Jvm.ClassFile.FieldType.object "BetweenCounts$Fraction")) ∈ lw_tbl := List.mem_of_getElem? (i := 244) (by decide +kernel)
theorem tw_245 : (Jvm.Cond.classLink "BetweenCounts$Ranking" (29 : Nat) "BetweenCounts$Big") ∈ TS := TS_in (List.mem_of_getElem? (i := 245) (by decide +kernel)) rfl
theorem tw_246 : (Jvm.Cond.methodLink "BetweenCounts$Ranking" (31 : Nat) ({ cls := "BetweenCounts$Big", name := "<init>", desc := "(I)V" } : Jvm.MethodName)) ∈ TS := TS_in (List.mem_of_getElem? (i := 246) (by decide +kernel)) rfl
theorem tw_247 : (Jvm.Cond.instantiable "BetweenCounts$Fraction" (2 : Nat)) ∈ TS := TS_in (List.mem_of_getElem? (i := 247) (by decide +kernel)) rfl
theorem tw_248 : (Jvm.Cond.methodLink "BetweenCounts$Ranking" (41 : Nat) ({ cls := "BetweenCounts$Fraction", name := "<init>", desc := "()V" } : Jvm.MethodName)) ∈ TS := TS_in (List.mem_of_getElem? (i := 248) (by decide +kernel)) rfl
theorem tw_249 : (Jvm.Cond.instanceMethod ({ cls := "BetweenCounts$Fraction", name := "<init>", desc := "()V" } : Jvm.MethodName)) ∈ TS := TS_in (List.mem_of_getElem? (i := 249) (by decide +kernel)) rfl
set_option maxRecDepth 20000 in
theorem tw_250 : (Jvm.Cond.code ({ cls := "BetweenCounts$Fraction", name := "<init>", desc := "()V" } : Jvm.MethodName) prog_5_method_1_code (1 : Nat) (Option.none : Option Jvm.ClassFile.FieldType)) ∈ TS := TS_in (List.mem_of_getElem? (i := 250) rfl) rfl
theorem tw_251 : (Jvm.Cond.methodLink "BetweenCounts$Fraction" (3 : Nat) ({ cls := "java/lang/Object", name := "<init>", desc := "()V" } : Jvm.MethodName)) ∈ TS := TS_in (List.mem_of_getElem? (i := 251) (by decide +kernel)) rfl
theorem tw_252 : (Jvm.Cond.classLink "BetweenCounts$Fraction" (9 : Nat) "BetweenCounts$Big") ∈ TS := TS_in (List.mem_of_getElem? (i := 252) (by decide +kernel)) rfl
theorem tw_253 : (Jvm.Cond.methodLink "BetweenCounts$Fraction" (11 : Nat) ({ cls := "BetweenCounts$Big", name := "<init>", desc := "(I)V" } : Jvm.MethodName)) ∈ TS := TS_in (List.mem_of_getElem? (i := 253) (by decide +kernel)) rfl
theorem tw_254 : (Jvm.Cond.methodLink "BetweenCounts$Fraction" (23 : Nat) ({ cls := "BetweenCounts$Big", name := "setSmall", desc := "(J)V" } : Jvm.MethodName)) ∈ TS := TS_in (List.mem_of_getElem? (i := 254) (by decide +kernel)) rfl
theorem tw_255 : (Jvm.Cond.instanceMethod ({ cls := "BetweenCounts$Big", name := "setSmall", desc := "(J)V" } : Jvm.MethodName)) ∈ TS := TS_in (List.mem_of_getElem? (i := 255) (by decide +kernel)) rfl
theorem tw_256 : (Jvm.Cond.selects "BetweenCounts$Big" ({ cls := "BetweenCounts$Big", name := "setSmall", desc := "(J)V" } : Jvm.MethodName) ({ cls := "BetweenCounts$Big", name := "setSmall", desc := "(J)V" } : Jvm.MethodName)) ∈ TS := TS_in (List.mem_of_getElem? (i := 256) (by decide +kernel)) rfl
set_option maxRecDepth 20000 in
theorem tw_257 : (Jvm.Cond.code ({ cls := "BetweenCounts$Big", name := "setSmall", desc := "(J)V" } : Jvm.MethodName) prog_2_method_2_code (3 : Nat) (Option.none : Option Jvm.ClassFile.FieldType)) ∈ TS := TS_in (List.mem_of_getElem? (i := 257) rfl) rfl
theorem tw_258 : (Jvm.Cond.methodLink "BetweenCounts$Big" (25 : Nat) ({ cls := "BetweenCounts$Big", name := "append", desc := "(J)V" } : Jvm.MethodName)) ∈ TS := TS_in (List.mem_of_getElem? (i := 258) (by decide +kernel)) rfl
theorem tw_260 : (Jvm.Cond.instanceMethod ({ cls := "BetweenCounts$Big", name := "append", desc := "(J)V" } : Jvm.MethodName)) ∈ TS := TS_in (List.mem_of_getElem? (i := 260) (by decide +kernel)) rfl
set_option maxRecDepth 20000 in
theorem tw_261 : (Jvm.Cond.code ({ cls := "BetweenCounts$Big", name := "append", desc := "(J)V" } : Jvm.MethodName) prog_2_method_4_code (3 : Nat) (Option.none : Option Jvm.ClassFile.FieldType)) ∈ TS := TS_in (List.mem_of_getElem? (i := 261) rfl) rfl
theorem tw_262 : (Jvm.Cond.fieldLink "BetweenCounts$Fraction" (14 : Nat) "BetweenCounts$Fraction" "above" "LBetweenCounts$Big;") ∈ TS := TS_in (List.mem_of_getElem? (i := 262) (by decide +kernel)) rfl
theorem tw_263 : (Jvm.Cond.fieldLink "BetweenCounts$Ranking" (55 : Nat) "BetweenCounts$Fraction" "above" "LBetweenCounts$Big;") ∈ TS := TS_in (List.mem_of_getElem? (i := 263) (by decide +kernel)) rfl
theorem tw_264 : (Jvm.Cond.fieldLink "BetweenCounts$Divider" (88 : Nat) "BetweenCounts$Fraction" "above" "LBetweenCounts$Big;") ∈ TS := TS_in (List.mem_of_getElem? (i := 264) (by decide +kernel)) rfl
theorem tw_265 : (Jvm.Cond.fieldLink "BetweenCounts$Flow" (141 : Nat) "BetweenCounts$Fraction" "above" "LBetweenCounts$Big;") ∈ TS := TS_in (List.mem_of_getElem? (i := 265) (by decide +kernel)) rfl
theorem tw_266 : (Jvm.Cond.fieldLink "BetweenCounts$Fraction" (20 : Nat) "BetweenCounts$Fraction" "below" "LBetweenCounts$Big;") ∈ TS := TS_in (List.mem_of_getElem? (i := 266) (by decide +kernel)) rfl
theorem tw_267 : (Jvm.Cond.fieldLink "BetweenCounts$Ranking" (58 : Nat) "BetweenCounts$Fraction" "below" "LBetweenCounts$Big;") ∈ TS := TS_in (List.mem_of_getElem? (i := 267) (by decide +kernel)) rfl
theorem tw_268 : (Jvm.Cond.fieldLink "BetweenCounts$Divider" (93 : Nat) "BetweenCounts$Fraction" "below" "LBetweenCounts$Big;") ∈ TS := TS_in (List.mem_of_getElem? (i := 268) (by decide +kernel)) rfl
theorem tw_269 : (Jvm.Cond.fieldLink "BetweenCounts$Flow" (150 : Nat) "BetweenCounts$Fraction" "below" "LBetweenCounts$Big;") ∈ TS := TS_in (List.mem_of_getElem? (i := 269) (by decide +kernel)) rfl
theorem tw_275 : (Jvm.Cond.fieldLink "BetweenCounts$Ranking" (11 : Nat) "BetweenCounts$Ranking" "value" "[LBetweenCounts$Fraction;") ∈ TS := TS_in (List.mem_of_getElem? (i := 275) (by decide +kernel)) rfl
theorem tw_276 : (Jvm.Cond.fieldLink "BetweenCounts" (122 : Nat) "BetweenCounts$Ranking" "value" "[LBetweenCounts$Fraction;") ∈ TS := TS_in (List.mem_of_getElem? (i := 276) (by decide +kernel)) rfl
theorem tw_277 : (Jvm.Cond.fieldLink "BetweenCounts$Ranking" (17 : Nat) "BetweenCounts$Ranking" "known" "[Z") ∈ TS := TS_in (List.mem_of_getElem? (i := 277) (by decide +kernel)) rfl
theorem tw_278 : (Jvm.Cond.fieldLink "BetweenCounts" (187 : Nat) "BetweenCounts$Ranking" "known" "[Z") ∈ TS := TS_in (List.mem_of_getElem? (i := 278) (by decide +kernel)) rfl
theorem tw_279 : (Jvm.Cond.fieldLink "BetweenCounts$Ranking" (21 : Nat) "BetweenCounts$Ranking" "ahead" "[I") ∈ TS := TS_in (List.mem_of_getElem? (i := 279) (by decide +kernel)) rfl
theorem tw_280 : (Jvm.Cond.fieldLink "BetweenCounts$Ranking" (25 : Nat) "BetweenCounts$Ranking" "ranked" "Z") ∈ TS := TS_in (List.mem_of_getElem? (i := 280) (by decide +kernel)) rfl
theorem tw_281 : (Jvm.Cond.fieldLink "BetweenCounts$Ranking" (34 : Nat) "BetweenCounts$Ranking" "left" "LBetweenCounts$Big;") ∈ TS := TS_in (List.mem_of_getElem? (i := 281) (by decide +kernel)) rfl
theorem tw_282 : (Jvm.Cond.fieldLink "BetweenCounts$Ranking" (38 : Nat) "BetweenCounts$Ranking" "right" "LBetweenCounts$Big;") ∈ TS := TS_in (List.mem_of_getElem? (i := 282) (by decide +kernel)) rfl
theorem tw_296 : (Jvm.Cond.classLink "BetweenCounts" (54 : Nat) "BetweenCounts$Fraction") ∈ TS := TS_in (List.mem_of_getElem? (i := 296) (by decide +kernel)) rfl
theorem tw_297 : (Jvm.Cond.methodLink "BetweenCounts" (56 : Nat) ({ cls := "BetweenCounts$Fraction", name := "<init>", desc := "()V" } : Jvm.MethodName)) ∈ TS := TS_in (List.mem_of_getElem? (i := 297) (by decide +kernel)) rfl
theorem tw_298 : (Jvm.Cond.fieldLink "BetweenCounts" (12 : Nat) "BetweenCounts" "net" "LBetweenCounts$Net;") ∈ TS := TS_in (List.mem_of_getElem? (i := 298) (by decide +kernel)) rfl
theorem tw_299 : (Jvm.Cond.fieldLink "BetweenCounts" (16 : Nat) "BetweenCounts" "inGroup" "[Z") ∈ TS := TS_in (List.mem_of_getElem? (i := 299) (by decide +kernel)) rfl
theorem tw_300 : (Jvm.Cond.fieldLink "BetweenCounts" (20 : Nat) "BetweenCounts" "begins" "[Z") ∈ TS := TS_in (List.mem_of_getElem? (i := 300) (by decide +kernel)) rfl
theorem tw_301 : (Jvm.Cond.fieldLink "BetweenCounts" (23 : Nat) "BetweenCounts" "ends" "[Z") ∈ TS := TS_in (List.mem_of_getElem? (i := 301) (by decide +kernel)) rfl
theorem tw_302 : (Jvm.Cond.fieldLink "BetweenCounts" (31 : Nat) "BetweenCounts" "open" "LBetweenCounts$WayTable;") ∈ TS := TS_in (List.mem_of_getElem? (i := 302) (by decide +kernel)) rfl
theorem tw_303 : (Jvm.Cond.fieldLink "BetweenCounts" (35 : Nat) "BetweenCounts" "around" "LBetweenCounts$WayTable;") ∈ TS := TS_in (List.mem_of_getElem? (i := 303) (by decide +kernel)) rfl
theorem tw_304 : (Jvm.Cond.fieldLink "BetweenCounts" (43 : Nat) "BetweenCounts" "flow" "LBetweenCounts$Flow;") ∈ TS := TS_in (List.mem_of_getElem? (i := 304) (by decide +kernel)) rfl
theorem tw_305 : (Jvm.Cond.fieldLink "BetweenCounts" (50 : Nat) "BetweenCounts" "ranking" "LBetweenCounts$Ranking;") ∈ TS := TS_in (List.mem_of_getElem? (i := 305) (by decide +kernel)) rfl
theorem tw_306 : (Jvm.Cond.fieldLink "BetweenCounts" (57 : Nat) "BetweenCounts" "kept" "LBetweenCounts$Fraction;") ∈ TS := TS_in (List.mem_of_getElem? (i := 306) (by decide +kernel)) rfl
theorem tw_307 : (Jvm.Cond.fieldLink "BetweenCounts" (61 : Nat) "BetweenCounts" "keptFor" "I") ∈ TS := TS_in (List.mem_of_getElem? (i := 307) (by decide +kernel)) rfl
theorem tw_329 : (Jvm.Cond.methodLink "BetweenCountsLaw" (13 : Nat) ({ cls := "BetweenCounts", name := "node", desc := "()I" } : Jvm.MethodName)) ∈ TS := TS_in (List.mem_of_getElem? (i := 329) (by decide +kernel)) rfl
theorem tw_330 : (Jvm.Cond.instanceMethod ({ cls := "BetweenCounts", name := "node", desc := "()I" } : Jvm.MethodName)) ∈ TS := TS_in (List.mem_of_getElem? (i := 330) (by decide +kernel)) rfl
theorem tw_331 : (Jvm.Cond.selects "BetweenCounts" ({ cls := "BetweenCounts", name := "node", desc := "()I" } : Jvm.MethodName) ({ cls := "BetweenCounts", name := "node", desc := "()I" } : Jvm.MethodName)) ∈ TS := TS_in (List.mem_of_getElem? (i := 331) (by decide +kernel)) rfl
set_option maxRecDepth 20000 in
theorem tw_332 : (Jvm.Cond.code ({ cls := "BetweenCounts", name := "node", desc := "()I" } : Jvm.MethodName) prog_1_method_2_code (2 : Nat) (Option.some Jvm.ClassFile.FieldType.int)) ∈ TS := TS_in (List.mem_of_getElem? (i := 332) rfl) rfl
theorem tw_333 : (Jvm.Cond.methodLink "BetweenCounts" (65 : Nat) ({ cls := "BetweenCounts$Net", name := "addNode", desc := "()I" } : Jvm.MethodName)) ∈ TS := TS_in (List.mem_of_getElem? (i := 333) (by decide +kernel)) rfl
theorem tw_334 : (Jvm.Cond.instanceMethod ({ cls := "BetweenCounts$Net", name := "addNode", desc := "()I" } : Jvm.MethodName)) ∈ TS := TS_in (List.mem_of_getElem? (i := 334) (by decide +kernel)) rfl
theorem tw_335 : (Jvm.Cond.selects "BetweenCounts$Net" ({ cls := "BetweenCounts$Net", name := "addNode", desc := "()I" } : Jvm.MethodName) ({ cls := "BetweenCounts$Net", name := "addNode", desc := "()I" } : Jvm.MethodName)) ∈ TS := TS_in (List.mem_of_getElem? (i := 335) (by decide +kernel)) rfl
set_option maxRecDepth 20000 in
theorem tw_336 : (Jvm.Cond.code ({ cls := "BetweenCounts$Net", name := "addNode", desc := "()I" } : Jvm.MethodName) prog_6_method_5_code (1 : Nat) (Option.some Jvm.ClassFile.FieldType.int)) ∈ TS := TS_in (List.mem_of_getElem? (i := 336) rfl) rfl
theorem tw_337 : (Jvm.Cond.methodLink "BetweenCounts" (69 : Nat) ({ cls := "BetweenCounts", name := "forgetNetwork", desc := "()V" } : Jvm.MethodName)) ∈ TS := TS_in (List.mem_of_getElem? (i := 337) (by decide +kernel)) rfl
theorem tw_339 : (Jvm.Cond.instanceMethod ({ cls := "BetweenCounts", name := "forgetNetwork", desc := "()V" } : Jvm.MethodName)) ∈ TS := TS_in (List.mem_of_getElem? (i := 339) (by decide +kernel)) rfl
set_option maxRecDepth 20000 in
theorem tw_340 : (Jvm.Cond.code ({ cls := "BetweenCounts", name := "forgetNetwork", desc := "()V" } : Jvm.MethodName) prog_1_method_18_code (1 : Nat) (Option.none : Option Jvm.ClassFile.FieldType)) ∈ TS := TS_in (List.mem_of_getElem? (i := 340) rfl) rfl
theorem tw_341 : (Jvm.Cond.methodLink "BetweenCounts" (179 : Nat) ({ cls := "BetweenCounts$WayTable", name := "forget", desc := "()V" } : Jvm.MethodName)) ∈ TS := TS_in (List.mem_of_getElem? (i := 341) (by decide +kernel)) rfl
theorem tw_342 : (Jvm.Cond.instanceMethod ({ cls := "BetweenCounts$WayTable", name := "forget", desc := "()V" } : Jvm.MethodName)) ∈ TS := TS_in (List.mem_of_getElem? (i := 342) (by decide +kernel)) rfl
theorem tw_343 : (Jvm.Cond.selects "BetweenCounts$WayTable" ({ cls := "BetweenCounts$WayTable", name := "forget", desc := "()V" } : Jvm.MethodName) ({ cls := "BetweenCounts$WayTable", name := "forget", desc := "()V" } : Jvm.MethodName)) ∈ TS := TS_in (List.mem_of_getElem? (i := 343) (by decide +kernel)) rfl
set_option maxRecDepth 20000 in
theorem tw_344 : (Jvm.Cond.code ({ cls := "BetweenCounts$WayTable", name := "forget", desc := "()V" } : Jvm.MethodName) prog_8_method_2_code (1 : Nat) (Option.none : Option Jvm.ClassFile.FieldType)) ∈ TS := TS_in (List.mem_of_getElem? (i := 344) rfl) rfl
theorem tw_345 : (Jvm.Cond.methodLink "BetweenCounts" (182 : Nat) ({ cls := "BetweenCounts$Flow", name := "forget", desc := "()V" } : Jvm.MethodName)) ∈ TS := TS_in (List.mem_of_getElem? (i := 345) (by decide +kernel)) rfl
theorem tw_346 : (Jvm.Cond.instanceMethod ({ cls := "BetweenCounts$Flow", name := "forget", desc := "()V" } : Jvm.MethodName)) ∈ TS := TS_in (List.mem_of_getElem? (i := 346) (by decide +kernel)) rfl
theorem tw_347 : (Jvm.Cond.selects "BetweenCounts$Flow" ({ cls := "BetweenCounts$Flow", name := "forget", desc := "()V" } : Jvm.MethodName) ({ cls := "BetweenCounts$Flow", name := "forget", desc := "()V" } : Jvm.MethodName)) ∈ TS := TS_in (List.mem_of_getElem? (i := 347) (by decide +kernel)) rfl
set_option maxRecDepth 20000 in
theorem tw_348 : (Jvm.Cond.code ({ cls := "BetweenCounts$Flow", name := "forget", desc := "()V" } : Jvm.MethodName) prog_4_method_2_code (1 : Nat) (Option.none : Option Jvm.ClassFile.FieldType)) ∈ TS := TS_in (List.mem_of_getElem? (i := 348) rfl) rfl
theorem tw_349 : (Jvm.Cond.methodLink "BetweenCounts" (90 : Nat) ({ cls := "BetweenCounts", name := "forgetChoice", desc := "()V" } : Jvm.MethodName)) ∈ TS := TS_in (List.mem_of_getElem? (i := 349) (by decide +kernel)) rfl
theorem tw_351 : (Jvm.Cond.instanceMethod ({ cls := "BetweenCounts", name := "forgetChoice", desc := "()V" } : Jvm.MethodName)) ∈ TS := TS_in (List.mem_of_getElem? (i := 351) (by decide +kernel)) rfl
set_option maxRecDepth 20000 in
theorem tw_352 : (Jvm.Cond.code ({ cls := "BetweenCounts", name := "forgetChoice", desc := "()V" } : Jvm.MethodName) prog_1_method_19_code (1 : Nat) (Option.none : Option Jvm.ClassFile.FieldType)) ∈ TS := TS_in (List.mem_of_getElem? (i := 352) rfl) rfl
theorem tw_353 : (Jvm.Cond.methodLink "BetweenCounts" (183 : Nat) ({ cls := "BetweenCounts$Ranking", name := "forget", desc := "()V" } : Jvm.MethodName)) ∈ TS := TS_in (List.mem_of_getElem? (i := 353) (by decide +kernel)) rfl
theorem tw_354 : (Jvm.Cond.instanceMethod ({ cls := "BetweenCounts$Ranking", name := "forget", desc := "()V" } : Jvm.MethodName)) ∈ TS := TS_in (List.mem_of_getElem? (i := 354) (by decide +kernel)) rfl
theorem tw_355 : (Jvm.Cond.selects "BetweenCounts$Ranking" ({ cls := "BetweenCounts$Ranking", name := "forget", desc := "()V" } : Jvm.MethodName) ({ cls := "BetweenCounts$Ranking", name := "forget", desc := "()V" } : Jvm.MethodName)) ∈ TS := TS_in (List.mem_of_getElem? (i := 355) (by decide +kernel)) rfl
set_option maxRecDepth 20000 in
theorem tw_356 : (Jvm.Cond.code ({ cls := "BetweenCounts$Ranking", name := "forget", desc := "()V" } : Jvm.MethodName) prog_7_method_2_code (2 : Nat) (Option.none : Option Jvm.ClassFile.FieldType)) ∈ TS := TS_in (List.mem_of_getElem? (i := 356) rfl) rfl
theorem tw_357 : (Jvm.Cond.methodLink "BetweenCountsLaw" (18 : Nat) ({ cls := "BetweenCounts", name := "arc", desc := "(III)I" } : Jvm.MethodName)) ∈ TS := TS_in (List.mem_of_getElem? (i := 357) (by decide +kernel)) rfl
theorem tw_358 : (Jvm.Cond.instanceMethod ({ cls := "BetweenCounts", name := "arc", desc := "(III)I" } : Jvm.MethodName)) ∈ TS := TS_in (List.mem_of_getElem? (i := 358) (by decide +kernel)) rfl
theorem tw_359 : (Jvm.Cond.selects "BetweenCounts" ({ cls := "BetweenCounts", name := "arc", desc := "(III)I" } : Jvm.MethodName) ({ cls := "BetweenCounts", name := "arc", desc := "(III)I" } : Jvm.MethodName)) ∈ TS := TS_in (List.mem_of_getElem? (i := 359) (by decide +kernel)) rfl
set_option maxRecDepth 20000 in
theorem tw_360 : (Jvm.Cond.code ({ cls := "BetweenCounts", name := "arc", desc := "(III)I" } : Jvm.MethodName) prog_1_method_3_code (5 : Nat) (Option.some Jvm.ClassFile.FieldType.int)) ∈ TS := TS_in (List.mem_of_getElem? (i := 360) rfl) rfl
theorem tw_361 : (Jvm.Cond.methodLink "BetweenCounts" (72 : Nat) ({ cls := "BetweenCounts$Net", name := "addArc", desc := "(III)I" } : Jvm.MethodName)) ∈ TS := TS_in (List.mem_of_getElem? (i := 361) (by decide +kernel)) rfl
theorem tw_362 : (Jvm.Cond.instanceMethod ({ cls := "BetweenCounts$Net", name := "addArc", desc := "(III)I" } : Jvm.MethodName)) ∈ TS := TS_in (List.mem_of_getElem? (i := 362) (by decide +kernel)) rfl
theorem tw_363 : (Jvm.Cond.selects "BetweenCounts$Net" ({ cls := "BetweenCounts$Net", name := "addArc", desc := "(III)I" } : Jvm.MethodName) ({ cls := "BetweenCounts$Net", name := "addArc", desc := "(III)I" } : Jvm.MethodName)) ∈ TS := TS_in (List.mem_of_getElem? (i := 363) (by decide +kernel)) rfl
set_option maxRecDepth 20000 in
theorem tw_364 : (Jvm.Cond.code ({ cls := "BetweenCounts$Net", name := "addArc", desc := "(III)I" } : Jvm.MethodName) prog_6_method_6_code (4 : Nat) (Option.some Jvm.ClassFile.FieldType.int)) ∈ TS := TS_in (List.mem_of_getElem? (i := 364) rfl) rfl
theorem tw_365 : (Jvm.Cond.methodLink "BetweenCounts$Net" (28 : Nat) ({ cls := "BetweenCounts$Net", name := "hasNode", desc := "(I)Z" } : Jvm.MethodName)) ∈ TS := TS_in (List.mem_of_getElem? (i := 365) (by decide +kernel)) rfl
theorem tw_366 : (Jvm.Cond.instanceMethod ({ cls := "BetweenCounts$Net", name := "hasNode", desc := "(I)Z" } : Jvm.MethodName)) ∈ TS := TS_in (List.mem_of_getElem? (i := 366) (by decide +kernel)) rfl
theorem tw_367 : (Jvm.Cond.selects "BetweenCounts$Net" ({ cls := "BetweenCounts$Net", name := "hasNode", desc := "(I)Z" } : Jvm.MethodName) ({ cls := "BetweenCounts$Net", name := "hasNode", desc := "(I)Z" } : Jvm.MethodName)) ∈ TS := TS_in (List.mem_of_getElem? (i := 367) (by decide +kernel)) rfl
set_option maxRecDepth 20000 in
theorem tw_368 : (Jvm.Cond.code ({ cls := "BetweenCounts$Net", name := "hasNode", desc := "(I)Z" } : Jvm.MethodName) prog_6_method_2_code (2 : Nat) (Option.some Jvm.ClassFile.FieldType.boolean)) ∈ TS := TS_in (List.mem_of_getElem? (i := 368) rfl) rfl
theorem tw_369 : (Jvm.Cond.methodLink "BetweenCounts$Net" (32 : Nat) ({ cls := "BetweenCounts$Net", name := "isWeight", desc := "(I)Z" } : Jvm.MethodName)) ∈ TS := TS_in (List.mem_of_getElem? (i := 369) (by decide +kernel)) rfl
theorem tw_370 : (Jvm.Cond.instanceMethod ({ cls := "BetweenCounts$Net", name := "isWeight", desc := "(I)Z" } : Jvm.MethodName)) ∈ TS := TS_in (List.mem_of_getElem? (i := 370) (by decide +kernel)) rfl
theorem tw_371 : (Jvm.Cond.selects "BetweenCounts$Net" ({ cls := "BetweenCounts$Net", name := "isWeight", desc := "(I)Z" } : Jvm.MethodName) ({ cls := "BetweenCounts$Net", name := "isWeight", desc := "(I)Z" } : Jvm.MethodName)) ∈ TS := TS_in (List.mem_of_getElem? (i := 371) (by decide +kernel)) rfl
set_option maxRecDepth 20000 in
theorem tw_372 : (Jvm.Cond.code ({ cls := "BetweenCounts$Net", name := "isWeight", desc := "(I)Z" } : Jvm.MethodName) prog_6_method_4_code (2 : Nat) (Option.some Jvm.ClassFile.FieldType.boolean)) ∈ TS := TS_in (List.mem_of_getElem? (i := 372) rfl) rfl
theorem tw_373 : (Jvm.Cond.methodLink "BetweenCountsLaw" (23 : Nat) ({ cls := "BetweenCounts", name := "change", desc := "(II)I" } : Jvm.MethodName)) ∈ TS := TS_in (List.mem_of_getElem? (i := 373) (by decide +kernel)) rfl
theorem tw_374 : (Jvm.Cond.instanceMethod ({ cls := "BetweenCounts", name := "change", desc := "(II)I" } : Jvm.MethodName)) ∈ TS := TS_in (List.mem_of_getElem? (i := 374) (by decide +kernel)) rfl
theorem tw_375 : (Jvm.Cond.selects "BetweenCounts" ({ cls := "BetweenCounts", name := "change", desc := "(II)I" } : Jvm.MethodName) ({ cls := "BetweenCounts", name := "change", desc := "(II)I" } : Jvm.MethodName)) ∈ TS := TS_in (List.mem_of_getElem? (i := 375) (by decide +kernel)) rfl
set_option maxRecDepth 20000 in
theorem tw_376 : (Jvm.Cond.code ({ cls := "BetweenCounts", name := "change", desc := "(II)I" } : Jvm.MethodName) prog_1_method_4_code (4 : Nat) (Option.some Jvm.ClassFile.FieldType.int)) ∈ TS := TS_in (List.mem_of_getElem? (i := 376) rfl) rfl
theorem tw_377 : (Jvm.Cond.methodLink "BetweenCounts" (76 : Nat) ({ cls := "BetweenCounts$Net", name := "hasArc", desc := "(I)Z" } : Jvm.MethodName)) ∈ TS := TS_in (List.mem_of_getElem? (i := 377) (by decide +kernel)) rfl
theorem tw_378 : (Jvm.Cond.instanceMethod ({ cls := "BetweenCounts$Net", name := "hasArc", desc := "(I)Z" } : Jvm.MethodName)) ∈ TS := TS_in (List.mem_of_getElem? (i := 378) (by decide +kernel)) rfl
theorem tw_379 : (Jvm.Cond.selects "BetweenCounts$Net" ({ cls := "BetweenCounts$Net", name := "hasArc", desc := "(I)Z" } : Jvm.MethodName) ({ cls := "BetweenCounts$Net", name := "hasArc", desc := "(I)Z" } : Jvm.MethodName)) ∈ TS := TS_in (List.mem_of_getElem? (i := 379) (by decide +kernel)) rfl
set_option maxRecDepth 20000 in
theorem tw_380 : (Jvm.Cond.code ({ cls := "BetweenCounts$Net", name := "hasArc", desc := "(I)Z" } : Jvm.MethodName) prog_6_method_3_code (2 : Nat) (Option.some Jvm.ClassFile.FieldType.boolean)) ∈ TS := TS_in (List.mem_of_getElem? (i := 380) rfl) rfl
theorem tw_381 : (Jvm.Cond.methodLink "BetweenCounts" (80 : Nat) ({ cls := "BetweenCounts$Net", name := "isWeight", desc := "(I)Z" } : Jvm.MethodName)) ∈ TS := TS_in (List.mem_of_getElem? (i := 381) (by decide +kernel)) rfl
theorem tw_382 : (Jvm.Cond.methodLink "BetweenCountsLaw" (28 : Nat) ({ cls := "BetweenCounts", name := "choose", desc := "(II)Z" } : Jvm.MethodName)) ∈ TS := TS_in (List.mem_of_getElem? (i := 382) (by decide +kernel)) rfl
theorem tw_383 : (Jvm.Cond.instanceMethod ({ cls := "BetweenCounts", name := "choose", desc := "(II)Z" } : Jvm.MethodName)) ∈ TS := TS_in (List.mem_of_getElem? (i := 383) (by decide +kernel)) rfl
theorem tw_384 : (Jvm.Cond.selects "BetweenCounts" ({ cls := "BetweenCounts", name := "choose", desc := "(II)Z" } : Jvm.MethodName) ({ cls := "BetweenCounts", name := "choose", desc := "(II)Z" } : Jvm.MethodName)) ∈ TS := TS_in (List.mem_of_getElem? (i := 384) (by decide +kernel)) rfl
set_option maxRecDepth 20000 in
theorem tw_385 : (Jvm.Cond.code ({ cls := "BetweenCounts", name := "choose", desc := "(II)Z" } : Jvm.MethodName) prog_1_method_5_code (4 : Nat) (Option.some Jvm.ClassFile.FieldType.boolean)) ∈ TS := TS_in (List.mem_of_getElem? (i := 385) rfl) rfl
theorem tw_386 : (Jvm.Cond.methodLink "BetweenCounts" (87 : Nat) ({ cls := "BetweenCounts$Net", name := "hasNode", desc := "(I)Z" } : Jvm.MethodName)) ∈ TS := TS_in (List.mem_of_getElem? (i := 386) (by decide +kernel)) rfl
theorem tw_387 : (Jvm.Cond.methodLink "BetweenCountsLaw" (33 : Nat) ({ cls := "BetweenCounts", name := "far", desc := "(II)I" } : Jvm.MethodName)) ∈ TS := TS_in (List.mem_of_getElem? (i := 387) (by decide +kernel)) rfl
theorem tw_388 : (Jvm.Cond.instanceMethod ({ cls := "BetweenCounts", name := "far", desc := "(II)I" } : Jvm.MethodName)) ∈ TS := TS_in (List.mem_of_getElem? (i := 388) (by decide +kernel)) rfl
theorem tw_389 : (Jvm.Cond.selects "BetweenCounts" ({ cls := "BetweenCounts", name := "far", desc := "(II)I" } : Jvm.MethodName) ({ cls := "BetweenCounts", name := "far", desc := "(II)I" } : Jvm.MethodName)) ∈ TS := TS_in (List.mem_of_getElem? (i := 389) (by decide +kernel)) rfl
set_option maxRecDepth 20000 in
theorem tw_390 : (Jvm.Cond.code ({ cls := "BetweenCounts", name := "far", desc := "(II)I" } : Jvm.MethodName) prog_1_method_6_code (3 : Nat) (Option.some Jvm.ClassFile.FieldType.int)) ∈ TS := TS_in (List.mem_of_getElem? (i := 390) rfl) rfl
theorem tw_391 : (Jvm.Cond.methodLink "BetweenCounts" (93 : Nat) ({ cls := "BetweenCounts$WayTable", name := "refresh", desc := "()V" } : Jvm.MethodName)) ∈ TS := TS_in (List.mem_of_getElem? (i := 391) (by decide +kernel)) rfl
theorem tw_392 : (Jvm.Cond.instanceMethod ({ cls := "BetweenCounts$WayTable", name := "refresh", desc := "()V" } : Jvm.MethodName)) ∈ TS := TS_in (List.mem_of_getElem? (i := 392) (by decide +kernel)) rfl
theorem tw_393 : (Jvm.Cond.selects "BetweenCounts$WayTable" ({ cls := "BetweenCounts$WayTable", name := "refresh", desc := "()V" } : Jvm.MethodName) ({ cls := "BetweenCounts$WayTable", name := "refresh", desc := "()V" } : Jvm.MethodName)) ∈ TS := TS_in (List.mem_of_getElem? (i := 393) (by decide +kernel)) rfl
set_option maxRecDepth 20000 in
theorem tw_394 : (Jvm.Cond.code ({ cls := "BetweenCounts$WayTable", name := "refresh", desc := "()V" } : Jvm.MethodName) prog_8_method_3_code (2 : Nat) (Option.none : Option Jvm.ClassFile.FieldType)) ∈ TS := TS_in (List.mem_of_getElem? (i := 394) rfl) rfl
theorem tw_395 : (Jvm.Cond.methodLink "BetweenCounts$WayTable" (40 : Nat) ({ cls := "java/util/Arrays", name := "fill", desc := "([II)V" } : Jvm.MethodName)) ∈ TS := TS_in (List.mem_of_getElem? (i := 395) (by decide +kernel)) rfl
theorem tw_396 : (Jvm.Cond.static ({ cls := "java/util/Arrays", name := "fill", desc := "([II)V" } : Jvm.MethodName)) ∈ TS := TS_in (List.mem_of_getElem? (i := 396) (by decide +kernel)) rfl
set_option maxRecDepth 20000 in
theorem tw_397 : (Jvm.Cond.code ({ cls := "java/util/Arrays", name := "fill", desc := "([II)V" } : Jvm.MethodName) prog_13_method_103_code (4 : Nat) (Option.none : Option Jvm.ClassFile.FieldType)) ∈ TS := TS_in (List.mem_of_getElem? (i := 397) rfl) rfl
theorem tw_398 : (Jvm.Cond.methodLink "BetweenCounts$WayTable" (46 : Nat) ({ cls := "BetweenCounts$WayTable", name := "spreadFrom", desc := "(I[I[I)V" } : Jvm.MethodName)) ∈ TS := TS_in (List.mem_of_getElem? (i := 398) (by decide +kernel)) rfl
theorem tw_400 : (Jvm.Cond.instanceMethod ({ cls := "BetweenCounts$WayTable", name := "spreadFrom", desc := "(I[I[I)V" } : Jvm.MethodName)) ∈ TS := TS_in (List.mem_of_getElem? (i := 400) (by decide +kernel)) rfl
set_option maxRecDepth 20000 in
theorem tw_401 : (Jvm.Cond.code ({ cls := "BetweenCounts$WayTable", name := "spreadFrom", desc := "(I[I[I)V" } : Jvm.MethodName) prog_8_method_4_code (7 : Nat) (Option.none : Option Jvm.ClassFile.FieldType)) ∈ TS := TS_in (List.mem_of_getElem? (i := 401) rfl) rfl
theorem tw_402 : (Jvm.Cond.methodLink "BetweenCounts$WayTable" (50 : Nat) ({ cls := "BetweenCounts$WayTable", name := "nearestLeft", desc := "([I)I" } : Jvm.MethodName)) ∈ TS := TS_in (List.mem_of_getElem? (i := 402) (by decide +kernel)) rfl
theorem tw_404 : (Jvm.Cond.instanceMethod ({ cls := "BetweenCounts$WayTable", name := "nearestLeft", desc := "([I)I" } : Jvm.MethodName)) ∈ TS := TS_in (List.mem_of_getElem? (i := 404) (by decide +kernel)) rfl
set_option maxRecDepth 20000 in
theorem tw_405 : (Jvm.Cond.code ({ cls := "BetweenCounts$WayTable", name := "nearestLeft", desc := "([I)I" } : Jvm.MethodName) prog_8_method_5_code (4 : Nat) (Option.some Jvm.ClassFile.FieldType.int)) ∈ TS := TS_in (List.mem_of_getElem? (i := 405) rfl) rfl
theorem tw_406 : (Jvm.Cond.methodLink "BetweenCounts$WayTable" (67 : Nat) ({ cls := "BetweenCounts$WayTable", name := "goBy", desc := "(I[I[I)V" } : Jvm.MethodName)) ∈ TS := TS_in (List.mem_of_getElem? (i := 406) (by decide +kernel)) rfl
theorem tw_408 : (Jvm.Cond.instanceMethod ({ cls := "BetweenCounts$WayTable", name := "goBy", desc := "(I[I[I)V" } : Jvm.MethodName)) ∈ TS := TS_in (List.mem_of_getElem? (i := 408) (by decide +kernel)) rfl
set_option maxRecDepth 20000 in
theorem tw_409 : (Jvm.Cond.code ({ cls := "BetweenCounts$WayTable", name := "goBy", desc := "(I[I[I)V" } : Jvm.MethodName) prog_8_method_6_code (7 : Nat) (Option.none : Option Jvm.ClassFile.FieldType)) ∈ TS := TS_in (List.mem_of_getElem? (i := 409) rfl) rfl
theorem tw_410 : (Jvm.Cond.methodLink "BetweenCountsLaw" (37 : Nat) ({ cls := "BetweenCounts", name := "ways", desc := "(II)I" } : Jvm.MethodName)) ∈ TS := TS_in (List.mem_of_getElem? (i := 410) (by decide +kernel)) rfl
theorem tw_411 : (Jvm.Cond.instanceMethod ({ cls := "BetweenCounts", name := "ways", desc := "(II)I" } : Jvm.MethodName)) ∈ TS := TS_in (List.mem_of_getElem? (i := 411) (by decide +kernel)) rfl
theorem tw_412 : (Jvm.Cond.selects "BetweenCounts" ({ cls := "BetweenCounts", name := "ways", desc := "(II)I" } : Jvm.MethodName) ({ cls := "BetweenCounts", name := "ways", desc := "(II)I" } : Jvm.MethodName)) ∈ TS := TS_in (List.mem_of_getElem? (i := 412) (by decide +kernel)) rfl
set_option maxRecDepth 20000 in
theorem tw_413 : (Jvm.Cond.code ({ cls := "BetweenCounts", name := "ways", desc := "(II)I" } : Jvm.MethodName) prog_1_method_7_code (3 : Nat) (Option.some Jvm.ClassFile.FieldType.int)) ∈ TS := TS_in (List.mem_of_getElem? (i := 413) rfl) rfl
theorem tw_414 : (Jvm.Cond.methodLink "BetweenCountsLaw" (41 : Nat) ({ cls := "BetweenCounts", name := "stress", desc := "(I)J" } : Jvm.MethodName)) ∈ TS := TS_in (List.mem_of_getElem? (i := 414) (by decide +kernel)) rfl
theorem tw_415 : (Jvm.Cond.instanceMethod ({ cls := "BetweenCounts", name := "stress", desc := "(I)J" } : Jvm.MethodName)) ∈ TS := TS_in (List.mem_of_getElem? (i := 415) (by decide +kernel)) rfl
theorem tw_416 : (Jvm.Cond.selects "BetweenCounts" ({ cls := "BetweenCounts", name := "stress", desc := "(I)J" } : Jvm.MethodName) ({ cls := "BetweenCounts", name := "stress", desc := "(I)J" } : Jvm.MethodName)) ∈ TS := TS_in (List.mem_of_getElem? (i := 416) (by decide +kernel)) rfl
set_option maxRecDepth 20000 in
theorem tw_417 : (Jvm.Cond.code ({ cls := "BetweenCounts", name := "stress", desc := "(I)J" } : Jvm.MethodName) prog_1_method_8_code (6 : Nat) (Option.some Jvm.ClassFile.FieldType.long)) ∈ TS := TS_in (List.mem_of_getElem? (i := 417) rfl) rfl
theorem tw_418 : (Jvm.Cond.constantLong "BetweenCounts" (103 : Nat) (-1 : Int64)) ∈ TS := TS_in (List.mem_of_getElem? (i := 418) (by decide +kernel)) rfl
theorem tw_419 : (Jvm.Cond.methodLink "BetweenCounts" (108 : Nat) ({ cls := "BetweenCounts", name := "isPair", desc := "(II)Z" } : Jvm.MethodName)) ∈ TS := TS_in (List.mem_of_getElem? (i := 419) (by decide +kernel)) rfl
theorem tw_421 : (Jvm.Cond.instanceMethod ({ cls := "BetweenCounts", name := "isPair", desc := "(II)Z" } : Jvm.MethodName)) ∈ TS := TS_in (List.mem_of_getElem? (i := 421) (by decide +kernel)) rfl
set_option maxRecDepth 20000 in
theorem tw_422 : (Jvm.Cond.code ({ cls := "BetweenCounts", name := "isPair", desc := "(II)Z" } : Jvm.MethodName) prog_1_method_22_code (3 : Nat) (Option.some Jvm.ClassFile.FieldType.boolean)) ∈ TS := TS_in (List.mem_of_getElem? (i := 422) rfl) rfl
theorem tw_423 : (Jvm.Cond.methodLink "BetweenCounts" (112 : Nat) ({ cls := "BetweenCounts$WayTable", name := "countThrough", desc := "(III)I" } : Jvm.MethodName)) ∈ TS := TS_in (List.mem_of_getElem? (i := 423) (by decide +kernel)) rfl
theorem tw_424 : (Jvm.Cond.instanceMethod ({ cls := "BetweenCounts$WayTable", name := "countThrough", desc := "(III)I" } : Jvm.MethodName)) ∈ TS := TS_in (List.mem_of_getElem? (i := 424) (by decide +kernel)) rfl
theorem tw_425 : (Jvm.Cond.selects "BetweenCounts$WayTable" ({ cls := "BetweenCounts$WayTable", name := "countThrough", desc := "(III)I" } : Jvm.MethodName) ({ cls := "BetweenCounts$WayTable", name := "countThrough", desc := "(III)I" } : Jvm.MethodName)) ∈ TS := TS_in (List.mem_of_getElem? (i := 425) (by decide +kernel)) rfl
set_option maxRecDepth 20000 in
theorem tw_426 : (Jvm.Cond.code ({ cls := "BetweenCounts$WayTable", name := "countThrough", desc := "(III)I" } : Jvm.MethodName) prog_8_method_7_code (6 : Nat) (Option.some Jvm.ClassFile.FieldType.int)) ∈ TS := TS_in (List.mem_of_getElem? (i := 426) rfl) rfl
theorem tw_427 : (Jvm.Cond.methodLink "BetweenCountsLaw" (46 : Nat) ({ cls := "BetweenCounts", name := "between", desc := "(III)J" } : Jvm.MethodName)) ∈ TS := TS_in (List.mem_of_getElem? (i := 427) (by decide +kernel)) rfl
theorem tw_428 : (Jvm.Cond.instanceMethod ({ cls := "BetweenCounts", name := "between", desc := "(III)J" } : Jvm.MethodName)) ∈ TS := TS_in (List.mem_of_getElem? (i := 428) (by decide +kernel)) rfl
theorem tw_429 : (Jvm.Cond.selects "BetweenCounts" ({ cls := "BetweenCounts", name := "between", desc := "(III)J" } : Jvm.MethodName) ({ cls := "BetweenCounts", name := "between", desc := "(III)J" } : Jvm.MethodName)) ∈ TS := TS_in (List.mem_of_getElem? (i := 429) (by decide +kernel)) rfl
set_option maxRecDepth 20000 in
theorem tw_430 : (Jvm.Cond.code ({ cls := "BetweenCounts", name := "between", desc := "(III)J" } : Jvm.MethodName) prog_1_method_9_code (4 : Nat) (Option.some Jvm.ClassFile.FieldType.long)) ∈ TS := TS_in (List.mem_of_getElem? (i := 430) rfl) rfl
theorem tw_431 : (Jvm.Cond.methodLink "BetweenCounts" (115 : Nat) ({ cls := "BetweenCounts", name := "isPlace", desc := "(II)Z" } : Jvm.MethodName)) ∈ TS := TS_in (List.mem_of_getElem? (i := 431) (by decide +kernel)) rfl
theorem tw_432 : (Jvm.Cond.static ({ cls := "BetweenCounts", name := "isPlace", desc := "(II)Z" } : Jvm.MethodName)) ∈ TS := TS_in (List.mem_of_getElem? (i := 432) (by decide +kernel)) rfl
set_option maxRecDepth 20000 in
theorem tw_433 : (Jvm.Cond.code ({ cls := "BetweenCounts", name := "isPlace", desc := "(II)Z" } : Jvm.MethodName) prog_1_method_20_code (2 : Nat) (Option.some Jvm.ClassFile.FieldType.boolean)) ∈ TS := TS_in (List.mem_of_getElem? (i := 433) rfl) rfl
theorem tw_434 : (Jvm.Cond.methodLink "BetweenCounts" (118 : Nat) ({ cls := "BetweenCounts", name := "needBetween", desc := "(I)V" } : Jvm.MethodName)) ∈ TS := TS_in (List.mem_of_getElem? (i := 434) (by decide +kernel)) rfl
theorem tw_436 : (Jvm.Cond.instanceMethod ({ cls := "BetweenCounts", name := "needBetween", desc := "(I)V" } : Jvm.MethodName)) ∈ TS := TS_in (List.mem_of_getElem? (i := 436) (by decide +kernel)) rfl
set_option maxRecDepth 20000 in
theorem tw_437 : (Jvm.Cond.code ({ cls := "BetweenCounts", name := "needBetween", desc := "(I)V" } : Jvm.MethodName) prog_1_method_25_code (5 : Nat) (Option.none : Option Jvm.ClassFile.FieldType)) ∈ TS := TS_in (List.mem_of_getElem? (i := 437) rfl) rfl
theorem tw_438 : (Jvm.Cond.methodLink "BetweenCounts" (184 : Nat) ({ cls := "BetweenCounts$Fraction", name := "clear", desc := "()V" } : Jvm.MethodName)) ∈ TS := TS_in (List.mem_of_getElem? (i := 438) (by decide +kernel)) rfl
theorem tw_439 : (Jvm.Cond.instanceMethod ({ cls := "BetweenCounts$Fraction", name := "clear", desc := "()V" } : Jvm.MethodName)) ∈ TS := TS_in (List.mem_of_getElem? (i := 439) (by decide +kernel)) rfl
theorem tw_440 : (Jvm.Cond.selects "BetweenCounts$Fraction" ({ cls := "BetweenCounts$Fraction", name := "clear", desc := "()V" } : Jvm.MethodName) ({ cls := "BetweenCounts$Fraction", name := "clear", desc := "()V" } : Jvm.MethodName)) ∈ TS := TS_in (List.mem_of_getElem? (i := 440) (by decide +kernel)) rfl
set_option maxRecDepth 20000 in
theorem tw_441 : (Jvm.Cond.code ({ cls := "BetweenCounts$Fraction", name := "clear", desc := "()V" } : Jvm.MethodName) prog_5_method_2_code (1 : Nat) (Option.none : Option Jvm.ClassFile.FieldType)) ∈ TS := TS_in (List.mem_of_getElem? (i := 441) rfl) rfl
theorem tw_442 : (Jvm.Cond.methodLink "BetweenCounts" (190 : Nat) ({ cls := "BetweenCounts$Fraction", name := "addRatio", desc := "(II)V" } : Jvm.MethodName)) ∈ TS := TS_in (List.mem_of_getElem? (i := 442) (by decide +kernel)) rfl
theorem tw_443 : (Jvm.Cond.instanceMethod ({ cls := "BetweenCounts$Fraction", name := "addRatio", desc := "(II)V" } : Jvm.MethodName)) ∈ TS := TS_in (List.mem_of_getElem? (i := 443) (by decide +kernel)) rfl
theorem tw_444 : (Jvm.Cond.selects "BetweenCounts$Fraction" ({ cls := "BetweenCounts$Fraction", name := "addRatio", desc := "(II)V" } : Jvm.MethodName) ({ cls := "BetweenCounts$Fraction", name := "addRatio", desc := "(II)V" } : Jvm.MethodName)) ∈ TS := TS_in (List.mem_of_getElem? (i := 444) (by decide +kernel)) rfl
set_option maxRecDepth 20000 in
theorem tw_445 : (Jvm.Cond.code ({ cls := "BetweenCounts$Fraction", name := "addRatio", desc := "(II)V" } : Jvm.MethodName) prog_5_method_4_code (7 : Nat) (Option.none : Option Jvm.ClassFile.FieldType)) ∈ TS := TS_in (List.mem_of_getElem? (i := 445) rfl) rfl
theorem tw_446 : (Jvm.Cond.methodLink "BetweenCounts$Fraction" (31 : Nat) ({ cls := "BetweenCounts$Fraction", name := "commonDivisor", desc := "(II)I" } : Jvm.MethodName)) ∈ TS := TS_in (List.mem_of_getElem? (i := 446) (by decide +kernel)) rfl
theorem tw_447 : (Jvm.Cond.static ({ cls := "BetweenCounts$Fraction", name := "commonDivisor", desc := "(II)I" } : Jvm.MethodName)) ∈ TS := TS_in (List.mem_of_getElem? (i := 447) (by decide +kernel)) rfl
set_option maxRecDepth 20000 in
theorem tw_448 : (Jvm.Cond.code ({ cls := "BetweenCounts$Fraction", name := "commonDivisor", desc := "(II)I" } : Jvm.MethodName) prog_5_method_5_code (6 : Nat) (Option.some Jvm.ClassFile.FieldType.int)) ∈ TS := TS_in (List.mem_of_getElem? (i := 448) rfl) rfl
theorem tw_449 : (Jvm.Cond.methodLink "BetweenCounts$Fraction" (50 : Nat) ({ cls := "java/lang/Math", name := "max", desc := "(II)I" } : Jvm.MethodName)) ∈ TS := TS_in (List.mem_of_getElem? (i := 449) (by decide +kernel)) rfl
theorem tw_450 : (Jvm.Cond.methodLink "BetweenCounts$Fraction" (35 : Nat) ({ cls := "BetweenCounts$Big", name := "rest", desc := "(I)I" } : Jvm.MethodName)) ∈ TS := TS_in (List.mem_of_getElem? (i := 450) (by decide +kernel)) rfl
theorem tw_451 : (Jvm.Cond.instanceMethod ({ cls := "BetweenCounts$Big", name := "rest", desc := "(I)I" } : Jvm.MethodName)) ∈ TS := TS_in (List.mem_of_getElem? (i := 451) (by decide +kernel)) rfl
theorem tw_452 : (Jvm.Cond.selects "BetweenCounts$Big" ({ cls := "BetweenCounts$Big", name := "rest", desc := "(I)I" } : Jvm.MethodName) ({ cls := "BetweenCounts$Big", name := "rest", desc := "(I)I" } : Jvm.MethodName)) ∈ TS := TS_in (List.mem_of_getElem? (i := 452) (by decide +kernel)) rfl
set_option maxRecDepth 20000 in
theorem tw_453 : (Jvm.Cond.code ({ cls := "BetweenCounts$Big", name := "rest", desc := "(I)I" } : Jvm.MethodName) prog_2_method_17_code (5 : Nat) (Option.some Jvm.ClassFile.FieldType.int)) ∈ TS := TS_in (List.mem_of_getElem? (i := 453) rfl) rfl
theorem tw_454 : (Jvm.Cond.methodLink "BetweenCounts$Fraction" (39 : Nat) ({ cls := "BetweenCounts$Big", name := "divideSmall", desc := "(J)J" } : Jvm.MethodName)) ∈ TS := TS_in (List.mem_of_getElem? (i := 454) (by decide +kernel)) rfl
theorem tw_455 : (Jvm.Cond.instanceMethod ({ cls := "BetweenCounts$Big", name := "divideSmall", desc := "(J)J" } : Jvm.MethodName)) ∈ TS := TS_in (List.mem_of_getElem? (i := 455) (by decide +kernel)) rfl
theorem tw_456 : (Jvm.Cond.selects "BetweenCounts$Big" ({ cls := "BetweenCounts$Big", name := "divideSmall", desc := "(J)J" } : Jvm.MethodName) ({ cls := "BetweenCounts$Big", name := "divideSmall", desc := "(J)J" } : Jvm.MethodName)) ∈ TS := TS_in (List.mem_of_getElem? (i := 456) (by decide +kernel)) rfl
set_option maxRecDepth 20000 in
theorem tw_457 : (Jvm.Cond.code ({ cls := "BetweenCounts$Big", name := "divideSmall", desc := "(J)J" } : Jvm.MethodName) prog_2_method_16_code (8 : Nat) (Option.some Jvm.ClassFile.FieldType.long)) ∈ TS := TS_in (List.mem_of_getElem? (i := 457) rfl) rfl
