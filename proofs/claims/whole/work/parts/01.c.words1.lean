theorem tw_458 : (Jvm.Cond.methodLink "BetweenCounts$Big" (40 : Nat) ({ cls := "BetweenCounts$Big", name := "trim", desc := "()V" } : Jvm.MethodName)) ∈ TS := TS_in (List.mem_of_getElem? (i := 458) (by decide +kernel)) rfl
theorem tw_459 : (Jvm.Cond.instanceMethod ({ cls := "BetweenCounts$Big", name := "trim", desc := "()V" } : Jvm.MethodName)) ∈ TS := TS_in (List.mem_of_getElem? (i := 459) (by decide +kernel)) rfl
theorem tw_460 : (Jvm.Cond.selects "BetweenCounts$Big" ({ cls := "BetweenCounts$Big", name := "trim", desc := "()V" } : Jvm.MethodName) ({ cls := "BetweenCounts$Big", name := "trim", desc := "()V" } : Jvm.MethodName)) ∈ TS := TS_in (List.mem_of_getElem? (i := 460) (by decide +kernel)) rfl
set_option maxRecDepth 20000 in
theorem tw_461 : (Jvm.Cond.code ({ cls := "BetweenCounts$Big", name := "trim", desc := "()V" } : Jvm.MethodName) prog_2_method_8_code (1 : Nat) (Option.none : Option Jvm.ClassFile.FieldType)) ∈ TS := TS_in (List.mem_of_getElem? (i := 461) rfl) rfl
theorem tw_462 : (Jvm.Cond.methodLink "BetweenCounts$Fraction" (43 : Nat) ({ cls := "BetweenCounts$Big", name := "times", desc := "(J)V" } : Jvm.MethodName)) ∈ TS := TS_in (List.mem_of_getElem? (i := 462) (by decide +kernel)) rfl
theorem tw_463 : (Jvm.Cond.instanceMethod ({ cls := "BetweenCounts$Big", name := "times", desc := "(J)V" } : Jvm.MethodName)) ∈ TS := TS_in (List.mem_of_getElem? (i := 463) (by decide +kernel)) rfl
theorem tw_464 : (Jvm.Cond.selects "BetweenCounts$Big" ({ cls := "BetweenCounts$Big", name := "times", desc := "(J)V" } : Jvm.MethodName) ({ cls := "BetweenCounts$Big", name := "times", desc := "(J)V" } : Jvm.MethodName)) ∈ TS := TS_in (List.mem_of_getElem? (i := 464) (by decide +kernel)) rfl
set_option maxRecDepth 20000 in
theorem tw_465 : (Jvm.Cond.code ({ cls := "BetweenCounts$Big", name := "times", desc := "(J)V" } : Jvm.MethodName) prog_2_method_10_code (8 : Nat) (Option.none : Option Jvm.ClassFile.FieldType)) ∈ TS := TS_in (List.mem_of_getElem? (i := 465) rfl) rfl
theorem tw_466 : (Jvm.Cond.constantLong "BetweenCounts$Big" (38 : Nat) (1073741823 : Int64)) ∈ TS := TS_in (List.mem_of_getElem? (i := 466) (by decide +kernel)) rfl
theorem tw_467 : (Jvm.Cond.methodLink "BetweenCounts$Fraction" (46 : Nat) ({ cls := "BetweenCounts$Big", name := "addTimes", desc := "(LBetweenCounts$Big;J)V" } : Jvm.MethodName)) ∈ TS := TS_in (List.mem_of_getElem? (i := 467) (by decide +kernel)) rfl
theorem tw_468 : (Jvm.Cond.instanceMethod ({ cls := "BetweenCounts$Big", name := "addTimes", desc := "(LBetweenCounts$Big;J)V" } : Jvm.MethodName)) ∈ TS := TS_in (List.mem_of_getElem? (i := 468) (by decide +kernel)) rfl
theorem tw_469 : (Jvm.Cond.selects "BetweenCounts$Big" ({ cls := "BetweenCounts$Big", name := "addTimes", desc := "(LBetweenCounts$Big;J)V" } : Jvm.MethodName) ({ cls := "BetweenCounts$Big", name := "addTimes", desc := "(LBetweenCounts$Big;J)V" } : Jvm.MethodName)) ∈ TS := TS_in (List.mem_of_getElem? (i := 469) (by decide +kernel)) rfl
set_option maxRecDepth 20000 in
theorem tw_470 : (Jvm.Cond.code ({ cls := "BetweenCounts$Big", name := "addTimes", desc := "(LBetweenCounts$Big;J)V" } : Jvm.MethodName) prog_2_method_11_code (9 : Nat) (Option.none : Option Jvm.ClassFile.FieldType)) ∈ TS := TS_in (List.mem_of_getElem? (i := 470) rfl) rfl
theorem tw_471 : (Jvm.Cond.methodLink "BetweenCounts$Big" (43 : Nat) ({ cls := "BetweenCounts$Big", name := "pad", desc := "(I)V" } : Jvm.MethodName)) ∈ TS := TS_in (List.mem_of_getElem? (i := 471) (by decide +kernel)) rfl
theorem tw_472 : (Jvm.Cond.instanceMethod ({ cls := "BetweenCounts$Big", name := "pad", desc := "(I)V" } : Jvm.MethodName)) ∈ TS := TS_in (List.mem_of_getElem? (i := 472) (by decide +kernel)) rfl
theorem tw_473 : (Jvm.Cond.selects "BetweenCounts$Big" ({ cls := "BetweenCounts$Big", name := "pad", desc := "(I)V" } : Jvm.MethodName) ({ cls := "BetweenCounts$Big", name := "pad", desc := "(I)V" } : Jvm.MethodName)) ∈ TS := TS_in (List.mem_of_getElem? (i := 473) (by decide +kernel)) rfl
set_option maxRecDepth 20000 in
theorem tw_474 : (Jvm.Cond.code ({ cls := "BetweenCounts$Big", name := "pad", desc := "(I)V" } : Jvm.MethodName) prog_2_method_6_code (4 : Nat) (Option.none : Option Jvm.ClassFile.FieldType)) ∈ TS := TS_in (List.mem_of_getElem? (i := 474) rfl) rfl
theorem tw_475 : (Jvm.Cond.methodLink "BetweenCounts$Big" (29 : Nat) ({ cls := "java/lang/Math", name := "min", desc := "(II)I" } : Jvm.MethodName)) ∈ TS := TS_in (List.mem_of_getElem? (i := 475) (by decide +kernel)) rfl
theorem tw_476 : (Jvm.Cond.static ({ cls := "java/lang/Math", name := "min", desc := "(II)I" } : Jvm.MethodName)) ∈ TS := TS_in (List.mem_of_getElem? (i := 476) (by decide +kernel)) rfl
set_option maxRecDepth 20000 in
theorem tw_477 : (Jvm.Cond.code ({ cls := "java/lang/Math", name := "min", desc := "(II)I" } : Jvm.MethodName) prog_11_method_69_code (2 : Nat) (Option.some Jvm.ClassFile.FieldType.int)) ∈ TS := TS_in (List.mem_of_getElem? (i := 477) rfl) rfl
theorem tw_478 : (Jvm.Cond.methodLink "BetweenCounts$Big" (47 : Nat) ({ cls := "BetweenCounts$Big", name := "carryFrom", desc := "(IJ)V" } : Jvm.MethodName)) ∈ TS := TS_in (List.mem_of_getElem? (i := 478) (by decide +kernel)) rfl
theorem tw_480 : (Jvm.Cond.instanceMethod ({ cls := "BetweenCounts$Big", name := "carryFrom", desc := "(IJ)V" } : Jvm.MethodName)) ∈ TS := TS_in (List.mem_of_getElem? (i := 480) (by decide +kernel)) rfl
set_option maxRecDepth 20000 in
theorem tw_481 : (Jvm.Cond.code ({ cls := "BetweenCounts$Big", name := "carryFrom", desc := "(IJ)V" } : Jvm.MethodName) prog_2_method_14_code (9 : Nat) (Option.none : Option Jvm.ClassFile.FieldType)) ∈ TS := TS_in (List.mem_of_getElem? (i := 481) rfl) rfl
theorem tw_482 : (Jvm.Cond.methodLink "BetweenCounts" (126 : Nat) ({ cls := "BetweenCounts$Fraction", name := "limb", desc := "(II)J" } : Jvm.MethodName)) ∈ TS := TS_in (List.mem_of_getElem? (i := 482) (by decide +kernel)) rfl
theorem tw_483 : (Jvm.Cond.instanceMethod ({ cls := "BetweenCounts$Fraction", name := "limb", desc := "(II)J" } : Jvm.MethodName)) ∈ TS := TS_in (List.mem_of_getElem? (i := 483) (by decide +kernel)) rfl
theorem tw_484 : (Jvm.Cond.selects "BetweenCounts$Fraction" ({ cls := "BetweenCounts$Fraction", name := "limb", desc := "(II)J" } : Jvm.MethodName) ({ cls := "BetweenCounts$Fraction", name := "limb", desc := "(II)J" } : Jvm.MethodName)) ∈ TS := TS_in (List.mem_of_getElem? (i := 484) (by decide +kernel)) rfl
set_option maxRecDepth 20000 in
theorem tw_485 : (Jvm.Cond.code ({ cls := "BetweenCounts$Fraction", name := "limb", desc := "(II)J" } : Jvm.MethodName) prog_5_method_3_code (3 : Nat) (Option.some Jvm.ClassFile.FieldType.long)) ∈ TS := TS_in (List.mem_of_getElem? (i := 485) rfl) rfl
theorem tw_486 : (Jvm.Cond.methodLink "BetweenCounts$Fraction" (27 : Nat) ({ cls := "BetweenCounts$Big", name := "bitsOfLimb", desc := "(I)J" } : Jvm.MethodName)) ∈ TS := TS_in (List.mem_of_getElem? (i := 486) (by decide +kernel)) rfl
theorem tw_487 : (Jvm.Cond.instanceMethod ({ cls := "BetweenCounts$Big", name := "bitsOfLimb", desc := "(I)J" } : Jvm.MethodName)) ∈ TS := TS_in (List.mem_of_getElem? (i := 487) (by decide +kernel)) rfl
theorem tw_488 : (Jvm.Cond.selects "BetweenCounts$Big" ({ cls := "BetweenCounts$Big", name := "bitsOfLimb", desc := "(I)J" } : Jvm.MethodName) ({ cls := "BetweenCounts$Big", name := "bitsOfLimb", desc := "(I)J" } : Jvm.MethodName)) ∈ TS := TS_in (List.mem_of_getElem? (i := 488) (by decide +kernel)) rfl
set_option maxRecDepth 20000 in
theorem tw_489 : (Jvm.Cond.code ({ cls := "BetweenCounts$Big", name := "bitsOfLimb", desc := "(I)J" } : Jvm.MethodName) prog_2_method_18_code (8 : Nat) (Option.some Jvm.ClassFile.FieldType.long)) ∈ TS := TS_in (List.mem_of_getElem? (i := 489) rfl) rfl
theorem tw_490 : (Jvm.Cond.methodLink "BetweenCounts$Big" (55 : Nat) ({ cls := "BetweenCounts$Big", name := "digitAt", desc := "(I)J" } : Jvm.MethodName)) ∈ TS := TS_in (List.mem_of_getElem? (i := 490) (by decide +kernel)) rfl
theorem tw_491 : (Jvm.Cond.instanceMethod ({ cls := "BetweenCounts$Big", name := "digitAt", desc := "(I)J" } : Jvm.MethodName)) ∈ TS := TS_in (List.mem_of_getElem? (i := 491) (by decide +kernel)) rfl
theorem tw_492 : (Jvm.Cond.selects "BetweenCounts$Big" ({ cls := "BetweenCounts$Big", name := "digitAt", desc := "(I)J" } : Jvm.MethodName) ({ cls := "BetweenCounts$Big", name := "digitAt", desc := "(I)J" } : Jvm.MethodName)) ∈ TS := TS_in (List.mem_of_getElem? (i := 492) (by decide +kernel)) rfl
set_option maxRecDepth 20000 in
theorem tw_493 : (Jvm.Cond.code ({ cls := "BetweenCounts$Big", name := "digitAt", desc := "(I)J" } : Jvm.MethodName) prog_2_method_5_code (2 : Nat) (Option.some Jvm.ClassFile.FieldType.long)) ∈ TS := TS_in (List.mem_of_getElem? (i := 493) rfl) rfl
theorem tw_494 : (Jvm.Cond.constantLong "BetweenCounts$Big" (59 : Nat) (4294967295 : Int64)) ∈ TS := TS_in (List.mem_of_getElem? (i := 494) (by decide +kernel)) rfl
theorem tw_495 : (Jvm.Cond.methodLink "BetweenCountsLaw" (51 : Nat) ({ cls := "BetweenCounts", name := "arcBetween", desc := "(III)J" } : Jvm.MethodName)) ∈ TS := TS_in (List.mem_of_getElem? (i := 495) (by decide +kernel)) rfl
theorem tw_496 : (Jvm.Cond.instanceMethod ({ cls := "BetweenCounts", name := "arcBetween", desc := "(III)J" } : Jvm.MethodName)) ∈ TS := TS_in (List.mem_of_getElem? (i := 496) (by decide +kernel)) rfl
theorem tw_497 : (Jvm.Cond.selects "BetweenCounts" ({ cls := "BetweenCounts", name := "arcBetween", desc := "(III)J" } : Jvm.MethodName) ({ cls := "BetweenCounts", name := "arcBetween", desc := "(III)J" } : Jvm.MethodName)) ∈ TS := TS_in (List.mem_of_getElem? (i := 497) (by decide +kernel)) rfl
set_option maxRecDepth 20000 in
theorem tw_498 : (Jvm.Cond.code ({ cls := "BetweenCounts", name := "arcBetween", desc := "(III)J" } : Jvm.MethodName) prog_1_method_10_code (4 : Nat) (Option.some Jvm.ClassFile.FieldType.long)) ∈ TS := TS_in (List.mem_of_getElem? (i := 498) rfl) rfl
theorem tw_499 : (Jvm.Cond.methodLink "BetweenCounts" (130 : Nat) ({ cls := "BetweenCounts", name := "isNewQuestion", desc := "(I)Z" } : Jvm.MethodName)) ∈ TS := TS_in (List.mem_of_getElem? (i := 499) (by decide +kernel)) rfl
theorem tw_501 : (Jvm.Cond.instanceMethod ({ cls := "BetweenCounts", name := "isNewQuestion", desc := "(I)Z" } : Jvm.MethodName)) ∈ TS := TS_in (List.mem_of_getElem? (i := 501) (by decide +kernel)) rfl
set_option maxRecDepth 20000 in
theorem tw_502 : (Jvm.Cond.code ({ cls := "BetweenCounts", name := "isNewQuestion", desc := "(I)Z" } : Jvm.MethodName) prog_1_method_21_code (2 : Nat) (Option.some Jvm.ClassFile.FieldType.boolean)) ∈ TS := TS_in (List.mem_of_getElem? (i := 502) rfl) rfl
theorem tw_503 : (Jvm.Cond.methodLink "BetweenCounts" (133 : Nat) ({ cls := "BetweenCounts", name := "sumArc", desc := "(I)V" } : Jvm.MethodName)) ∈ TS := TS_in (List.mem_of_getElem? (i := 503) (by decide +kernel)) rfl
theorem tw_505 : (Jvm.Cond.instanceMethod ({ cls := "BetweenCounts", name := "sumArc", desc := "(I)V" } : Jvm.MethodName)) ∈ TS := TS_in (List.mem_of_getElem? (i := 505) (by decide +kernel)) rfl
set_option maxRecDepth 20000 in
theorem tw_506 : (Jvm.Cond.code ({ cls := "BetweenCounts", name := "sumArc", desc := "(I)V" } : Jvm.MethodName) prog_1_method_26_code (4 : Nat) (Option.none : Option Jvm.ClassFile.FieldType)) ∈ TS := TS_in (List.mem_of_getElem? (i := 506) rfl) rfl
theorem tw_507 : (Jvm.Cond.methodLink "BetweenCounts" (194 : Nat) ({ cls := "BetweenCounts$WayTable", name := "countBy", desc := "(III)I" } : Jvm.MethodName)) ∈ TS := TS_in (List.mem_of_getElem? (i := 507) (by decide +kernel)) rfl
theorem tw_508 : (Jvm.Cond.instanceMethod ({ cls := "BetweenCounts$WayTable", name := "countBy", desc := "(III)I" } : Jvm.MethodName)) ∈ TS := TS_in (List.mem_of_getElem? (i := 508) (by decide +kernel)) rfl
theorem tw_509 : (Jvm.Cond.selects "BetweenCounts$WayTable" ({ cls := "BetweenCounts$WayTable", name := "countBy", desc := "(III)I" } : Jvm.MethodName) ({ cls := "BetweenCounts$WayTable", name := "countBy", desc := "(III)I" } : Jvm.MethodName)) ∈ TS := TS_in (List.mem_of_getElem? (i := 509) (by decide +kernel)) rfl
set_option maxRecDepth 20000 in
theorem tw_510 : (Jvm.Cond.code ({ cls := "BetweenCounts$WayTable", name := "countBy", desc := "(III)I" } : Jvm.MethodName) prog_8_method_8_code (6 : Nat) (Option.some Jvm.ClassFile.FieldType.int)) ∈ TS := TS_in (List.mem_of_getElem? (i := 510) rfl) rfl
theorem tw_511 : (Jvm.Cond.methodLink "BetweenCountsLaw" (55 : Nat) ({ cls := "BetweenCounts", name := "group", desc := "(II)J" } : Jvm.MethodName)) ∈ TS := TS_in (List.mem_of_getElem? (i := 511) (by decide +kernel)) rfl
theorem tw_512 : (Jvm.Cond.instanceMethod ({ cls := "BetweenCounts", name := "group", desc := "(II)J" } : Jvm.MethodName)) ∈ TS := TS_in (List.mem_of_getElem? (i := 512) (by decide +kernel)) rfl
theorem tw_513 : (Jvm.Cond.selects "BetweenCounts" ({ cls := "BetweenCounts", name := "group", desc := "(II)J" } : Jvm.MethodName) ({ cls := "BetweenCounts", name := "group", desc := "(II)J" } : Jvm.MethodName)) ∈ TS := TS_in (List.mem_of_getElem? (i := 513) (by decide +kernel)) rfl
set_option maxRecDepth 20000 in
theorem tw_514 : (Jvm.Cond.code ({ cls := "BetweenCounts", name := "group", desc := "(II)J" } : Jvm.MethodName) prog_1_method_11_code (3 : Nat) (Option.some Jvm.ClassFile.FieldType.long)) ∈ TS := TS_in (List.mem_of_getElem? (i := 514) rfl) rfl
theorem tw_515 : (Jvm.Cond.methodLink "BetweenCounts" (136 : Nat) ({ cls := "BetweenCounts", name := "sumGroup", desc := "()V" } : Jvm.MethodName)) ∈ TS := TS_in (List.mem_of_getElem? (i := 515) (by decide +kernel)) rfl
theorem tw_517 : (Jvm.Cond.instanceMethod ({ cls := "BetweenCounts", name := "sumGroup", desc := "()V" } : Jvm.MethodName)) ∈ TS := TS_in (List.mem_of_getElem? (i := 517) (by decide +kernel)) rfl
set_option maxRecDepth 20000 in
theorem tw_518 : (Jvm.Cond.code ({ cls := "BetweenCounts", name := "sumGroup", desc := "()V" } : Jvm.MethodName) prog_1_method_27_code (3 : Nat) (Option.none : Option Jvm.ClassFile.FieldType)) ∈ TS := TS_in (List.mem_of_getElem? (i := 518) rfl) rfl
theorem tw_519 : (Jvm.Cond.methodLink "BetweenCounts" (197 : Nat) ({ cls := "BetweenCounts", name := "countAround", desc := "(II)I" } : Jvm.MethodName)) ∈ TS := TS_in (List.mem_of_getElem? (i := 519) (by decide +kernel)) rfl
theorem tw_521 : (Jvm.Cond.instanceMethod ({ cls := "BetweenCounts", name := "countAround", desc := "(II)I" } : Jvm.MethodName)) ∈ TS := TS_in (List.mem_of_getElem? (i := 521) (by decide +kernel)) rfl
set_option maxRecDepth 20000 in
theorem tw_522 : (Jvm.Cond.code ({ cls := "BetweenCounts", name := "countAround", desc := "(II)I" } : Jvm.MethodName) prog_1_method_28_code (3 : Nat) (Option.some Jvm.ClassFile.FieldType.int)) ∈ TS := TS_in (List.mem_of_getElem? (i := 522) rfl) rfl
theorem tw_523 : (Jvm.Cond.methodLink "BetweenCountsLaw" (60 : Nat) ({ cls := "BetweenCounts", name := "harmonic", desc := "(III)J" } : Jvm.MethodName)) ∈ TS := TS_in (List.mem_of_getElem? (i := 523) (by decide +kernel)) rfl
theorem tw_524 : (Jvm.Cond.instanceMethod ({ cls := "BetweenCounts", name := "harmonic", desc := "(III)J" } : Jvm.MethodName)) ∈ TS := TS_in (List.mem_of_getElem? (i := 524) (by decide +kernel)) rfl
theorem tw_525 : (Jvm.Cond.selects "BetweenCounts" ({ cls := "BetweenCounts", name := "harmonic", desc := "(III)J" } : Jvm.MethodName) ({ cls := "BetweenCounts", name := "harmonic", desc := "(III)J" } : Jvm.MethodName)) ∈ TS := TS_in (List.mem_of_getElem? (i := 525) (by decide +kernel)) rfl
set_option maxRecDepth 20000 in
theorem tw_526 : (Jvm.Cond.code ({ cls := "BetweenCounts", name := "harmonic", desc := "(III)J" } : Jvm.MethodName) prog_1_method_12_code (4 : Nat) (Option.some Jvm.ClassFile.FieldType.long)) ∈ TS := TS_in (List.mem_of_getElem? (i := 526) rfl) rfl
theorem tw_527 : (Jvm.Cond.methodLink "BetweenCounts" (139 : Nat) ({ cls := "BetweenCounts", name := "sumHarmonic", desc := "(I)V" } : Jvm.MethodName)) ∈ TS := TS_in (List.mem_of_getElem? (i := 527) (by decide +kernel)) rfl
theorem tw_529 : (Jvm.Cond.instanceMethod ({ cls := "BetweenCounts", name := "sumHarmonic", desc := "(I)V" } : Jvm.MethodName)) ∈ TS := TS_in (List.mem_of_getElem? (i := 529) (by decide +kernel)) rfl
set_option maxRecDepth 20000 in
theorem tw_530 : (Jvm.Cond.code ({ cls := "BetweenCounts", name := "sumHarmonic", desc := "(I)V" } : Jvm.MethodName) prog_1_method_29_code (3 : Nat) (Option.none : Option Jvm.ClassFile.FieldType)) ∈ TS := TS_in (List.mem_of_getElem? (i := 530) rfl) rfl
theorem tw_531 : (Jvm.Cond.methodLink "BetweenCountsLaw" (64 : Nat) ({ cls := "BetweenCounts", name := "close", desc := "(III)J" } : Jvm.MethodName)) ∈ TS := TS_in (List.mem_of_getElem? (i := 531) (by decide +kernel)) rfl
theorem tw_532 : (Jvm.Cond.instanceMethod ({ cls := "BetweenCounts", name := "close", desc := "(III)J" } : Jvm.MethodName)) ∈ TS := TS_in (List.mem_of_getElem? (i := 532) (by decide +kernel)) rfl
theorem tw_533 : (Jvm.Cond.selects "BetweenCounts" ({ cls := "BetweenCounts", name := "close", desc := "(III)J" } : Jvm.MethodName) ({ cls := "BetweenCounts", name := "close", desc := "(III)J" } : Jvm.MethodName)) ∈ TS := TS_in (List.mem_of_getElem? (i := 533) (by decide +kernel)) rfl
set_option maxRecDepth 20000 in
theorem tw_534 : (Jvm.Cond.code ({ cls := "BetweenCounts", name := "close", desc := "(III)J" } : Jvm.MethodName) prog_1_method_13_code (4 : Nat) (Option.some Jvm.ClassFile.FieldType.long)) ∈ TS := TS_in (List.mem_of_getElem? (i := 534) rfl) rfl
theorem tw_535 : (Jvm.Cond.methodLink "BetweenCounts" (142 : Nat) ({ cls := "BetweenCounts", name := "sumClose", desc := "(I)V" } : Jvm.MethodName)) ∈ TS := TS_in (List.mem_of_getElem? (i := 535) (by decide +kernel)) rfl
theorem tw_537 : (Jvm.Cond.instanceMethod ({ cls := "BetweenCounts", name := "sumClose", desc := "(I)V" } : Jvm.MethodName)) ∈ TS := TS_in (List.mem_of_getElem? (i := 537) (by decide +kernel)) rfl
set_option maxRecDepth 20000 in
theorem tw_538 : (Jvm.Cond.code ({ cls := "BetweenCounts", name := "sumClose", desc := "(I)V" } : Jvm.MethodName) prog_1_method_30_code (5 : Nat) (Option.none : Option Jvm.ClassFile.FieldType)) ∈ TS := TS_in (List.mem_of_getElem? (i := 538) rfl) rfl
theorem tw_539 : (Jvm.Cond.methodLink "BetweenCountsLaw" (68 : Nat) ({ cls := "BetweenCounts", name := "top", desc := "(I)I" } : Jvm.MethodName)) ∈ TS := TS_in (List.mem_of_getElem? (i := 539) (by decide +kernel)) rfl
theorem tw_540 : (Jvm.Cond.instanceMethod ({ cls := "BetweenCounts", name := "top", desc := "(I)I" } : Jvm.MethodName)) ∈ TS := TS_in (List.mem_of_getElem? (i := 540) (by decide +kernel)) rfl
theorem tw_541 : (Jvm.Cond.selects "BetweenCounts" ({ cls := "BetweenCounts", name := "top", desc := "(I)I" } : Jvm.MethodName) ({ cls := "BetweenCounts", name := "top", desc := "(I)I" } : Jvm.MethodName)) ∈ TS := TS_in (List.mem_of_getElem? (i := 541) (by decide +kernel)) rfl
set_option maxRecDepth 20000 in
theorem tw_542 : (Jvm.Cond.code ({ cls := "BetweenCounts", name := "top", desc := "(I)I" } : Jvm.MethodName) prog_1_method_14_code (3 : Nat) (Option.some Jvm.ClassFile.FieldType.int)) ∈ TS := TS_in (List.mem_of_getElem? (i := 542) rfl) rfl
theorem tw_543 : (Jvm.Cond.methodLink "BetweenCounts" (145 : Nat) ({ cls := "BetweenCounts$Ranking", name := "nodeAt", desc := "(II)I" } : Jvm.MethodName)) ∈ TS := TS_in (List.mem_of_getElem? (i := 543) (by decide +kernel)) rfl
theorem tw_544 : (Jvm.Cond.instanceMethod ({ cls := "BetweenCounts$Ranking", name := "nodeAt", desc := "(II)I" } : Jvm.MethodName)) ∈ TS := TS_in (List.mem_of_getElem? (i := 544) (by decide +kernel)) rfl
theorem tw_545 : (Jvm.Cond.selects "BetweenCounts$Ranking" ({ cls := "BetweenCounts$Ranking", name := "nodeAt", desc := "(II)I" } : Jvm.MethodName) ({ cls := "BetweenCounts$Ranking", name := "nodeAt", desc := "(II)I" } : Jvm.MethodName)) ∈ TS := TS_in (List.mem_of_getElem? (i := 545) (by decide +kernel)) rfl
set_option maxRecDepth 20000 in
theorem tw_546 : (Jvm.Cond.code ({ cls := "BetweenCounts$Ranking", name := "nodeAt", desc := "(II)I" } : Jvm.MethodName) prog_7_method_3_code (4 : Nat) (Option.some Jvm.ClassFile.FieldType.int)) ∈ TS := TS_in (List.mem_of_getElem? (i := 546) rfl) rfl
theorem tw_547 : (Jvm.Cond.methodLink "BetweenCounts$Ranking" (42 : Nat) ({ cls := "BetweenCounts$Ranking", name := "countAhead", desc := "(I)V" } : Jvm.MethodName)) ∈ TS := TS_in (List.mem_of_getElem? (i := 547) (by decide +kernel)) rfl
theorem tw_549 : (Jvm.Cond.instanceMethod ({ cls := "BetweenCounts$Ranking", name := "countAhead", desc := "(I)V" } : Jvm.MethodName)) ∈ TS := TS_in (List.mem_of_getElem? (i := 549) (by decide +kernel)) rfl
set_option maxRecDepth 20000 in
theorem tw_550 : (Jvm.Cond.code ({ cls := "BetweenCounts$Ranking", name := "countAhead", desc := "(I)V" } : Jvm.MethodName) prog_7_method_4_code (4 : Nat) (Option.none : Option Jvm.ClassFile.FieldType)) ∈ TS := TS_in (List.mem_of_getElem? (i := 550) rfl) rfl
theorem tw_551 : (Jvm.Cond.methodLink "BetweenCounts$Ranking" (45 : Nat) ({ cls := "java/util/Arrays", name := "fill", desc := "([II)V" } : Jvm.MethodName)) ∈ TS := TS_in (List.mem_of_getElem? (i := 551) (by decide +kernel)) rfl
theorem tw_552 : (Jvm.Cond.methodLink "BetweenCounts$Ranking" (51 : Nat) ({ cls := "BetweenCounts$Ranking", name := "isLess", desc := "(LBetweenCounts$Fraction;LBetweenCounts$Fraction;)Z" } : Jvm.MethodName)) ∈ TS := TS_in (List.mem_of_getElem? (i := 552) (by decide +kernel)) rfl
theorem tw_554 : (Jvm.Cond.instanceMethod ({ cls := "BetweenCounts$Ranking", name := "isLess", desc := "(LBetweenCounts$Fraction;LBetweenCounts$Fraction;)Z" } : Jvm.MethodName)) ∈ TS := TS_in (List.mem_of_getElem? (i := 554) (by decide +kernel)) rfl
set_option maxRecDepth 20000 in
theorem tw_555 : (Jvm.Cond.code ({ cls := "BetweenCounts$Ranking", name := "isLess", desc := "(LBetweenCounts$Fraction;LBetweenCounts$Fraction;)Z" } : Jvm.MethodName) prog_7_method_5_code (3 : Nat) (Option.some Jvm.ClassFile.FieldType.boolean)) ∈ TS := TS_in (List.mem_of_getElem? (i := 555) rfl) rfl
theorem tw_556 : (Jvm.Cond.methodLink "BetweenCounts$Ranking" (61 : Nat) ({ cls := "BetweenCounts$Big", name := "setProduct", desc := "(LBetweenCounts$Big;LBetweenCounts$Big;)V" } : Jvm.MethodName)) ∈ TS := TS_in (List.mem_of_getElem? (i := 556) (by decide +kernel)) rfl
theorem tw_557 : (Jvm.Cond.instanceMethod ({ cls := "BetweenCounts$Big", name := "setProduct", desc := "(LBetweenCounts$Big;LBetweenCounts$Big;)V" } : Jvm.MethodName)) ∈ TS := TS_in (List.mem_of_getElem? (i := 557) (by decide +kernel)) rfl
theorem tw_558 : (Jvm.Cond.selects "BetweenCounts$Big" ({ cls := "BetweenCounts$Big", name := "setProduct", desc := "(LBetweenCounts$Big;LBetweenCounts$Big;)V" } : Jvm.MethodName) ({ cls := "BetweenCounts$Big", name := "setProduct", desc := "(LBetweenCounts$Big;LBetweenCounts$Big;)V" } : Jvm.MethodName)) ∈ TS := TS_in (List.mem_of_getElem? (i := 558) (by decide +kernel)) rfl
set_option maxRecDepth 20000 in
theorem tw_559 : (Jvm.Cond.code ({ cls := "BetweenCounts$Big", name := "setProduct", desc := "(LBetweenCounts$Big;LBetweenCounts$Big;)V" } : Jvm.MethodName) prog_2_method_12_code (3 : Nat) (Option.none : Option Jvm.ClassFile.FieldType)) ∈ TS := TS_in (List.mem_of_getElem? (i := 559) rfl) rfl
theorem tw_560 : (Jvm.Cond.methodLink "BetweenCounts$Big" (51 : Nat) ({ cls := "BetweenCounts$Big", name := "addProduct", desc := "(LBetweenCounts$Big;LBetweenCounts$Big;)V" } : Jvm.MethodName)) ∈ TS := TS_in (List.mem_of_getElem? (i := 560) (by decide +kernel)) rfl
theorem tw_561 : (Jvm.Cond.instanceMethod ({ cls := "BetweenCounts$Big", name := "addProduct", desc := "(LBetweenCounts$Big;LBetweenCounts$Big;)V" } : Jvm.MethodName)) ∈ TS := TS_in (List.mem_of_getElem? (i := 561) (by decide +kernel)) rfl
theorem tw_562 : (Jvm.Cond.selects "BetweenCounts$Big" ({ cls := "BetweenCounts$Big", name := "addProduct", desc := "(LBetweenCounts$Big;LBetweenCounts$Big;)V" } : Jvm.MethodName) ({ cls := "BetweenCounts$Big", name := "addProduct", desc := "(LBetweenCounts$Big;LBetweenCounts$Big;)V" } : Jvm.MethodName)) ∈ TS := TS_in (List.mem_of_getElem? (i := 562) (by decide +kernel)) rfl
set_option maxRecDepth 20000 in
theorem tw_563 : (Jvm.Cond.code ({ cls := "BetweenCounts$Big", name := "addProduct", desc := "(LBetweenCounts$Big;LBetweenCounts$Big;)V" } : Jvm.MethodName) prog_2_method_13_code (11 : Nat) (Option.none : Option Jvm.ClassFile.FieldType)) ∈ TS := TS_in (List.mem_of_getElem? (i := 563) rfl) rfl
theorem tw_564 : (Jvm.Cond.methodLink "BetweenCounts$Ranking" (65 : Nat) ({ cls := "BetweenCounts$Big", name := "compareWith", desc := "(LBetweenCounts$Big;)I" } : Jvm.MethodName)) ∈ TS := TS_in (List.mem_of_getElem? (i := 564) (by decide +kernel)) rfl
theorem tw_565 : (Jvm.Cond.instanceMethod ({ cls := "BetweenCounts$Big", name := "compareWith", desc := "(LBetweenCounts$Big;)I" } : Jvm.MethodName)) ∈ TS := TS_in (List.mem_of_getElem? (i := 565) (by decide +kernel)) rfl
theorem tw_566 : (Jvm.Cond.selects "BetweenCounts$Big" ({ cls := "BetweenCounts$Big", name := "compareWith", desc := "(LBetweenCounts$Big;)I" } : Jvm.MethodName) ({ cls := "BetweenCounts$Big", name := "compareWith", desc := "(LBetweenCounts$Big;)I" } : Jvm.MethodName)) ∈ TS := TS_in (List.mem_of_getElem? (i := 566) (by decide +kernel)) rfl
set_option maxRecDepth 20000 in
theorem tw_567 : (Jvm.Cond.code ({ cls := "BetweenCounts$Big", name := "compareWith", desc := "(LBetweenCounts$Big;)I" } : Jvm.MethodName) prog_2_method_9_code (3 : Nat) (Option.some Jvm.ClassFile.FieldType.int)) ∈ TS := TS_in (List.mem_of_getElem? (i := 567) rfl) rfl
theorem tw_568 : (Jvm.Cond.methodLink "BetweenCountsLaw" (73 : Nat) ({ cls := "BetweenCounts", name := "resistance", desc := "(IIII)J" } : Jvm.MethodName)) ∈ TS := TS_in (List.mem_of_getElem? (i := 568) (by decide +kernel)) rfl
theorem tw_569 : (Jvm.Cond.instanceMethod ({ cls := "BetweenCounts", name := "resistance", desc := "(IIII)J" } : Jvm.MethodName)) ∈ TS := TS_in (List.mem_of_getElem? (i := 569) (by decide +kernel)) rfl
theorem tw_570 : (Jvm.Cond.selects "BetweenCounts" ({ cls := "BetweenCounts", name := "resistance", desc := "(IIII)J" } : Jvm.MethodName) ({ cls := "BetweenCounts", name := "resistance", desc := "(IIII)J" } : Jvm.MethodName)) ∈ TS := TS_in (List.mem_of_getElem? (i := 570) (by decide +kernel)) rfl
set_option maxRecDepth 20000 in
theorem tw_571 : (Jvm.Cond.code ({ cls := "BetweenCounts", name := "resistance", desc := "(IIII)J" } : Jvm.MethodName) prog_1_method_15_code (5 : Nat) (Option.some Jvm.ClassFile.FieldType.long)) ∈ TS := TS_in (List.mem_of_getElem? (i := 571) rfl) rfl
theorem tw_572 : (Jvm.Cond.methodLink "BetweenCounts" (149 : Nat) ({ cls := "BetweenCounts$Flow", name := "refresh", desc := "()V" } : Jvm.MethodName)) ∈ TS := TS_in (List.mem_of_getElem? (i := 572) (by decide +kernel)) rfl
theorem tw_573 : (Jvm.Cond.instanceMethod ({ cls := "BetweenCounts$Flow", name := "refresh", desc := "()V" } : Jvm.MethodName)) ∈ TS := TS_in (List.mem_of_getElem? (i := 573) (by decide +kernel)) rfl
theorem tw_574 : (Jvm.Cond.selects "BetweenCounts$Flow" ({ cls := "BetweenCounts$Flow", name := "refresh", desc := "()V" } : Jvm.MethodName) ({ cls := "BetweenCounts$Flow", name := "refresh", desc := "()V" } : Jvm.MethodName)) ∈ TS := TS_in (List.mem_of_getElem? (i := 574) (by decide +kernel)) rfl
set_option maxRecDepth 20000 in
theorem tw_575 : (Jvm.Cond.code ({ cls := "BetweenCounts$Flow", name := "refresh", desc := "()V" } : Jvm.MethodName) prog_4_method_3_code (2 : Nat) (Option.none : Option Jvm.ClassFile.FieldType)) ∈ TS := TS_in (List.mem_of_getElem? (i := 575) rfl) rfl
theorem tw_576 : (Jvm.Cond.methodLink "BetweenCounts$Flow" (66 : Nat) ({ cls := "java/util/Arrays", name := "fill", desc := "([II)V" } : Jvm.MethodName)) ∈ TS := TS_in (List.mem_of_getElem? (i := 576) (by decide +kernel)) rfl
theorem tw_577 : (Jvm.Cond.methodLink "BetweenCounts$Flow" (84 : Nat) ({ cls := "BetweenCounts$Flow", name := "lowerGrounds", desc := "()V" } : Jvm.MethodName)) ∈ TS := TS_in (List.mem_of_getElem? (i := 577) (by decide +kernel)) rfl
theorem tw_579 : (Jvm.Cond.instanceMethod ({ cls := "BetweenCounts$Flow", name := "lowerGrounds", desc := "()V" } : Jvm.MethodName)) ∈ TS := TS_in (List.mem_of_getElem? (i := 579) (by decide +kernel)) rfl
set_option maxRecDepth 20000 in
theorem tw_580 : (Jvm.Cond.code ({ cls := "BetweenCounts$Flow", name := "lowerGrounds", desc := "()V" } : Jvm.MethodName) prog_4_method_4_code (3 : Nat) (Option.none : Option Jvm.ClassFile.FieldType)) ∈ TS := TS_in (List.mem_of_getElem? (i := 580) rfl) rfl
theorem tw_581 : (Jvm.Cond.methodLink "BetweenCounts$Flow" (87 : Nat) ({ cls := "java/lang/Math", name := "min", desc := "(II)I" } : Jvm.MethodName)) ∈ TS := TS_in (List.mem_of_getElem? (i := 581) (by decide +kernel)) rfl
theorem tw_582 : (Jvm.Cond.methodLink "BetweenCounts" (153 : Nat) ({ cls := "BetweenCounts$Flow", name := "settle", desc := "(I)V" } : Jvm.MethodName)) ∈ TS := TS_in (List.mem_of_getElem? (i := 582) (by decide +kernel)) rfl
theorem tw_583 : (Jvm.Cond.instanceMethod ({ cls := "BetweenCounts$Flow", name := "settle", desc := "(I)V" } : Jvm.MethodName)) ∈ TS := TS_in (List.mem_of_getElem? (i := 583) (by decide +kernel)) rfl
theorem tw_584 : (Jvm.Cond.selects "BetweenCounts$Flow" ({ cls := "BetweenCounts$Flow", name := "settle", desc := "(I)V" } : Jvm.MethodName) ({ cls := "BetweenCounts$Flow", name := "settle", desc := "(I)V" } : Jvm.MethodName)) ∈ TS := TS_in (List.mem_of_getElem? (i := 584) (by decide +kernel)) rfl
set_option maxRecDepth 20000 in
theorem tw_585 : (Jvm.Cond.code ({ cls := "BetweenCounts$Flow", name := "settle", desc := "(I)V" } : Jvm.MethodName) prog_4_method_8_code (5 : Nat) (Option.none : Option Jvm.ClassFile.FieldType)) ∈ TS := TS_in (List.mem_of_getElem? (i := 585) rfl) rfl
theorem tw_586 : (Jvm.Cond.methodLink "BetweenCounts$Flow" (93 : Nat) ({ cls := "BetweenCounts$Big", name := "setSmall", desc := "(J)V" } : Jvm.MethodName)) ∈ TS := TS_in (List.mem_of_getElem? (i := 586) (by decide +kernel)) rfl
theorem tw_587 : (Jvm.Cond.methodLink "BetweenCounts$Flow" (97 : Nat) ({ cls := "BetweenCounts$Flow", name := "isInner", desc := "(II)Z" } : Jvm.MethodName)) ∈ TS := TS_in (List.mem_of_getElem? (i := 587) (by decide +kernel)) rfl
theorem tw_589 : (Jvm.Cond.instanceMethod ({ cls := "BetweenCounts$Flow", name := "isInner", desc := "(II)Z" } : Jvm.MethodName)) ∈ TS := TS_in (List.mem_of_getElem? (i := 589) (by decide +kernel)) rfl
set_option maxRecDepth 20000 in
theorem tw_590 : (Jvm.Cond.code ({ cls := "BetweenCounts$Flow", name := "isInner", desc := "(II)Z" } : Jvm.MethodName) prog_4_method_7_code (3 : Nat) (Option.some Jvm.ClassFile.FieldType.boolean)) ∈ TS := TS_in (List.mem_of_getElem? (i := 590) rfl) rfl
theorem tw_591 : (Jvm.Cond.methodLink "BetweenCounts$Flow" (101 : Nat) ({ cls := "BetweenCounts$Flow", name := "entryOf", desc := "(II)LBetweenCounts$Big;" } : Jvm.MethodName)) ∈ TS := TS_in (List.mem_of_getElem? (i := 591) (by decide +kernel)) rfl
theorem tw_593 : (Jvm.Cond.instanceMethod ({ cls := "BetweenCounts$Flow", name := "entryOf", desc := "(II)LBetweenCounts$Big;" } : Jvm.MethodName)) ∈ TS := TS_in (List.mem_of_getElem? (i := 593) (by decide +kernel)) rfl
set_option maxRecDepth 20000 in
theorem tw_594 : (Jvm.Cond.code ({ cls := "BetweenCounts$Flow", name := "entryOf", desc := "(II)LBetweenCounts$Big;" } : Jvm.MethodName) prog_4_method_6_code (3 : Nat) (Option.some (Jvm.ClassFile.FieldType.object "BetweenCounts$Big"))) ∈ TS := TS_in (List.mem_of_getElem? (i := 594) rfl) rfl
theorem tw_595 : (Jvm.Cond.methodLink "BetweenCounts$Flow" (105 : Nat) ({ cls := "BetweenCounts$Flow", name := "startOf", desc := "(II)I" } : Jvm.MethodName)) ∈ TS := TS_in (List.mem_of_getElem? (i := 595) (by decide +kernel)) rfl
theorem tw_597 : (Jvm.Cond.instanceMethod ({ cls := "BetweenCounts$Flow", name := "startOf", desc := "(II)I" } : Jvm.MethodName)) ∈ TS := TS_in (List.mem_of_getElem? (i := 597) (by decide +kernel)) rfl
set_option maxRecDepth 20000 in
theorem tw_598 : (Jvm.Cond.code ({ cls := "BetweenCounts$Flow", name := "startOf", desc := "(II)I" } : Jvm.MethodName) prog_4_method_9_code (5 : Nat) (Option.some Jvm.ClassFile.FieldType.int)) ∈ TS := TS_in (List.mem_of_getElem? (i := 598) rfl) rfl
theorem tw_599 : (Jvm.Cond.methodLink "BetweenCounts$Flow" (108 : Nat) ({ cls := "BetweenCounts$Flow", name := "sweep", desc := "(II)V" } : Jvm.MethodName)) ∈ TS := TS_in (List.mem_of_getElem? (i := 599) (by decide +kernel)) rfl
theorem tw_601 : (Jvm.Cond.instanceMethod ({ cls := "BetweenCounts$Flow", name := "sweep", desc := "(II)V" } : Jvm.MethodName)) ∈ TS := TS_in (List.mem_of_getElem? (i := 601) (by decide +kernel)) rfl
set_option maxRecDepth 20000 in
theorem tw_602 : (Jvm.Cond.code ({ cls := "BetweenCounts$Flow", name := "sweep", desc := "(II)V" } : Jvm.MethodName) prog_4_method_10_code (5 : Nat) (Option.none : Option Jvm.ClassFile.FieldType)) ∈ TS := TS_in (List.mem_of_getElem? (i := 602) rfl) rfl
theorem tw_603 : (Jvm.Cond.methodLink "BetweenCounts$Flow" (112 : Nat) ({ cls := "BetweenCounts$Big", name := "set", desc := "(LBetweenCounts$Big;)V" } : Jvm.MethodName)) ∈ TS := TS_in (List.mem_of_getElem? (i := 603) (by decide +kernel)) rfl
theorem tw_604 : (Jvm.Cond.instanceMethod ({ cls := "BetweenCounts$Big", name := "set", desc := "(LBetweenCounts$Big;)V" } : Jvm.MethodName)) ∈ TS := TS_in (List.mem_of_getElem? (i := 604) (by decide +kernel)) rfl
theorem tw_605 : (Jvm.Cond.selects "BetweenCounts$Big" ({ cls := "BetweenCounts$Big", name := "set", desc := "(LBetweenCounts$Big;)V" } : Jvm.MethodName) ({ cls := "BetweenCounts$Big", name := "set", desc := "(LBetweenCounts$Big;)V" } : Jvm.MethodName)) ∈ TS := TS_in (List.mem_of_getElem? (i := 605) (by decide +kernel)) rfl
set_option maxRecDepth 20000 in
theorem tw_606 : (Jvm.Cond.code ({ cls := "BetweenCounts$Big", name := "set", desc := "(LBetweenCounts$Big;)V" } : Jvm.MethodName) prog_2_method_3_code (2 : Nat) (Option.none : Option Jvm.ClassFile.FieldType)) ∈ TS := TS_in (List.mem_of_getElem? (i := 606) rfl) rfl
theorem tw_607 : (Jvm.Cond.methodLink "BetweenCounts$Big" (32 : Nat) ({ cls := "java/lang/System", name := "arraycopy", desc := "(Ljava/lang/Object;ILjava/lang/Object;II)V" } : Jvm.MethodName)) ∈ TS := TS_in (List.mem_of_getElem? (i := 607) (by decide +kernel)) rfl
theorem tw_608 : (Jvm.Cond.static ({ cls := "java/lang/System", name := "arraycopy", desc := "(Ljava/lang/Object;ILjava/lang/Object;II)V" } : Jvm.MethodName)) ∈ TS := TS_in (List.mem_of_getElem? (i := 608) (by decide +kernel)) rfl
theorem tw_609 : (Jvm.Cond.native ({ cls := "java/lang/System", name := "arraycopy", desc := "(Ljava/lang/Object;ILjava/lang/Object;II)V" } : Jvm.MethodName)) ∈ TS := TS_in (List.mem_of_getElem? (i := 609) (by decide +kernel)) rfl
theorem tw_610 : (Jvm.Cond.methodLink "BetweenCounts$Flow" (116 : Nat) ({ cls := "BetweenCounts$Flow", name := "sweepEntry", desc := "(III)V" } : Jvm.MethodName)) ∈ TS := TS_in (List.mem_of_getElem? (i := 610) (by decide +kernel)) rfl
theorem tw_612 : (Jvm.Cond.instanceMethod ({ cls := "BetweenCounts$Flow", name := "sweepEntry", desc := "(III)V" } : Jvm.MethodName)) ∈ TS := TS_in (List.mem_of_getElem? (i := 612) (by decide +kernel)) rfl
set_option maxRecDepth 20000 in
theorem tw_613 : (Jvm.Cond.code ({ cls := "BetweenCounts$Flow", name := "sweepEntry", desc := "(III)V" } : Jvm.MethodName) prog_4_method_11_code (5 : Nat) (Option.none : Option Jvm.ClassFile.FieldType)) ∈ TS := TS_in (List.mem_of_getElem? (i := 613) rfl) rfl
theorem tw_614 : (Jvm.Cond.methodLink "BetweenCounts$Flow" (120 : Nat) ({ cls := "BetweenCounts$Big", name := "setProduct", desc := "(LBetweenCounts$Big;LBetweenCounts$Big;)V" } : Jvm.MethodName)) ∈ TS := TS_in (List.mem_of_getElem? (i := 614) (by decide +kernel)) rfl
theorem tw_615 : (Jvm.Cond.methodLink "BetweenCounts$Flow" (124 : Nat) ({ cls := "BetweenCounts$Big", name := "subtract", desc := "(LBetweenCounts$Big;)V" } : Jvm.MethodName)) ∈ TS := TS_in (List.mem_of_getElem? (i := 615) (by decide +kernel)) rfl
theorem tw_616 : (Jvm.Cond.instanceMethod ({ cls := "BetweenCounts$Big", name := "subtract", desc := "(LBetweenCounts$Big;)V" } : Jvm.MethodName)) ∈ TS := TS_in (List.mem_of_getElem? (i := 616) (by decide +kernel)) rfl
theorem tw_617 : (Jvm.Cond.selects "BetweenCounts$Big" ({ cls := "BetweenCounts$Big", name := "subtract", desc := "(LBetweenCounts$Big;)V" } : Jvm.MethodName) ({ cls := "BetweenCounts$Big", name := "subtract", desc := "(LBetweenCounts$Big;)V" } : Jvm.MethodName)) ∈ TS := TS_in (List.mem_of_getElem? (i := 617) (by decide +kernel)) rfl
set_option maxRecDepth 20000 in
theorem tw_618 : (Jvm.Cond.code ({ cls := "BetweenCounts$Big", name := "subtract", desc := "(LBetweenCounts$Big;)V" } : Jvm.MethodName) prog_2_method_15_code (7 : Nat) (Option.none : Option Jvm.ClassFile.FieldType)) ∈ TS := TS_in (List.mem_of_getElem? (i := 618) rfl) rfl
theorem tw_619 : (Jvm.Cond.methodLink "BetweenCounts$Flow" (127 : Nat) ({ cls := "BetweenCounts$Big", name := "addProduct", desc := "(LBetweenCounts$Big;LBetweenCounts$Big;)V" } : Jvm.MethodName)) ∈ TS := TS_in (List.mem_of_getElem? (i := 619) (by decide +kernel)) rfl
theorem tw_620 : (Jvm.Cond.methodLink "BetweenCounts$Flow" (130 : Nat) ({ cls := "BetweenCounts$Divider", name := "divide", desc := "(LBetweenCounts$Big;LBetweenCounts$Big;)V" } : Jvm.MethodName)) ∈ TS := TS_in (List.mem_of_getElem? (i := 620) (by decide +kernel)) rfl
theorem tw_621 : (Jvm.Cond.instanceMethod ({ cls := "BetweenCounts$Divider", name := "divide", desc := "(LBetweenCounts$Big;LBetweenCounts$Big;)V" } : Jvm.MethodName)) ∈ TS := TS_in (List.mem_of_getElem? (i := 621) (by decide +kernel)) rfl
theorem tw_622 : (Jvm.Cond.selects "BetweenCounts$Divider" ({ cls := "BetweenCounts$Divider", name := "divide", desc := "(LBetweenCounts$Big;LBetweenCounts$Big;)V" } : Jvm.MethodName) ({ cls := "BetweenCounts$Divider", name := "divide", desc := "(LBetweenCounts$Big;LBetweenCounts$Big;)V" } : Jvm.MethodName)) ∈ TS := TS_in (List.mem_of_getElem? (i := 622) (by decide +kernel)) rfl
set_option maxRecDepth 20000 in
theorem tw_623 : (Jvm.Cond.code ({ cls := "BetweenCounts$Divider", name := "divide", desc := "(LBetweenCounts$Big;LBetweenCounts$Big;)V" } : Jvm.MethodName) prog_3_method_2_code (7 : Nat) (Option.none : Option Jvm.ClassFile.FieldType)) ∈ TS := TS_in (List.mem_of_getElem? (i := 623) rfl) rfl
theorem tw_624 : (Jvm.Cond.methodLink "BetweenCounts$Divider" (29 : Nat) ({ cls := "BetweenCounts$Big", name := "setSmall", desc := "(J)V" } : Jvm.MethodName)) ∈ TS := TS_in (List.mem_of_getElem? (i := 624) (by decide +kernel)) rfl
theorem tw_625 : (Jvm.Cond.methodLink "BetweenCounts$Divider" (37 : Nat) ({ cls := "BetweenCounts$Big", name := "compareWith", desc := "(LBetweenCounts$Big;)I" } : Jvm.MethodName)) ∈ TS := TS_in (List.mem_of_getElem? (i := 625) (by decide +kernel)) rfl
theorem tw_626 : (Jvm.Cond.methodLink "BetweenCounts$Divider" (41 : Nat) ({ cls := "BetweenCounts$Big", name := "set", desc := "(LBetweenCounts$Big;)V" } : Jvm.MethodName)) ∈ TS := TS_in (List.mem_of_getElem? (i := 626) (by decide +kernel)) rfl
theorem tw_627 : (Jvm.Cond.methodLink "BetweenCounts$Divider" (49 : Nat) ({ cls := "BetweenCounts$Big", name := "divideSmall", desc := "(J)J" } : Jvm.MethodName)) ∈ TS := TS_in (List.mem_of_getElem? (i := 627) (by decide +kernel)) rfl
theorem tw_628 : (Jvm.Cond.constantLong "BetweenCounts$Divider" (53 : Nat) (1073741824 : Int64)) ∈ TS := TS_in (List.mem_of_getElem? (i := 628) (by decide +kernel)) rfl
theorem tw_629 : (Jvm.Cond.methodLink "BetweenCounts$Divider" (55 : Nat) ({ cls := "BetweenCounts$Big", name := "times", desc := "(J)V" } : Jvm.MethodName)) ∈ TS := TS_in (List.mem_of_getElem? (i := 629) (by decide +kernel)) rfl
theorem tw_630 : (Jvm.Cond.methodLink "BetweenCounts$Divider" (58 : Nat) ({ cls := "BetweenCounts$Big", name := "pad", desc := "(I)V" } : Jvm.MethodName)) ∈ TS := TS_in (List.mem_of_getElem? (i := 630) (by decide +kernel)) rfl
theorem tw_631 : (Jvm.Cond.methodLink "BetweenCounts$Divider" (61 : Nat) ({ cls := "BetweenCounts$Divider", name := "takeDigit", desc := "(LBetweenCounts$Big;I)J" } : Jvm.MethodName)) ∈ TS := TS_in (List.mem_of_getElem? (i := 631) (by decide +kernel)) rfl
theorem tw_633 : (Jvm.Cond.instanceMethod ({ cls := "BetweenCounts$Divider", name := "takeDigit", desc := "(LBetweenCounts$Big;I)J" } : Jvm.MethodName)) ∈ TS := TS_in (List.mem_of_getElem? (i := 633) (by decide +kernel)) rfl
set_option maxRecDepth 20000 in
theorem tw_634 : (Jvm.Cond.code ({ cls := "BetweenCounts$Divider", name := "takeDigit", desc := "(LBetweenCounts$Big;I)J" } : Jvm.MethodName) prog_3_method_3_code (7 : Nat) (Option.some Jvm.ClassFile.FieldType.long)) ∈ TS := TS_in (List.mem_of_getElem? (i := 634) rfl) rfl
theorem tw_635 : (Jvm.Cond.methodLink "BetweenCounts$Divider" (68 : Nat) ({ cls := "BetweenCounts$Big", name := "digitAt", desc := "(I)J" } : Jvm.MethodName)) ∈ TS := TS_in (List.mem_of_getElem? (i := 635) (by decide +kernel)) rfl
theorem tw_636 : (Jvm.Cond.methodLink "BetweenCounts$Divider" (72 : Nat) ({ cls := "BetweenCounts$Divider", name := "guess", desc := "(LBetweenCounts$Big;I)J" } : Jvm.MethodName)) ∈ TS := TS_in (List.mem_of_getElem? (i := 636) (by decide +kernel)) rfl
theorem tw_638 : (Jvm.Cond.instanceMethod ({ cls := "BetweenCounts$Divider", name := "guess", desc := "(LBetweenCounts$Big;I)J" } : Jvm.MethodName)) ∈ TS := TS_in (List.mem_of_getElem? (i := 638) (by decide +kernel)) rfl
set_option maxRecDepth 20000 in
theorem tw_639 : (Jvm.Cond.code ({ cls := "BetweenCounts$Divider", name := "guess", desc := "(LBetweenCounts$Big;I)J" } : Jvm.MethodName) prog_3_method_4_code (17 : Nat) (Option.some Jvm.ClassFile.FieldType.long)) ∈ TS := TS_in (List.mem_of_getElem? (i := 639) rfl) rfl
theorem tw_640 : (Jvm.Cond.methodLink "BetweenCounts$Divider" (75 : Nat) ({ cls := "BetweenCounts$Divider", name := "takeAway", desc := "(LBetweenCounts$Big;IJ)J" } : Jvm.MethodName)) ∈ TS := TS_in (List.mem_of_getElem? (i := 640) (by decide +kernel)) rfl
theorem tw_642 : (Jvm.Cond.instanceMethod ({ cls := "BetweenCounts$Divider", name := "takeAway", desc := "(LBetweenCounts$Big;IJ)J" } : Jvm.MethodName)) ∈ TS := TS_in (List.mem_of_getElem? (i := 642) (by decide +kernel)) rfl
set_option maxRecDepth 20000 in
theorem tw_643 : (Jvm.Cond.code ({ cls := "BetweenCounts$Divider", name := "takeAway", desc := "(LBetweenCounts$Big;IJ)J" } : Jvm.MethodName) prog_3_method_5_code (10 : Nat) (Option.some Jvm.ClassFile.FieldType.long)) ∈ TS := TS_in (List.mem_of_getElem? (i := 643) rfl) rfl
theorem tw_644 : (Jvm.Cond.constantLong "BetweenCounts$Divider" (86 : Nat) (1073741823 : Int64)) ∈ TS := TS_in (List.mem_of_getElem? (i := 644) (by decide +kernel)) rfl
theorem tw_645 : (Jvm.Cond.methodLink "BetweenCounts$Divider" (79 : Nat) ({ cls := "BetweenCounts$Divider", name := "putBack", desc := "(LBetweenCounts$Big;I)V" } : Jvm.MethodName)) ∈ TS := TS_in (List.mem_of_getElem? (i := 645) (by decide +kernel)) rfl
theorem tw_647 : (Jvm.Cond.instanceMethod ({ cls := "BetweenCounts$Divider", name := "putBack", desc := "(LBetweenCounts$Big;I)V" } : Jvm.MethodName)) ∈ TS := TS_in (List.mem_of_getElem? (i := 647) (by decide +kernel)) rfl
set_option maxRecDepth 20000 in
theorem tw_648 : (Jvm.Cond.code ({ cls := "BetweenCounts$Divider", name := "putBack", desc := "(LBetweenCounts$Big;I)V" } : Jvm.MethodName) prog_3_method_6_code (8 : Nat) (Option.none : Option Jvm.ClassFile.FieldType)) ∈ TS := TS_in (List.mem_of_getElem? (i := 648) rfl) rfl
theorem tw_649 : (Jvm.Cond.methodLink "BetweenCounts$Divider" (83 : Nat) ({ cls := "BetweenCounts$Big", name := "cutAt", desc := "(I)V" } : Jvm.MethodName)) ∈ TS := TS_in (List.mem_of_getElem? (i := 649) (by decide +kernel)) rfl
theorem tw_650 : (Jvm.Cond.instanceMethod ({ cls := "BetweenCounts$Big", name := "cutAt", desc := "(I)V" } : Jvm.MethodName)) ∈ TS := TS_in (List.mem_of_getElem? (i := 650) (by decide +kernel)) rfl
theorem tw_651 : (Jvm.Cond.selects "BetweenCounts$Big" ({ cls := "BetweenCounts$Big", name := "cutAt", desc := "(I)V" } : Jvm.MethodName) ({ cls := "BetweenCounts$Big", name := "cutAt", desc := "(I)V" } : Jvm.MethodName)) ∈ TS := TS_in (List.mem_of_getElem? (i := 651) (by decide +kernel)) rfl
set_option maxRecDepth 20000 in
theorem tw_652 : (Jvm.Cond.code ({ cls := "BetweenCounts$Big", name := "cutAt", desc := "(I)V" } : Jvm.MethodName) prog_2_method_7_code (2 : Nat) (Option.none : Option Jvm.ClassFile.FieldType)) ∈ TS := TS_in (List.mem_of_getElem? (i := 652) rfl) rfl
theorem tw_653 : (Jvm.Cond.methodLink "BetweenCounts$Divider" (65 : Nat) ({ cls := "BetweenCounts$Big", name := "trim", desc := "()V" } : Jvm.MethodName)) ∈ TS := TS_in (List.mem_of_getElem? (i := 653) (by decide +kernel)) rfl
theorem tw_654 : (Jvm.Cond.methodLink "BetweenCounts" (156 : Nat) ({ cls := "BetweenCounts$Flow", name := "tellResistance", desc := "(IILBetweenCounts$Fraction;)V" } : Jvm.MethodName)) ∈ TS := TS_in (List.mem_of_getElem? (i := 654) (by decide +kernel)) rfl
theorem tw_655 : (Jvm.Cond.instanceMethod ({ cls := "BetweenCounts$Flow", name := "tellResistance", desc := "(IILBetweenCounts$Fraction;)V" } : Jvm.MethodName)) ∈ TS := TS_in (List.mem_of_getElem? (i := 655) (by decide +kernel)) rfl
theorem tw_656 : (Jvm.Cond.selects "BetweenCounts$Flow" ({ cls := "BetweenCounts$Flow", name := "tellResistance", desc := "(IILBetweenCounts$Fraction;)V" } : Jvm.MethodName) ({ cls := "BetweenCounts$Flow", name := "tellResistance", desc := "(IILBetweenCounts$Fraction;)V" } : Jvm.MethodName)) ∈ TS := TS_in (List.mem_of_getElem? (i := 656) (by decide +kernel)) rfl
set_option maxRecDepth 20000 in
theorem tw_657 : (Jvm.Cond.code ({ cls := "BetweenCounts$Flow", name := "tellResistance", desc := "(IILBetweenCounts$Fraction;)V" } : Jvm.MethodName) prog_4_method_12_code (4 : Nat) (Option.none : Option Jvm.ClassFile.FieldType)) ∈ TS := TS_in (List.mem_of_getElem? (i := 657) rfl) rfl
theorem tw_658 : (Jvm.Cond.constantLong "BetweenCounts$Flow" (136 : Nat) (2 : Int64)) ∈ TS := TS_in (List.mem_of_getElem? (i := 658) (by decide +kernel)) rfl
theorem tw_659 : (Jvm.Cond.methodLink "BetweenCounts$Flow" (138 : Nat) ({ cls := "BetweenCounts$Big", name := "times", desc := "(J)V" } : Jvm.MethodName)) ∈ TS := TS_in (List.mem_of_getElem? (i := 659) (by decide +kernel)) rfl
theorem tw_660 : (Jvm.Cond.methodLink "BetweenCounts$Flow" (146 : Nat) ({ cls := "BetweenCounts$Big", name := "addTimes", desc := "(LBetweenCounts$Big;J)V" } : Jvm.MethodName)) ∈ TS := TS_in (List.mem_of_getElem? (i := 660) (by decide +kernel)) rfl
theorem tw_661 : (Jvm.Cond.methodLink "BetweenCounts$Flow" (153 : Nat) ({ cls := "BetweenCounts$Divider", name := "reduce", desc := "(LBetweenCounts$Fraction;)V" } : Jvm.MethodName)) ∈ TS := TS_in (List.mem_of_getElem? (i := 661) (by decide +kernel)) rfl
theorem tw_662 : (Jvm.Cond.instanceMethod ({ cls := "BetweenCounts$Divider", name := "reduce", desc := "(LBetweenCounts$Fraction;)V" } : Jvm.MethodName)) ∈ TS := TS_in (List.mem_of_getElem? (i := 662) (by decide +kernel)) rfl
theorem tw_663 : (Jvm.Cond.selects "BetweenCounts$Divider" ({ cls := "BetweenCounts$Divider", name := "reduce", desc := "(LBetweenCounts$Fraction;)V" } : Jvm.MethodName) ({ cls := "BetweenCounts$Divider", name := "reduce", desc := "(LBetweenCounts$Fraction;)V" } : Jvm.MethodName)) ∈ TS := TS_in (List.mem_of_getElem? (i := 663) (by decide +kernel)) rfl
set_option maxRecDepth 20000 in
theorem tw_664 : (Jvm.Cond.code ({ cls := "BetweenCounts$Divider", name := "reduce", desc := "(LBetweenCounts$Fraction;)V" } : Jvm.MethodName) prog_3_method_7_code (6 : Nat) (Option.none : Option Jvm.ClassFile.FieldType)) ∈ TS := TS_in (List.mem_of_getElem? (i := 664) rfl) rfl
theorem tw_665 : (Jvm.Cond.methodLink "BetweenCounts$Divider" (96 : Nat) ({ cls := "BetweenCounts$Divider", name := "divide", desc := "(LBetweenCounts$Big;LBetweenCounts$Big;)V" } : Jvm.MethodName)) ∈ TS := TS_in (List.mem_of_getElem? (i := 665) (by decide +kernel)) rfl
theorem tw_666 : (Jvm.Cond.methodLink "BetweenCountsLaw" (78 : Nat) ({ cls := "BetweenCounts", name := "carried", desc := "(III)J" } : Jvm.MethodName)) ∈ TS := TS_in (List.mem_of_getElem? (i := 666) (by decide +kernel)) rfl
theorem tw_667 : (Jvm.Cond.instanceMethod ({ cls := "BetweenCounts", name := "carried", desc := "(III)J" } : Jvm.MethodName)) ∈ TS := TS_in (List.mem_of_getElem? (i := 667) (by decide +kernel)) rfl
theorem tw_668 : (Jvm.Cond.selects "BetweenCounts" ({ cls := "BetweenCounts", name := "carried", desc := "(III)J" } : Jvm.MethodName) ({ cls := "BetweenCounts", name := "carried", desc := "(III)J" } : Jvm.MethodName)) ∈ TS := TS_in (List.mem_of_getElem? (i := 668) (by decide +kernel)) rfl
set_option maxRecDepth 20000 in
theorem tw_669 : (Jvm.Cond.code ({ cls := "BetweenCounts", name := "carried", desc := "(III)J" } : Jvm.MethodName) prog_1_method_16_code (4 : Nat) (Option.some Jvm.ClassFile.FieldType.long)) ∈ TS := TS_in (List.mem_of_getElem? (i := 669) rfl) rfl
theorem tw_670 : (Jvm.Cond.methodLink "BetweenCounts" (160 : Nat) ({ cls := "BetweenCounts$Flow", name := "tellCarried", desc := "(ILBetweenCounts$Fraction;)V" } : Jvm.MethodName)) ∈ TS := TS_in (List.mem_of_getElem? (i := 670) (by decide +kernel)) rfl
theorem tw_671 : (Jvm.Cond.instanceMethod ({ cls := "BetweenCounts$Flow", name := "tellCarried", desc := "(ILBetweenCounts$Fraction;)V" } : Jvm.MethodName)) ∈ TS := TS_in (List.mem_of_getElem? (i := 671) (by decide +kernel)) rfl
theorem tw_672 : (Jvm.Cond.selects "BetweenCounts$Flow" ({ cls := "BetweenCounts$Flow", name := "tellCarried", desc := "(ILBetweenCounts$Fraction;)V" } : Jvm.MethodName) ({ cls := "BetweenCounts$Flow", name := "tellCarried", desc := "(ILBetweenCounts$Fraction;)V" } : Jvm.MethodName)) ∈ TS := TS_in (List.mem_of_getElem? (i := 672) (by decide +kernel)) rfl
set_option maxRecDepth 20000 in
theorem tw_673 : (Jvm.Cond.code ({ cls := "BetweenCounts$Flow", name := "tellCarried", desc := "(ILBetweenCounts$Fraction;)V" } : Jvm.MethodName) prog_4_method_13_code (5 : Nat) (Option.none : Option Jvm.ClassFile.FieldType)) ∈ TS := TS_in (List.mem_of_getElem? (i := 673) rfl) rfl
theorem tw_674 : (Jvm.Cond.methodLink "BetweenCounts$Flow" (157 : Nat) ({ cls := "BetweenCounts$Flow", name := "isOther", desc := "(II)Z" } : Jvm.MethodName)) ∈ TS := TS_in (List.mem_of_getElem? (i := 674) (by decide +kernel)) rfl
theorem tw_676 : (Jvm.Cond.instanceMethod ({ cls := "BetweenCounts$Flow", name := "isOther", desc := "(II)Z" } : Jvm.MethodName)) ∈ TS := TS_in (List.mem_of_getElem? (i := 676) (by decide +kernel)) rfl
set_option maxRecDepth 20000 in
theorem tw_677 : (Jvm.Cond.code ({ cls := "BetweenCounts$Flow", name := "isOther", desc := "(II)Z" } : Jvm.MethodName) prog_4_method_14_code (3 : Nat) (Option.some Jvm.ClassFile.FieldType.boolean)) ∈ TS := TS_in (List.mem_of_getElem? (i := 677) rfl) rfl
theorem tw_678 : (Jvm.Cond.methodLink "BetweenCounts$Flow" (160 : Nat) ({ cls := "BetweenCounts$Flow", name := "addFlows", desc := "(IIILBetweenCounts$Big;)V" } : Jvm.MethodName)) ∈ TS := TS_in (List.mem_of_getElem? (i := 678) (by decide +kernel)) rfl
theorem tw_680 : (Jvm.Cond.instanceMethod ({ cls := "BetweenCounts$Flow", name := "addFlows", desc := "(IIILBetweenCounts$Big;)V" } : Jvm.MethodName)) ∈ TS := TS_in (List.mem_of_getElem? (i := 680) (by decide +kernel)) rfl
set_option maxRecDepth 20000 in
theorem tw_681 : (Jvm.Cond.code ({ cls := "BetweenCounts$Flow", name := "addFlows", desc := "(IIILBetweenCounts$Big;)V" } : Jvm.MethodName) prog_4_method_15_code (6 : Nat) (Option.none : Option Jvm.ClassFile.FieldType)) ∈ TS := TS_in (List.mem_of_getElem? (i := 681) rfl) rfl
theorem tw_682 : (Jvm.Cond.methodLink "BetweenCounts$Flow" (164 : Nat) ({ cls := "BetweenCounts$Flow", name := "dropOf", desc := "(IIII)LBetweenCounts$Big;" } : Jvm.MethodName)) ∈ TS := TS_in (List.mem_of_getElem? (i := 682) (by decide +kernel)) rfl
theorem tw_684 : (Jvm.Cond.instanceMethod ({ cls := "BetweenCounts$Flow", name := "dropOf", desc := "(IIII)LBetweenCounts$Big;" } : Jvm.MethodName)) ∈ TS := TS_in (List.mem_of_getElem? (i := 684) (by decide +kernel)) rfl
set_option maxRecDepth 20000 in
theorem tw_685 : (Jvm.Cond.code ({ cls := "BetweenCounts$Flow", name := "dropOf", desc := "(IIII)LBetweenCounts$Big;" } : Jvm.MethodName) prog_4_method_16_code (5 : Nat) (Option.some (Jvm.ClassFile.FieldType.object "BetweenCounts$Big"))) ∈ TS := TS_in (List.mem_of_getElem? (i := 685) rfl) rfl
theorem tw_686 : (Jvm.Cond.methodLink "BetweenCounts$Flow" (168 : Nat) ({ cls := "BetweenCounts$Big", name := "compareWith", desc := "(LBetweenCounts$Big;)I" } : Jvm.MethodName)) ∈ TS := TS_in (List.mem_of_getElem? (i := 686) (by decide +kernel)) rfl
theorem tw_687 : (Jvm.Cond.methodLink "BetweenCountsLaw" (82 : Nat) ({ cls := "BetweenCounts", name := "told", desc := "(I)I" } : Jvm.MethodName)) ∈ TS := TS_in (List.mem_of_getElem? (i := 687) (by decide +kernel)) rfl
theorem tw_688 : (Jvm.Cond.instanceMethod ({ cls := "BetweenCounts", name := "told", desc := "(I)I" } : Jvm.MethodName)) ∈ TS := TS_in (List.mem_of_getElem? (i := 688) (by decide +kernel)) rfl
theorem tw_689 : (Jvm.Cond.selects "BetweenCounts" ({ cls := "BetweenCounts", name := "told", desc := "(I)I" } : Jvm.MethodName) ({ cls := "BetweenCounts", name := "told", desc := "(I)I" } : Jvm.MethodName)) ∈ TS := TS_in (List.mem_of_getElem? (i := 689) (by decide +kernel)) rfl
set_option maxRecDepth 20000 in
theorem tw_690 : (Jvm.Cond.code ({ cls := "BetweenCounts", name := "told", desc := "(I)I" } : Jvm.MethodName) prog_1_method_17_code (2 : Nat) (Option.some Jvm.ClassFile.FieldType.int)) ∈ TS := TS_in (List.mem_of_getElem? (i := 690) rfl) rfl
theorem tw_691 : (Jvm.Cond.methodLink "BetweenCounts" (167 : Nat) ({ cls := "BetweenCounts$Net", name := "arcsThere", desc := "()I" } : Jvm.MethodName)) ∈ TS := TS_in (List.mem_of_getElem? (i := 691) (by decide +kernel)) rfl
theorem tw_692 : (Jvm.Cond.instanceMethod ({ cls := "BetweenCounts$Net", name := "arcsThere", desc := "()I" } : Jvm.MethodName)) ∈ TS := TS_in (List.mem_of_getElem? (i := 692) (by decide +kernel)) rfl
theorem tw_693 : (Jvm.Cond.selects "BetweenCounts$Net" ({ cls := "BetweenCounts$Net", name := "arcsThere", desc := "()I" } : Jvm.MethodName) ({ cls := "BetweenCounts$Net", name := "arcsThere", desc := "()I" } : Jvm.MethodName)) ∈ TS := TS_in (List.mem_of_getElem? (i := 693) (by decide +kernel)) rfl
set_option maxRecDepth 20000 in
theorem tw_694 : (Jvm.Cond.code ({ cls := "BetweenCounts$Net", name := "arcsThere", desc := "()I" } : Jvm.MethodName) prog_6_method_7_code (3 : Nat) (Option.some Jvm.ClassFile.FieldType.int)) ∈ TS := TS_in (List.mem_of_getElem? (i := 694) rfl) rfl
theorem tw_695 : (Jvm.Cond.methodLink "BetweenCounts" (170 : Nat) ({ cls := "BetweenCounts", name := "countPairs", desc := "()I" } : Jvm.MethodName)) ∈ TS := TS_in (List.mem_of_getElem? (i := 695) (by decide +kernel)) rfl
theorem tw_697 : (Jvm.Cond.instanceMethod ({ cls := "BetweenCounts", name := "countPairs", desc := "()I" } : Jvm.MethodName)) ∈ TS := TS_in (List.mem_of_getElem? (i := 697) (by decide +kernel)) rfl
set_option maxRecDepth 20000 in
theorem tw_698 : (Jvm.Cond.code ({ cls := "BetweenCounts", name := "countPairs", desc := "()I" } : Jvm.MethodName) prog_1_method_23_code (4 : Nat) (Option.some Jvm.ClassFile.FieldType.int)) ∈ TS := TS_in (List.mem_of_getElem? (i := 698) rfl) rfl
theorem tw_699 : (Jvm.Cond.methodLink "BetweenCounts" (173 : Nat) ({ cls := "BetweenCounts", name := "countGroup", desc := "()I" } : Jvm.MethodName)) ∈ TS := TS_in (List.mem_of_getElem? (i := 699) (by decide +kernel)) rfl
theorem tw_701 : (Jvm.Cond.instanceMethod ({ cls := "BetweenCounts", name := "countGroup", desc := "()I" } : Jvm.MethodName)) ∈ TS := TS_in (List.mem_of_getElem? (i := 701) (by decide +kernel)) rfl
set_option maxRecDepth 20000 in
theorem tw_702 : (Jvm.Cond.code ({ cls := "BetweenCounts", name := "countGroup", desc := "()I" } : Jvm.MethodName) prog_1_method_24_code (3 : Nat) (Option.some Jvm.ClassFile.FieldType.int)) ∈ TS := TS_in (List.mem_of_getElem? (i := 702) rfl) rfl
theorem tw_703 : (Jvm.Cond.methodLink "BetweenCounts" (176 : Nat) ({ cls := "BetweenCounts$Flow", name := "countPieces", desc := "()I" } : Jvm.MethodName)) ∈ TS := TS_in (List.mem_of_getElem? (i := 703) (by decide +kernel)) rfl
theorem tw_704 : (Jvm.Cond.instanceMethod ({ cls := "BetweenCounts$Flow", name := "countPieces", desc := "()I" } : Jvm.MethodName)) ∈ TS := TS_in (List.mem_of_getElem? (i := 704) (by decide +kernel)) rfl
theorem tw_705 : (Jvm.Cond.selects "BetweenCounts$Flow" ({ cls := "BetweenCounts$Flow", name := "countPieces", desc := "()I" } : Jvm.MethodName) ({ cls := "BetweenCounts$Flow", name := "countPieces", desc := "()I" } : Jvm.MethodName)) ∈ TS := TS_in (List.mem_of_getElem? (i := 705) (by decide +kernel)) rfl
set_option maxRecDepth 20000 in
theorem tw_706 : (Jvm.Cond.code ({ cls := "BetweenCounts$Flow", name := "countPieces", desc := "()I" } : Jvm.MethodName) prog_4_method_5_code (3 : Nat) (Option.some Jvm.ClassFile.FieldType.int)) ∈ TS := TS_in (List.mem_of_getElem? (i := 706) rfl) rfl
theorem tw_707 : (Jvm.Cond.classLink "BetweenCountsLaw" (10 : Nat) "BetweenCountsModel") ∈ TS := TS_in (List.mem_of_getElem? (i := 707) (by decide +kernel)) rfl
theorem tw_708 : (Jvm.Cond.instantiable "BetweenCountsModel" (31 : Nat)) ∈ TS := TS_in (List.mem_of_getElem? (i := 708) (by decide +kernel)) rfl
theorem tw_709 : (Jvm.Cond.methodLink "BetweenCountsLaw" (12 : Nat) ({ cls := "BetweenCountsModel", name := "<init>", desc := "()V" } : Jvm.MethodName)) ∈ TS := TS_in (List.mem_of_getElem? (i := 709) (by decide +kernel)) rfl
theorem tw_710 : (Jvm.Cond.instanceMethod ({ cls := "BetweenCountsModel", name := "<init>", desc := "()V" } : Jvm.MethodName)) ∈ TS := TS_in (List.mem_of_getElem? (i := 710) (by decide +kernel)) rfl
set_option maxRecDepth 20000 in
theorem tw_711 : (Jvm.Cond.code ({ cls := "BetweenCountsModel", name := "<init>", desc := "()V" } : Jvm.MethodName) prog_10_method_1_code (1 : Nat) (Option.none : Option Jvm.ClassFile.FieldType)) ∈ TS := TS_in (List.mem_of_getElem? (i := 711) rfl) rfl
theorem tw_712 : (Jvm.Cond.methodLink "BetweenCountsModel" (1 : Nat) ({ cls := "java/lang/Object", name := "<init>", desc := "()V" } : Jvm.MethodName)) ∈ TS := TS_in (List.mem_of_getElem? (i := 712) (by decide +kernel)) rfl
theorem tw_713 : (Jvm.Cond.constantLong "BetweenCountsModel" (67 : Nat) (2147483647 : Int64)) ∈ TS := TS_in (List.mem_of_getElem? (i := 713) (by decide +kernel)) rfl
theorem tw_714 : (Jvm.Cond.constantLong "BetweenCountsModel" (69 : Nat) (2147483629 : Int64)) ∈ TS := TS_in (List.mem_of_getElem? (i := 714) (by decide +kernel)) rfl
theorem tw_715 : (Jvm.Cond.constantLong "BetweenCountsModel" (71 : Nat) (2147483587 : Int64)) ∈ TS := TS_in (List.mem_of_getElem? (i := 715) (by decide +kernel)) rfl
theorem tw_716 : (Jvm.Cond.constantLong "BetweenCountsModel" (73 : Nat) (2147483579 : Int64)) ∈ TS := TS_in (List.mem_of_getElem? (i := 716) (by decide +kernel)) rfl
theorem tw_717 : (Jvm.Cond.constantLong "BetweenCountsModel" (75 : Nat) (2147483563 : Int64)) ∈ TS := TS_in (List.mem_of_getElem? (i := 717) (by decide +kernel)) rfl
theorem tw_718 : (Jvm.Cond.constantLong "BetweenCountsModel" (77 : Nat) (2147483549 : Int64)) ∈ TS := TS_in (List.mem_of_getElem? (i := 718) (by decide +kernel)) rfl
theorem tw_719 : (Jvm.Cond.constantLong "BetweenCountsModel" (79 : Nat) (2147483543 : Int64)) ∈ TS := TS_in (List.mem_of_getElem? (i := 719) (by decide +kernel)) rfl
theorem tw_720 : (Jvm.Cond.constantLong "BetweenCountsModel" (81 : Nat) (2147483497 : Int64)) ∈ TS := TS_in (List.mem_of_getElem? (i := 720) (by decide +kernel)) rfl
theorem tw_721 : (Jvm.Cond.fieldLink "BetweenCountsModel" (110 : Nat) "BetweenCountsModel" "nodes" "I") ∈ TS := TS_in (List.mem_of_getElem? (i := 721) (by decide +kernel)) rfl
theorem tw_722 : (Jvm.Cond.fieldLink "BetweenCountsModel" (113 : Nat) "BetweenCountsModel" "arcs" "I") ∈ TS := TS_in (List.mem_of_getElem? (i := 722) (by decide +kernel)) rfl
theorem tw_723 : (Jvm.Cond.fieldLink "BetweenCountsModel" (7 : Nat) "BetweenCountsModel" "from" "[I") ∈ TS := TS_in (List.mem_of_getElem? (i := 723) (by decide +kernel)) rfl
theorem tw_724 : (Jvm.Cond.fieldLink "BetweenCountsModel" (13 : Nat) "BetweenCountsModel" "to" "[I") ∈ TS := TS_in (List.mem_of_getElem? (i := 724) (by decide +kernel)) rfl
theorem tw_725 : (Jvm.Cond.fieldLink "BetweenCountsModel" (16 : Nat) "BetweenCountsModel" "weight" "[I") ∈ TS := TS_in (List.mem_of_getElem? (i := 725) (by decide +kernel)) rfl
theorem tw_726 : (Jvm.Cond.fieldLink "BetweenCountsModel" (19 : Nat) "BetweenCountsModel" "turned" "[Z") ∈ TS := TS_in (List.mem_of_getElem? (i := 726) (by decide +kernel)) rfl
theorem tw_727 : (Jvm.Cond.fieldLink "BetweenCountsModel" (23 : Nat) "BetweenCountsModel" "length" "[I") ∈ TS := TS_in (List.mem_of_getElem? (i := 727) (by decide +kernel)) rfl
theorem tw_728 : (Jvm.Cond.fieldLink "BetweenCountsModel" (26 : Nat) "BetweenCountsModel" "count" "[J") ∈ TS := TS_in (List.mem_of_getElem? (i := 728) (by decide +kernel)) rfl
theorem tw_729 : (Jvm.Cond.fieldLink "BetweenCountsModel" (30 : Nat) "BetweenCountsModel" "free" "[J") ∈ TS := TS_in (List.mem_of_getElem? (i := 729) (by decide +kernel)) rfl
theorem tw_730 : (Jvm.Cond.fieldLink "BetweenCountsModel" (33 : Nat) "BetweenCountsModel" "limbs" "I") ∈ TS := TS_in (List.mem_of_getElem? (i := 730) (by decide +kernel)) rfl
theorem tw_731 : (Jvm.Cond.fieldLink "BetweenCountsModel" (37 : Nat) "BetweenCountsModel" "up" "[J") ∈ TS := TS_in (List.mem_of_getElem? (i := 731) (by decide +kernel)) rfl
theorem tw_732 : (Jvm.Cond.fieldLink "BetweenCountsModel" (40 : Nat) "BetweenCountsModel" "below" "[J") ∈ TS := TS_in (List.mem_of_getElem? (i := 732) (by decide +kernel)) rfl
theorem tw_733 : (Jvm.Cond.fieldLink "BetweenCountsModel" (43 : Nat) "BetweenCountsModel" "help" "[J") ∈ TS := TS_in (List.mem_of_getElem? (i := 733) (by decide +kernel)) rfl
theorem tw_734 : (Jvm.Cond.fieldLink "BetweenCountsModel" (46 : Nat) "BetweenCountsModel" "other" "[J") ∈ TS := TS_in (List.mem_of_getElem? (i := 734) (by decide +kernel)) rfl
theorem tw_735 : (Jvm.Cond.fieldLink "BetweenCountsModel" (49 : Nat) "BetweenCountsModel" "third" "[J") ∈ TS := TS_in (List.mem_of_getElem? (i := 735) (by decide +kernel)) rfl
theorem tw_736 : (Jvm.Cond.fieldLink "BetweenCountsModel" (52 : Nat) "BetweenCountsModel" "sum" "[J") ∈ TS := TS_in (List.mem_of_getElem? (i := 736) (by decide +kernel)) rfl
theorem tw_737 : (Jvm.Cond.fieldLink "BetweenCountsModel" (116 : Nat) "BetweenCountsModel" "stands" "I") ∈ TS := TS_in (List.mem_of_getElem? (i := 737) (by decide +kernel)) rfl
theorem tw_738 : (Jvm.Cond.fieldLink "BetweenCountsModel" (55 : Nat) "BetweenCountsModel" "ups" "[J") ∈ TS := TS_in (List.mem_of_getElem? (i := 738) (by decide +kernel)) rfl
theorem tw_739 : (Jvm.Cond.fieldLink "BetweenCountsModel" (58 : Nat) "BetweenCountsModel" "belows" "[J") ∈ TS := TS_in (List.mem_of_getElem? (i := 739) (by decide +kernel)) rfl
theorem tw_740 : (Jvm.Cond.fieldLink "BetweenCountsModel" (61 : Nat) "BetweenCountsModel" "left" "[J") ∈ TS := TS_in (List.mem_of_getElem? (i := 740) (by decide +kernel)) rfl
theorem tw_741 : (Jvm.Cond.fieldLink "BetweenCountsModel" (64 : Nat) "BetweenCountsModel" "right" "[J") ∈ TS := TS_in (List.mem_of_getElem? (i := 741) (by decide +kernel)) rfl
theorem tw_742 : (Jvm.Cond.fieldLink "BetweenCountsModel" (83 : Nat) "BetweenCountsModel" "primes" "[J") ∈ TS := TS_in (List.mem_of_getElem? (i := 742) (by decide +kernel)) rfl
theorem tw_743 : (Jvm.Cond.fieldLink "BetweenCountsModel" (86 : Nat) "BetweenCountsModel" "piece" "[I") ∈ TS := TS_in (List.mem_of_getElem? (i := 743) (by decide +kernel)) rfl
theorem tw_744 : (Jvm.Cond.fieldLink "BetweenCountsModel" (89 : Nat) "BetweenCountsModel" "place" "[I") ∈ TS := TS_in (List.mem_of_getElem? (i := 744) (by decide +kernel)) rfl
theorem tw_745 : (Jvm.Cond.fieldLink "BetweenCountsModel" (92 : Nat) "BetweenCountsModel" "in" "[Z") ∈ TS := TS_in (List.mem_of_getElem? (i := 745) (by decide +kernel)) rfl
theorem tw_746 : (Jvm.Cond.fieldLink "BetweenCountsModel" (230 : Nat) "BetweenCountsModel" "many" "I") ∈ TS := TS_in (List.mem_of_getElem? (i := 746) (by decide +kernel)) rfl
theorem tw_747 : (Jvm.Cond.fieldLink "BetweenCountsModel" (95 : Nat) "BetweenCountsModel" "row" "[J") ∈ TS := TS_in (List.mem_of_getElem? (i := 747) (by decide +kernel)) rfl
theorem tw_748 : (Jvm.Cond.fieldLink "BetweenCountsModel" (98 : Nat) "BetweenCountsModel" "prime" "[J") ∈ TS := TS_in (List.mem_of_getElem? (i := 748) (by decide +kernel)) rfl
theorem tw_749 : (Jvm.Cond.fieldLink "BetweenCountsModel" (101 : Nat) "BetweenCountsModel" "trees" "[J") ∈ TS := TS_in (List.mem_of_getElem? (i := 749) (by decide +kernel)) rfl
theorem tw_750 : (Jvm.Cond.fieldLink "BetweenCountsModel" (104 : Nat) "BetweenCountsModel" "at" "[J") ∈ TS := TS_in (List.mem_of_getElem? (i := 750) (by decide +kernel)) rfl
theorem tw_751 : (Jvm.Cond.fieldLink "BetweenCountsModel" (107 : Nat) "BetweenCountsModel" "digit" "[J") ∈ TS := TS_in (List.mem_of_getElem? (i := 751) (by decide +kernel)) rfl
theorem tw_815 : (Jvm.Cond.methodLink "BetweenCountsLaw" (17 : Nat) ({ cls := "BetweenCountsModel", name := "node", desc := "()I" } : Jvm.MethodName)) ∈ TS := TS_in (List.mem_of_getElem? (i := 815) (by decide +kernel)) rfl
theorem tw_816 : (Jvm.Cond.instanceMethod ({ cls := "BetweenCountsModel", name := "node", desc := "()I" } : Jvm.MethodName)) ∈ TS := TS_in (List.mem_of_getElem? (i := 816) (by decide +kernel)) rfl
theorem tw_817 : (Jvm.Cond.selects "BetweenCountsModel" ({ cls := "BetweenCountsModel", name := "node", desc := "()I" } : Jvm.MethodName) ({ cls := "BetweenCountsModel", name := "node", desc := "()I" } : Jvm.MethodName)) ∈ TS := TS_in (List.mem_of_getElem? (i := 817) (by decide +kernel)) rfl
set_option maxRecDepth 20000 in
theorem tw_818 : (Jvm.Cond.code ({ cls := "BetweenCountsModel", name := "node", desc := "()I" } : Jvm.MethodName) prog_10_method_5_code (1 : Nat) (Option.some Jvm.ClassFile.FieldType.int)) ∈ TS := TS_in (List.mem_of_getElem? (i := 818) rfl) rfl
theorem tw_819 : (Jvm.Cond.methodLink "BetweenCountsLaw" (22 : Nat) ({ cls := "BetweenCountsModel", name := "arc", desc := "(III)I" } : Jvm.MethodName)) ∈ TS := TS_in (List.mem_of_getElem? (i := 819) (by decide +kernel)) rfl
theorem tw_820 : (Jvm.Cond.instanceMethod ({ cls := "BetweenCountsModel", name := "arc", desc := "(III)I" } : Jvm.MethodName)) ∈ TS := TS_in (List.mem_of_getElem? (i := 820) (by decide +kernel)) rfl
theorem tw_821 : (Jvm.Cond.selects "BetweenCountsModel" ({ cls := "BetweenCountsModel", name := "arc", desc := "(III)I" } : Jvm.MethodName) ({ cls := "BetweenCountsModel", name := "arc", desc := "(III)I" } : Jvm.MethodName)) ∈ TS := TS_in (List.mem_of_getElem? (i := 821) (by decide +kernel)) rfl
set_option maxRecDepth 20000 in
theorem tw_822 : (Jvm.Cond.code ({ cls := "BetweenCountsModel", name := "arc", desc := "(III)I" } : Jvm.MethodName) prog_10_method_6_code (4 : Nat) (Option.some Jvm.ClassFile.FieldType.int)) ∈ TS := TS_in (List.mem_of_getElem? (i := 822) rfl) rfl
theorem tw_823 : (Jvm.Cond.methodLink "BetweenCountsModel" (119 : Nat) ({ cls := "BetweenCountsModel", name := "isNode", desc := "(I)Z" } : Jvm.MethodName)) ∈ TS := TS_in (List.mem_of_getElem? (i := 823) (by decide +kernel)) rfl
theorem tw_825 : (Jvm.Cond.instanceMethod ({ cls := "BetweenCountsModel", name := "isNode", desc := "(I)Z" } : Jvm.MethodName)) ∈ TS := TS_in (List.mem_of_getElem? (i := 825) (by decide +kernel)) rfl
set_option maxRecDepth 20000 in
theorem tw_826 : (Jvm.Cond.code ({ cls := "BetweenCountsModel", name := "isNode", desc := "(I)Z" } : Jvm.MethodName) prog_10_method_2_code (2 : Nat) (Option.some Jvm.ClassFile.FieldType.boolean)) ∈ TS := TS_in (List.mem_of_getElem? (i := 826) rfl) rfl
theorem tw_827 : (Jvm.Cond.methodLink "BetweenCountsLaw" (27 : Nat) ({ cls := "BetweenCountsModel", name := "change", desc := "(II)I" } : Jvm.MethodName)) ∈ TS := TS_in (List.mem_of_getElem? (i := 827) (by decide +kernel)) rfl
theorem tw_828 : (Jvm.Cond.instanceMethod ({ cls := "BetweenCountsModel", name := "change", desc := "(II)I" } : Jvm.MethodName)) ∈ TS := TS_in (List.mem_of_getElem? (i := 828) (by decide +kernel)) rfl
theorem tw_829 : (Jvm.Cond.selects "BetweenCountsModel" ({ cls := "BetweenCountsModel", name := "change", desc := "(II)I" } : Jvm.MethodName) ({ cls := "BetweenCountsModel", name := "change", desc := "(II)I" } : Jvm.MethodName)) ∈ TS := TS_in (List.mem_of_getElem? (i := 829) (by decide +kernel)) rfl
set_option maxRecDepth 20000 in
theorem tw_830 : (Jvm.Cond.code ({ cls := "BetweenCountsModel", name := "change", desc := "(II)I" } : Jvm.MethodName) prog_10_method_7_code (4 : Nat) (Option.some Jvm.ClassFile.FieldType.int)) ∈ TS := TS_in (List.mem_of_getElem? (i := 830) rfl) rfl
theorem tw_831 : (Jvm.Cond.methodLink "BetweenCountsModel" (123 : Nat) ({ cls := "BetweenCountsModel", name := "isArc", desc := "(I)Z" } : Jvm.MethodName)) ∈ TS := TS_in (List.mem_of_getElem? (i := 831) (by decide +kernel)) rfl
theorem tw_833 : (Jvm.Cond.instanceMethod ({ cls := "BetweenCountsModel", name := "isArc", desc := "(I)Z" } : Jvm.MethodName)) ∈ TS := TS_in (List.mem_of_getElem? (i := 833) (by decide +kernel)) rfl
set_option maxRecDepth 20000 in
theorem tw_834 : (Jvm.Cond.code ({ cls := "BetweenCountsModel", name := "isArc", desc := "(I)Z" } : Jvm.MethodName) prog_10_method_3_code (2 : Nat) (Option.some Jvm.ClassFile.FieldType.boolean)) ∈ TS := TS_in (List.mem_of_getElem? (i := 834) rfl) rfl
theorem tw_835 : (Jvm.Cond.methodLink "BetweenCountsLaw" (32 : Nat) ({ cls := "BetweenCountsModel", name := "choose", desc := "(II)Z" } : Jvm.MethodName)) ∈ TS := TS_in (List.mem_of_getElem? (i := 835) (by decide +kernel)) rfl
theorem tw_836 : (Jvm.Cond.instanceMethod ({ cls := "BetweenCountsModel", name := "choose", desc := "(II)Z" } : Jvm.MethodName)) ∈ TS := TS_in (List.mem_of_getElem? (i := 836) (by decide +kernel)) rfl
theorem tw_837 : (Jvm.Cond.selects "BetweenCountsModel" ({ cls := "BetweenCountsModel", name := "choose", desc := "(II)Z" } : Jvm.MethodName) ({ cls := "BetweenCountsModel", name := "choose", desc := "(II)Z" } : Jvm.MethodName)) ∈ TS := TS_in (List.mem_of_getElem? (i := 837) (by decide +kernel)) rfl
set_option maxRecDepth 20000 in
theorem tw_838 : (Jvm.Cond.code ({ cls := "BetweenCountsModel", name := "choose", desc := "(II)Z" } : Jvm.MethodName) prog_10_method_8_code (3 : Nat) (Option.some Jvm.ClassFile.FieldType.boolean)) ∈ TS := TS_in (List.mem_of_getElem? (i := 838) rfl) rfl
theorem tw_839 : (Jvm.Cond.methodLink "BetweenCountsModel" (126 : Nat) ({ cls := "BetweenCountsModel", name := "isChosen", desc := "(II)Z" } : Jvm.MethodName)) ∈ TS := TS_in (List.mem_of_getElem? (i := 839) (by decide +kernel)) rfl
theorem tw_841 : (Jvm.Cond.instanceMethod ({ cls := "BetweenCountsModel", name := "isChosen", desc := "(II)Z" } : Jvm.MethodName)) ∈ TS := TS_in (List.mem_of_getElem? (i := 841) (by decide +kernel)) rfl
set_option maxRecDepth 20000 in
theorem tw_842 : (Jvm.Cond.code ({ cls := "BetweenCountsModel", name := "isChosen", desc := "(II)Z" } : Jvm.MethodName) prog_10_method_4_code (3 : Nat) (Option.some Jvm.ClassFile.FieldType.boolean)) ∈ TS := TS_in (List.mem_of_getElem? (i := 842) rfl) rfl
theorem tw_843 : (Jvm.Cond.methodLink "BetweenCountsLaw" (36 : Nat) ({ cls := "BetweenCountsModel", name := "far", desc := "(II)I" } : Jvm.MethodName)) ∈ TS := TS_in (List.mem_of_getElem? (i := 843) (by decide +kernel)) rfl
theorem tw_844 : (Jvm.Cond.instanceMethod ({ cls := "BetweenCountsModel", name := "far", desc := "(II)I" } : Jvm.MethodName)) ∈ TS := TS_in (List.mem_of_getElem? (i := 844) (by decide +kernel)) rfl
theorem tw_845 : (Jvm.Cond.selects "BetweenCountsModel" ({ cls := "BetweenCountsModel", name := "far", desc := "(II)I" } : Jvm.MethodName) ({ cls := "BetweenCountsModel", name := "far", desc := "(II)I" } : Jvm.MethodName)) ∈ TS := TS_in (List.mem_of_getElem? (i := 845) (by decide +kernel)) rfl
set_option maxRecDepth 20000 in
theorem tw_846 : (Jvm.Cond.code ({ cls := "BetweenCountsModel", name := "far", desc := "(II)I" } : Jvm.MethodName) prog_10_method_15_code (4 : Nat) (Option.some Jvm.ClassFile.FieldType.int)) ∈ TS := TS_in (List.mem_of_getElem? (i := 846) rfl) rfl
theorem tw_847 : (Jvm.Cond.methodLink "BetweenCountsModel" (135 : Nat) ({ cls := "BetweenCountsModel", name := "lengths", desc := "()V" } : Jvm.MethodName)) ∈ TS := TS_in (List.mem_of_getElem? (i := 847) (by decide +kernel)) rfl
theorem tw_849 : (Jvm.Cond.instanceMethod ({ cls := "BetweenCountsModel", name := "lengths", desc := "()V" } : Jvm.MethodName)) ∈ TS := TS_in (List.mem_of_getElem? (i := 849) (by decide +kernel)) rfl
set_option maxRecDepth 20000 in
theorem tw_850 : (Jvm.Cond.code ({ cls := "BetweenCountsModel", name := "lengths", desc := "()V" } : Jvm.MethodName) prog_10_method_10_code (5 : Nat) (Option.none : Option Jvm.ClassFile.FieldType)) ∈ TS := TS_in (List.mem_of_getElem? (i := 850) rfl) rfl
theorem tw_851 : (Jvm.Cond.methodLink "BetweenCountsModel" (130 : Nat) ({ cls := "BetweenCountsModel", name := "cell", desc := "(II)I" } : Jvm.MethodName)) ∈ TS := TS_in (List.mem_of_getElem? (i := 851) (by decide +kernel)) rfl
theorem tw_853 : (Jvm.Cond.instanceMethod ({ cls := "BetweenCountsModel", name := "cell", desc := "(II)I" } : Jvm.MethodName)) ∈ TS := TS_in (List.mem_of_getElem? (i := 853) (by decide +kernel)) rfl
set_option maxRecDepth 20000 in
theorem tw_854 : (Jvm.Cond.code ({ cls := "BetweenCountsModel", name := "cell", desc := "(II)I" } : Jvm.MethodName) prog_10_method_9_code (3 : Nat) (Option.some Jvm.ClassFile.FieldType.int)) ∈ TS := TS_in (List.mem_of_getElem? (i := 854) rfl) rfl
theorem tw_855 : (Jvm.Cond.constant "BetweenCountsModel" (134 : Nat) (1000000 : Int32)) ∈ TS := TS_in (List.mem_of_getElem? (i := 855) (by decide +kernel)) rfl
theorem tw_856 : (Jvm.Cond.methodLink "BetweenCountsLaw" (40 : Nat) ({ cls := "BetweenCountsModel", name := "ways", desc := "(II)I" } : Jvm.MethodName)) ∈ TS := TS_in (List.mem_of_getElem? (i := 856) (by decide +kernel)) rfl
theorem tw_857 : (Jvm.Cond.instanceMethod ({ cls := "BetweenCountsModel", name := "ways", desc := "(II)I" } : Jvm.MethodName)) ∈ TS := TS_in (List.mem_of_getElem? (i := 857) (by decide +kernel)) rfl
theorem tw_858 : (Jvm.Cond.selects "BetweenCountsModel" ({ cls := "BetweenCountsModel", name := "ways", desc := "(II)I" } : Jvm.MethodName) ({ cls := "BetweenCountsModel", name := "ways", desc := "(II)I" } : Jvm.MethodName)) ∈ TS := TS_in (List.mem_of_getElem? (i := 858) (by decide +kernel)) rfl
set_option maxRecDepth 20000 in
theorem tw_859 : (Jvm.Cond.code ({ cls := "BetweenCountsModel", name := "ways", desc := "(II)I" } : Jvm.MethodName) prog_10_method_16_code (3 : Nat) (Option.some Jvm.ClassFile.FieldType.int)) ∈ TS := TS_in (List.mem_of_getElem? (i := 859) rfl) rfl
theorem tw_860 : (Jvm.Cond.methodLink "BetweenCountsModel" (142 : Nat) ({ cls := "BetweenCountsModel", name := "countAll", desc := "(Z)V" } : Jvm.MethodName)) ∈ TS := TS_in (List.mem_of_getElem? (i := 860) (by decide +kernel)) rfl
theorem tw_862 : (Jvm.Cond.instanceMethod ({ cls := "BetweenCountsModel", name := "countAll", desc := "(Z)V" } : Jvm.MethodName)) ∈ TS := TS_in (List.mem_of_getElem? (i := 862) (by decide +kernel)) rfl
set_option maxRecDepth 20000 in
theorem tw_863 : (Jvm.Cond.code ({ cls := "BetweenCountsModel", name := "countAll", desc := "(Z)V" } : Jvm.MethodName) prog_10_method_11_code (7 : Nat) (Option.none : Option Jvm.ClassFile.FieldType)) ∈ TS := TS_in (List.mem_of_getElem? (i := 863) rfl) rfl
theorem tw_864 : (Jvm.Cond.methodLink "BetweenCountsModel" (138 : Nat) ({ cls := "BetweenCountsModel", name := "intoNode", desc := "(IIZ)J" } : Jvm.MethodName)) ∈ TS := TS_in (List.mem_of_getElem? (i := 864) (by decide +kernel)) rfl
theorem tw_866 : (Jvm.Cond.instanceMethod ({ cls := "BetweenCountsModel", name := "intoNode", desc := "(IIZ)J" } : Jvm.MethodName)) ∈ TS := TS_in (List.mem_of_getElem? (i := 866) (by decide +kernel)) rfl
set_option maxRecDepth 20000 in
theorem tw_867 : (Jvm.Cond.code ({ cls := "BetweenCountsModel", name := "intoNode", desc := "(IIZ)J" } : Jvm.MethodName) prog_10_method_12_code (7 : Nat) (Option.some Jvm.ClassFile.FieldType.long)) ∈ TS := TS_in (List.mem_of_getElem? (i := 867) rfl) rfl
theorem tw_868 : (Jvm.Cond.methodLink "BetweenCountsLaw" (45 : Nat) ({ cls := "BetweenCountsModel", name := "stress", desc := "(I)J" } : Jvm.MethodName)) ∈ TS := TS_in (List.mem_of_getElem? (i := 868) (by decide +kernel)) rfl
theorem tw_869 : (Jvm.Cond.instanceMethod ({ cls := "BetweenCountsModel", name := "stress", desc := "(I)J" } : Jvm.MethodName)) ∈ TS := TS_in (List.mem_of_getElem? (i := 869) (by decide +kernel)) rfl
theorem tw_870 : (Jvm.Cond.selects "BetweenCountsModel" ({ cls := "BetweenCountsModel", name := "stress", desc := "(I)J" } : Jvm.MethodName) ({ cls := "BetweenCountsModel", name := "stress", desc := "(I)J" } : Jvm.MethodName)) ∈ TS := TS_in (List.mem_of_getElem? (i := 870) (by decide +kernel)) rfl
set_option maxRecDepth 20000 in
theorem tw_871 : (Jvm.Cond.code ({ cls := "BetweenCountsModel", name := "stress", desc := "(I)J" } : Jvm.MethodName) prog_10_method_17_code (6 : Nat) (Option.some Jvm.ClassFile.FieldType.long)) ∈ TS := TS_in (List.mem_of_getElem? (i := 871) rfl) rfl
theorem tw_872 : (Jvm.Cond.constantLong "BetweenCountsModel" (146 : Nat) (-1 : Int64)) ∈ TS := TS_in (List.mem_of_getElem? (i := 872) (by decide +kernel)) rfl
theorem tw_873 : (Jvm.Cond.methodLink "BetweenCountsModel" (148 : Nat) ({ cls := "BetweenCountsModel", name := "isPair", desc := "(II)Z" } : Jvm.MethodName)) ∈ TS := TS_in (List.mem_of_getElem? (i := 873) (by decide +kernel)) rfl
theorem tw_875 : (Jvm.Cond.instanceMethod ({ cls := "BetweenCountsModel", name := "isPair", desc := "(II)Z" } : Jvm.MethodName)) ∈ TS := TS_in (List.mem_of_getElem? (i := 875) (by decide +kernel)) rfl
set_option maxRecDepth 20000 in
theorem tw_876 : (Jvm.Cond.code ({ cls := "BetweenCountsModel", name := "isPair", desc := "(II)Z" } : Jvm.MethodName) prog_10_method_13_code (3 : Nat) (Option.some Jvm.ClassFile.FieldType.boolean)) ∈ TS := TS_in (List.mem_of_getElem? (i := 876) rfl) rfl
theorem tw_877 : (Jvm.Cond.methodLink "BetweenCountsModel" (151 : Nat) ({ cls := "BetweenCountsModel", name := "through", desc := "(III)J" } : Jvm.MethodName)) ∈ TS := TS_in (List.mem_of_getElem? (i := 877) (by decide +kernel)) rfl
theorem tw_879 : (Jvm.Cond.instanceMethod ({ cls := "BetweenCountsModel", name := "through", desc := "(III)J" } : Jvm.MethodName)) ∈ TS := TS_in (List.mem_of_getElem? (i := 879) (by decide +kernel)) rfl
set_option maxRecDepth 20000 in
theorem tw_880 : (Jvm.Cond.code ({ cls := "BetweenCountsModel", name := "through", desc := "(III)J" } : Jvm.MethodName) prog_10_method_14_code (5 : Nat) (Option.some Jvm.ClassFile.FieldType.long)) ∈ TS := TS_in (List.mem_of_getElem? (i := 880) rfl) rfl
theorem tw_881 : (Jvm.Cond.methodLink "BetweenCountsLaw" (50 : Nat) ({ cls := "BetweenCountsModel", name := "between", desc := "(III)J" } : Jvm.MethodName)) ∈ TS := TS_in (List.mem_of_getElem? (i := 881) (by decide +kernel)) rfl
theorem tw_882 : (Jvm.Cond.instanceMethod ({ cls := "BetweenCountsModel", name := "between", desc := "(III)J" } : Jvm.MethodName)) ∈ TS := TS_in (List.mem_of_getElem? (i := 882) (by decide +kernel)) rfl
theorem tw_883 : (Jvm.Cond.selects "BetweenCountsModel" ({ cls := "BetweenCountsModel", name := "between", desc := "(III)J" } : Jvm.MethodName) ({ cls := "BetweenCountsModel", name := "between", desc := "(III)J" } : Jvm.MethodName)) ∈ TS := TS_in (List.mem_of_getElem? (i := 883) (by decide +kernel)) rfl
set_option maxRecDepth 20000 in
theorem tw_884 : (Jvm.Cond.code ({ cls := "BetweenCountsModel", name := "between", desc := "(III)J" } : Jvm.MethodName) prog_10_method_37_code (4 : Nat) (Option.some Jvm.ClassFile.FieldType.long)) ∈ TS := TS_in (List.mem_of_getElem? (i := 884) rfl) rfl
theorem tw_885 : (Jvm.Cond.methodLink "BetweenCountsModel" (208 : Nat) ({ cls := "BetweenCountsModel", name := "isAsked", desc := "(II)Z" } : Jvm.MethodName)) ∈ TS := TS_in (List.mem_of_getElem? (i := 885) (by decide +kernel)) rfl
theorem tw_886 : (Jvm.Cond.static ({ cls := "BetweenCountsModel", name := "isAsked", desc := "(II)Z" } : Jvm.MethodName)) ∈ TS := TS_in (List.mem_of_getElem? (i := 886) (by decide +kernel)) rfl
set_option maxRecDepth 20000 in
theorem tw_887 : (Jvm.Cond.code ({ cls := "BetweenCountsModel", name := "isAsked", desc := "(II)Z" } : Jvm.MethodName) prog_10_method_34_code (2 : Nat) (Option.some Jvm.ClassFile.FieldType.boolean)) ∈ TS := TS_in (List.mem_of_getElem? (i := 887) rfl) rfl
theorem tw_888 : (Jvm.Cond.methodLink "BetweenCountsModel" (211 : Nat) ({ cls := "BetweenCountsModel", name := "isOther", desc := "(III)Z" } : Jvm.MethodName)) ∈ TS := TS_in (List.mem_of_getElem? (i := 888) (by decide +kernel)) rfl
theorem tw_890 : (Jvm.Cond.instanceMethod ({ cls := "BetweenCountsModel", name := "isOther", desc := "(III)Z" } : Jvm.MethodName)) ∈ TS := TS_in (List.mem_of_getElem? (i := 890) (by decide +kernel)) rfl
set_option maxRecDepth 20000 in
theorem tw_891 : (Jvm.Cond.code ({ cls := "BetweenCountsModel", name := "isOther", desc := "(III)Z" } : Jvm.MethodName) prog_10_method_35_code (6 : Nat) (Option.some Jvm.ClassFile.FieldType.boolean)) ∈ TS := TS_in (List.mem_of_getElem? (i := 891) rfl) rfl
theorem tw_892 : (Jvm.Cond.methodLink "BetweenCountsModel" (215 : Nat) ({ cls := "BetweenCountsModel", name := "addBetween", desc := "(I)V" } : Jvm.MethodName)) ∈ TS := TS_in (List.mem_of_getElem? (i := 892) (by decide +kernel)) rfl
theorem tw_894 : (Jvm.Cond.instanceMethod ({ cls := "BetweenCountsModel", name := "addBetween", desc := "(I)V" } : Jvm.MethodName)) ∈ TS := TS_in (List.mem_of_getElem? (i := 894) (by decide +kernel)) rfl
set_option maxRecDepth 20000 in
theorem tw_895 : (Jvm.Cond.code ({ cls := "BetweenCountsModel", name := "addBetween", desc := "(I)V" } : Jvm.MethodName) prog_10_method_36_code (6 : Nat) (Option.none : Option Jvm.ClassFile.FieldType)) ∈ TS := TS_in (List.mem_of_getElem? (i := 895) rfl) rfl
theorem tw_896 : (Jvm.Cond.methodLink "BetweenCountsModel" (201 : Nat) ({ cls := "BetweenCountsModel", name := "nothing", desc := "()V" } : Jvm.MethodName)) ∈ TS := TS_in (List.mem_of_getElem? (i := 896) (by decide +kernel)) rfl
theorem tw_898 : (Jvm.Cond.instanceMethod ({ cls := "BetweenCountsModel", name := "nothing", desc := "()V" } : Jvm.MethodName)) ∈ TS := TS_in (List.mem_of_getElem? (i := 898) (by decide +kernel)) rfl
set_option maxRecDepth 20000 in
theorem tw_899 : (Jvm.Cond.code ({ cls := "BetweenCountsModel", name := "nothing", desc := "()V" } : Jvm.MethodName) prog_10_method_28_code (1 : Nat) (Option.none : Option Jvm.ClassFile.FieldType)) ∈ TS := TS_in (List.mem_of_getElem? (i := 899) rfl) rfl
theorem tw_900 : (Jvm.Cond.methodLink "BetweenCountsModel" (165 : Nat) ({ cls := "BetweenCountsModel", name := "to", desc := "([JJ)V" } : Jvm.MethodName)) ∈ TS := TS_in (List.mem_of_getElem? (i := 900) (by decide +kernel)) rfl
theorem tw_901 : (Jvm.Cond.static ({ cls := "BetweenCountsModel", name := "to", desc := "([JJ)V" } : Jvm.MethodName)) ∈ TS := TS_in (List.mem_of_getElem? (i := 901) (by decide +kernel)) rfl
set_option maxRecDepth 20000 in
theorem tw_902 : (Jvm.Cond.code ({ cls := "BetweenCountsModel", name := "to", desc := "([JJ)V" } : Jvm.MethodName) prog_10_method_18_code (4 : Nat) (Option.none : Option Jvm.ClassFile.FieldType)) ∈ TS := TS_in (List.mem_of_getElem? (i := 902) rfl) rfl
theorem tw_903 : (Jvm.Cond.constantLong "BetweenCountsModel" (155 : Nat) (4294967295 : Int64)) ∈ TS := TS_in (List.mem_of_getElem? (i := 903) (by decide +kernel)) rfl
theorem tw_904 : (Jvm.Cond.methodLink "BetweenCountsModel" (204 : Nat) ({ cls := "BetweenCountsModel", name := "more", desc := "(JJ)V" } : Jvm.MethodName)) ∈ TS := TS_in (List.mem_of_getElem? (i := 904) (by decide +kernel)) rfl
theorem tw_906 : (Jvm.Cond.instanceMethod ({ cls := "BetweenCountsModel", name := "more", desc := "(JJ)V" } : Jvm.MethodName)) ∈ TS := TS_in (List.mem_of_getElem? (i := 906) (by decide +kernel)) rfl
set_option maxRecDepth 20000 in
theorem tw_907 : (Jvm.Cond.code ({ cls := "BetweenCountsModel", name := "more", desc := "(JJ)V" } : Jvm.MethodName) prog_10_method_29_code (15 : Nat) (Option.none : Option Jvm.ClassFile.FieldType)) ∈ TS := TS_in (List.mem_of_getElem? (i := 907) rfl) rfl
