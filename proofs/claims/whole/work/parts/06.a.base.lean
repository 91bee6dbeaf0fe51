theorem LE {a b : Nat} (h : Nat.ble a b = true := by rfl) : a ≤ b := Nat.le_of_ble_eq_true h
def un2 {α β ρ : Type} (p : α × β) (f : α → β → ρ) : ρ := f p.1 p.2
theorem un2E {α β ρ : Type} {a0 : α} {a1 : β} {f : α → β → ρ} {r : ρ} (h : un2 (a0, a1) f = r) : f a0 a1 = r := h
def un3 {α β γ ρ : Type} (p : α × β × γ) (f : α → β → γ → ρ) : ρ := f p.1 p.2.1 p.2.2
theorem un3E {α β γ ρ : Type} {a0 : α} {a1 : β} {a2 : γ} {f : α → β → γ → ρ} {r : ρ} (h : un3 (a0, a1, a2) f = r) : f a0 a1 a2 = r := h
def un4 {α β γ δ ρ : Type} (p : α × β × γ × δ) (f : α → β → γ → δ → ρ) : ρ := f p.1 p.2.1 p.2.2.1 p.2.2.2
theorem un4E {α β γ δ ρ : Type} {a0 : α} {a1 : β} {a2 : γ} {a3 : δ} {f : α → β → γ → δ → ρ} {r : ρ} (h : un4 (a0, a1, a2, a3) f = r) : f a0 a1 a2 a3 = r := h
def un5 {α β γ δ ε ρ : Type} (p : α × β × γ × δ × ε) (f : α → β → γ → δ → ε → ρ) : ρ := f p.1 p.2.1 p.2.2.1 p.2.2.2.1 p.2.2.2.2
theorem un5E {α β γ δ ε ρ : Type} {a0 : α} {a1 : β} {a2 : γ} {a3 : δ} {a4 : ε} {f : α → β → γ → δ → ε → ρ} {r : ρ} (h : un5 (a0, a1, a2, a3, a4) f = r) : f a0 a1 a2 a3 a4 = r := h
def un6 {α β γ δ ε ζ ρ : Type} (p : α × β × γ × δ × ε × ζ) (f : α → β → γ → δ → ε → ζ → ρ) : ρ := f p.1 p.2.1 p.2.2.1 p.2.2.2.1 p.2.2.2.2.1 p.2.2.2.2.2
theorem un6E {α β γ δ ε ζ ρ : Type} {a0 : α} {a1 : β} {a2 : γ} {a3 : δ} {a4 : ε} {a5 : ζ} {f : α → β → γ → δ → ε → ζ → ρ} {r : ρ} (h : un6 (a0, a1, a2, a3, a4, a5) f = r) : f a0 a1 a2 a3 a4 a5 = r := h
theorem sw_out5 {x : Int32} (w0 : ¬ x = 0) (w1 : ¬ x = 1) (w2 : ¬ x = 2) (w3 : ¬ x = 3) (w4 : ¬ x = 4) (w5 : ¬ x = 5) : x.toInt < 0 ∨ 5 < x.toInt := by
  rw [← Int32.toInt_inj] at w0 w1 w2 w3 w4 w5
  have e0 : (0 : Int32).toInt = 0 := by decide
  have e1 : (1 : Int32).toInt = 1 := by decide
  have e2 : (2 : Int32).toInt = 2 := by decide
  have e3 : (3 : Int32).toInt = 3 := by decide
  have e4 : (4 : Int32).toInt = 4 := by decide
  have e5 : (5 : Int32).toInt = 5 := by decide
  omega
theorem nhX0 : RX0 ≠ "java/lang/invoke/MethodHandle" ∧ RX0 ≠ "java/lang/invoke/VarHandle" := by decide
theorem plX0 : plainName RX0 = true := by decide
theorem nhX1 : RX1 ≠ "java/lang/invoke/MethodHandle" ∧ RX1 ≠ "java/lang/invoke/VarHandle" := by decide
theorem plX1 : plainName RX1 = true := by decide
theorem nhX2 : RX2 ≠ "java/lang/invoke/MethodHandle" ∧ RX2 ≠ "java/lang/invoke/VarHandle" := by decide
theorem plX2 : plainName RX2 = true := by decide
theorem nhX3 : RX3 ≠ "java/lang/invoke/MethodHandle" ∧ RX3 ≠ "java/lang/invoke/VarHandle" := by decide
theorem plX3 : plainName RX3 = true := by decide
theorem nhX4 : RX4 ≠ "java/lang/invoke/MethodHandle" ∧ RX4 ≠ "java/lang/invoke/VarHandle" := by decide
theorem plX4 : plainName RX4 = true := by decide
theorem nhX5 : RX5 ≠ "java/lang/invoke/MethodHandle" ∧ RX5 ≠ "java/lang/invoke/VarHandle" := by decide
theorem plX5 : plainName RX5 = true := by decide
theorem nhX6 : RX6 ≠ "java/lang/invoke/MethodHandle" ∧ RX6 ≠ "java/lang/invoke/VarHandle" := by decide
theorem plX6 : plainName RX6 = true := by decide
theorem nhX7 : RX7 ≠ "java/lang/invoke/MethodHandle" ∧ RX7 ≠ "java/lang/invoke/VarHandle" := by decide
theorem plX7 : plainName RX7 = true := by decide
theorem nhX8 : RX8 ≠ "java/lang/invoke/MethodHandle" ∧ RX8 ≠ "java/lang/invoke/VarHandle" := by decide
theorem plX8 : plainName RX8 = true := by decide
theorem nhJ7 : RJ7 ≠ "java/lang/invoke/MethodHandle" ∧ RJ7 ≠ "java/lang/invoke/VarHandle" := by decide
theorem plJ7 : plainName RJ7 = true := by decide
abbrev mX4_addNode : YI := (yX4_addNode, cX4_addNode, 1, some .int, 0, 0)
abbrev mX6_forget : YI := (yX6_forget, cX6_forget, 1, none, 0, 0)
abbrev mX2_forget : YI := (yX2_forget, cX2_forget, 1, none, 0, 0)
abbrev mX5_forget : YI := (yX5_forget, cX5_forget, 2, none, 0, 0)
abbrev mX7_forgetChoice : YI := (yX7_forgetChoice, cX7_forgetChoice, 1, none, 1, 21)
abbrev mX7_forgetNetwork : YI := (yX7_forgetNetwork, cX7_forgetNetwork, 1, none, 2, 41)
abbrev mX7_node : YI := (yX7_node, cX7_node, 2, some .int, 3, 61)
abbrev mX4_hasNode : YI := (yX4_hasNode, cX4_hasNode, 2, some .boolean, 0, 0)
abbrev mX4_isWeight : YI := (yX4_isWeight, cX4_isWeight, 2, some .boolean, 0, 0)
abbrev mX4_addArc : YI := (yX4_addArc, cX4_addArc, 4, some .int, 1, 21)
abbrev mX7_arc : YI := (yX7_arc, cX7_arc, 5, some .int, 3, 61)
abbrev mX4_hasArc : YI := (yX4_hasArc, cX4_hasArc, 2, some .boolean, 0, 0)
abbrev mX7_change : YI := (yX7_change, cX7_change, 4, some .int, 3, 61)
abbrev mX7_choose : YI := (yX7_choose, cX7_choose, 4, some .boolean, 2, 41)
abbrev mJ7_fill_53178 : YI := (yJ7_fill_53178, cJ7_fill_53178, 4, none, 0, 0)
abbrev mX6_nearestLeft : YI := (yX6_nearestLeft, cX6_nearestLeft, 4, some .int, 0, 0)
abbrev mX6_goBy : YI := (yX6_goBy, cX6_goBy, 7, none, 0, 0)
abbrev mX6_spreadFrom : YI := (yX6_spreadFrom, cX6_spreadFrom, 7, none, 1, 26)
abbrev mX6_refresh : YI := (yX6_refresh, cX6_refresh, 2, none, 2, 52)
abbrev mX7_far : YI := (yX7_far, cX7_far, 3, some .int, 3, 73)
abbrev mX7_ways : YI := (yX7_ways, cX7_ways, 3, some .int, 3, 73)
abbrev mX7_isPair : YI := (yX7_isPair, cX7_isPair, 3, some .boolean, 0, 0)
abbrev mX6_countThrough : YI := (yX6_countThrough, cX6_countThrough, 6, some .int, 0, 0)
abbrev mX7_stress : YI := (yX7_stress, cX7_stress, 6, some .long, 3, 73)
abbrev mX7_isPlace : YI := (yX7_isPlace, cX7_isPlace, 2, some .boolean, 0, 0)
abbrev mX0_append : YI := (yX0_append, cX0_append, 3, none, 0, 0)
abbrev mX0_setSmall : YI := (yX0_setSmall, cX0_setSmall, 3, none, 1, 22)
abbrev mX3_clear : YI := (yX3_clear, cX3_clear, 1, none, 2, 44)
abbrev mX3_commonDivisor : YI := (yX3_commonDivisor, cX3_commonDivisor, 6, some .int, 1, 21)
abbrev mX0_rest : YI := (yX0_rest, cX0_rest, 5, some .int, 0, 0)
abbrev mX0_trim : YI := (yX0_trim, cX0_trim, 1, none, 0, 0)
abbrev mX0_divideSmall : YI := (yX0_divideSmall, cX0_divideSmall, 8, some .long, 1, 20)
abbrev mX0_times : YI := (yX0_times, cX0_times, 8, none, 1, 22)
abbrev mX0_pad : YI := (yX0_pad, cX0_pad, 4, none, 1, 21)
abbrev mX0_carryFrom : YI := (yX0_carryFrom, cX0_carryFrom, 9, none, 1, 22)
abbrev mX0_addTimes : YI := (yX0_addTimes, cX0_addTimes, 9, none, 2, 50)
abbrev mX3_addRatio : YI := (yX3_addRatio, cX3_addRatio, 7, none, 3, 78)
abbrev mX7_needBetween : YI := (yX7_needBetween, cX7_needBetween, 5, none, 4, 104)
abbrev mX0_digitAt : YI := (yX0_digitAt, cX0_digitAt, 2, some .long, 0, 0)
abbrev mX0_bitsOfLimb : YI := (yX0_bitsOfLimb, cX0_bitsOfLimb, 8, some .long, 1, 21)
abbrev mX3_limb : YI := (yX3_limb, cX3_limb, 3, some .long, 2, 48)
abbrev mX7_between : YI := (yX7_between, cX7_between, 4, some .long, 5, 128)
abbrev mX7_isNewQuestion : YI := (yX7_isNewQuestion, cX7_isNewQuestion, 2, some .boolean, 3, 64)
abbrev mX6_countBy : YI := (yX6_countBy, cX6_countBy, 6, some .int, 0, 0)
abbrev mX7_sumArc : YI := (yX7_sumArc, cX7_sumArc, 4, none, 4, 104)
abbrev mX7_arcBetween : YI := (yX7_arcBetween, cX7_arcBetween, 4, some .long, 5, 127)
abbrev mX7_countAround : YI := (yX7_countAround, cX7_countAround, 3, some .int, 0, 0)
abbrev mX7_sumGroup : YI := (yX7_sumGroup, cX7_sumGroup, 3, none, 4, 104)
abbrev mX7_group : YI := (yX7_group, cX7_group, 3, some .long, 5, 126)
abbrev mX7_sumHarmonic : YI := (yX7_sumHarmonic, cX7_sumHarmonic, 3, none, 4, 104)
abbrev mX7_harmonic : YI := (yX7_harmonic, cX7_harmonic, 4, some .long, 5, 126)
abbrev mX7_sumClose : YI := (yX7_sumClose, cX7_sumClose, 5, none, 4, 104)
abbrev mX7_close : YI := (yX7_close, cX7_close, 4, some .long, 5, 128)
abbrev mX0_addProduct : YI := (yX0_addProduct, cX0_addProduct, 11, none, 2, 50)
abbrev mX0_setProduct : YI := (yX0_setProduct, cX0_setProduct, 3, none, 3, 80)
abbrev mX0_compareWith : YI := (yX0_compareWith, cX0_compareWith, 3, some .int, 0, 0)
abbrev mX5_isLess : YI := (yX5_isLess, cX5_isLess, 3, some .boolean, 4, 102)
abbrev mX5_countAhead : YI := (yX5_countAhead, cX5_countAhead, 4, none, 5, 124)
abbrev mX5_nodeAt : YI := (yX5_nodeAt, cX5_nodeAt, 4, some .int, 6, 147)
abbrev mX7_top : YI := (yX7_top, cX7_top, 3, some .int, 7, 170)
abbrev mX2_lowerGrounds : YI := (yX2_lowerGrounds, cX2_lowerGrounds, 3, none, 1, 21)
abbrev mX2_refresh : YI := (yX2_refresh, cX2_refresh, 2, none, 2, 43)
abbrev mX2_isInner : YI := (yX2_isInner, cX2_isInner, 3, some .boolean, 0, 0)
abbrev mX2_entryOf : YI := (yX2_entryOf, cX2_entryOf, 3, some (.object "BetweenCounts$Big"), 0, 0)
abbrev mX2_startOf : YI := (yX2_startOf, cX2_startOf, 5, some .int, 0, 0)
abbrev mX0_set : YI := (yX0_set, cX0_set, 2, none, 1, 26)
abbrev mX0_subtract : YI := (yX0_subtract, cX0_subtract, 7, none, 2, 50)
abbrev mX1_guess : YI := (yX1_guess, cX1_guess, 17, some .long, 1, 21)
abbrev mX1_takeAway : YI := (yX1_takeAway, cX1_takeAway, 10, some .long, 0, 0)
abbrev mX1_putBack : YI := (yX1_putBack, cX1_putBack, 8, none, 0, 0)
abbrev mX0_cutAt : YI := (yX0_cutAt, cX0_cutAt, 2, none, 1, 21)
abbrev mX1_takeDigit : YI := (yX1_takeDigit, cX1_takeDigit, 7, some .long, 2, 57)
abbrev mX1_divide : YI := (yX1_divide, cX1_divide, 7, none, 3, 83)
abbrev mX2_sweepEntry : YI := (yX2_sweepEntry, cX2_sweepEntry, 5, none, 4, 109)
abbrev mX2_sweep : YI := (yX2_sweep, cX2_sweep, 5, none, 5, 133)
abbrev mX2_settle : YI := (yX2_settle, cX2_settle, 5, none, 6, 157)
abbrev mX1_reduce : YI := (yX1_reduce, cX1_reduce, 6, none, 4, 109)
abbrev mX2_tellResistance : YI := (yX2_tellResistance, cX2_tellResistance, 4, none, 5, 134)
abbrev mX7_resistance : YI := (yX7_resistance, cX7_resistance, 5, some .long, 7, 181)
abbrev mX2_isOther : YI := (yX2_isOther, cX2_isOther, 3, some .boolean, 0, 0)
abbrev mX2_dropOf : YI := (yX2_dropOf, cX2_dropOf, 5, some (.object "BetweenCounts$Big"), 3, 78)
abbrev mX2_addFlows : YI := (yX2_addFlows, cX2_addFlows, 6, none, 4, 102)
abbrev mX2_tellCarried : YI := (yX2_tellCarried, cX2_tellCarried, 5, none, 5, 134)
abbrev mX7_carried : YI := (yX7_carried, cX7_carried, 4, some .long, 7, 181)
abbrev mX4_arcsThere : YI := (yX4_arcsThere, cX4_arcsThere, 3, some .int, 0, 0)
abbrev mX7_countPairs : YI := (yX7_countPairs, cX7_countPairs, 4, some .int, 3, 73)
abbrev mX7_countGroup : YI := (yX7_countGroup, cX7_countGroup, 3, some .int, 0, 0)
abbrev mX2_countPieces : YI := (yX2_countPieces, cX2_countPieces, 3, some .int, 0, 0)
abbrev mX7_told : YI := (yX7_told, cX7_told, 2, some .int, 4, 96)
abbrev mX8_isNode : YI := (yX8_isNode, cX8_isNode, 2, some .boolean, 0, 0)
abbrev mX8_isArc : YI := (yX8_isArc, cX8_isArc, 2, some .boolean, 0, 0)
abbrev mX8_isChosen : YI := (yX8_isChosen, cX8_isChosen, 3, some .boolean, 0, 0)
abbrev mX8_node : YI := (yX8_node, cX8_node, 1, some .int, 0, 0)
abbrev mX8_arc : YI := (yX8_arc, cX8_arc, 4, some .int, 1, 21)
abbrev mX8_change : YI := (yX8_change, cX8_change, 4, some .int, 1, 21)
abbrev mX8_choose : YI := (yX8_choose, cX8_choose, 3, some .boolean, 1, 22)
abbrev mX8_cell : YI := (yX8_cell, cX8_cell, 3, some .int, 0, 0)
abbrev mX8_lengths : YI := (yX8_lengths, cX8_lengths, 5, none, 1, 22)
abbrev mX8_intoNode : YI := (yX8_intoNode, cX8_intoNode, 7, some .long, 1, 22)
abbrev mX8_countAll : YI := (yX8_countAll, cX8_countAll, 7, none, 2, 48)
abbrev mX8_isPair : YI := (yX8_isPair, cX8_isPair, 3, some .boolean, 1, 22)
abbrev mX8_through : YI := (yX8_through, cX8_through, 5, some .long, 1, 22)
abbrev mX8_far : YI := (yX8_far, cX8_far, 4, some .int, 2, 46)
abbrev mX8_ways : YI := (yX8_ways, cX8_ways, 3, some .int, 3, 74)
abbrev mX8_stress : YI := (yX8_stress, cX8_stress, 6, some .long, 3, 74)
abbrev mX8_to : YI := (yX8_to, cX8_to, 4, none, 0, 0)
abbrev mX8_copy : YI := (yX8_copy, cX8_copy, 4, none, 0, 0)
abbrev mX8_times : YI := (yX8_times, cX8_times, 9, none, 0, 0)
abbrev mX8_add : YI := (yX8_add, cX8_add, 8, none, 0, 0)
abbrev mX8_less : YI := (yX8_less, cX8_less, 8, none, 0, 0)
abbrev mX8_compare : YI := (yX8_compare, cX8_compare, 5, some .int, 0, 0)
abbrev mX8_isZero : YI := (yX8_isZero, cX8_isZero, 4, some .boolean, 0, 0)
abbrev mX8_by : YI := (yX8_by, cX8_by, 9, some .long, 0, 0)
abbrev mX8_rest : YI := (yX8_rest, cX8_rest, 4, some .long, 1, 28)
abbrev mX8_divisor : YI := (yX8_divisor, cX8_divisor, 10, some .long, 0, 0)
abbrev mX8_nothing : YI := (yX8_nothing, cX8_nothing, 1, none, 1, 23)
abbrev mX8_more : YI := (yX8_more, cX8_more, 15, none, 2, 51)
abbrev mX8_half : YI := (yX8_half, cX8_half, 3, none, 0, 0)
abbrev mX8_divide : YI := (yX8_divide, cX8_divide, 3, none, 1, 28)
abbrev mX8_lowest : YI := (yX8_lowest, cX8_lowest, 3, none, 2, 50)
abbrev mX8_told : YI := (yX8_told, cX8_told, 3, some .long, 0, 0)
abbrev mX8_isAsked : YI := (yX8_isAsked, cX8_isAsked, 2, some .boolean, 0, 0)
abbrev mX8_isOther : YI := (yX8_isOther, cX8_isOther, 6, some .boolean, 0, 0)
abbrev mX8_addBetween : YI := (yX8_addBetween, cX8_addBetween, 6, none, 3, 85)
abbrev mX8_between : YI := (yX8_between, cX8_between, 4, some .long, 4, 110)
abbrev mX8_arcBetween : YI := (yX8_arcBetween, cX8_arcBetween, 6, some .long, 3, 85)
abbrev mX8_group : YI := (yX8_group, cX8_group, 7, some .long, 3, 85)
abbrev mX8_harmonic : YI := (yX8_harmonic, cX8_harmonic, 5, some .long, 3, 85)
abbrev mX8_close : YI := (yX8_close, cX8_close, 9, some .long, 3, 85)
abbrev mX8_product : YI := (yX8_product, cX8_product, 12, none, 0, 0)
abbrev mX8_isGreater : YI := (yX8_isGreater, cX8_isGreater, 4, some .boolean, 1, 31)
abbrev mX8_top : YI := (yX8_top, cX8_top, 5, some .int, 4, 110)
abbrev mX8_power : YI := (yX8_power, cX8_power, 12, some .long, 0, 0)
abbrev mX8_invert : YI := (yX8_invert, cX8_invert, 18, some .boolean, 1, 31)
abbrev mX8_lookAtPiece : YI := (yX8_lookAtPiece, cX8_lookAtPiece, 5, none, 2, 68)
abbrev mX8_whole : YI := (yX8_whole, cX8_whole, 4, none, 1, 31)
abbrev mX8_treesOf : YI := (yX8_treesOf, cX8_treesOf, 3, none, 2, 54)
abbrev mX8_begin : YI := (yX8_begin, cX8_begin, 1, none, 1, 23)
abbrev mX8_potential : YI := (yX8_potential, cX8_potential, 4, some .long, 1, 22)
abbrev mX8_resistance : YI := (yX8_resistance, cX8_resistance, 6, some .long, 3, 92)
abbrev mX8_addFlow : YI := (yX8_addFlow, cX8_addFlow, 8, none, 2, 54)
abbrev mX8_carried : YI := (yX8_carried, cX8_carried, 6, some .long, 3, 92)
abbrev mX8_told_ : YI := (yX8_told_, cX8_told_, 5, some .int, 3, 92)
theorem ft_4_0 : FT 4 0 = none := by decide
theorem ft_6_5 : FT 6 5 = none := by decide
theorem ft_2_9 : FT 2 9 = none := by decide
theorem ft_2_10 : FT 2 10 = none := by decide
theorem ft_5_1 : FT 5 1 = some 12 := by decide
theorem ft_5_3 : FT 5 3 = none := by decide
theorem ft_7_5 : FT 7 5 = some 6 := by decide
theorem ft_7_7 : FT 7 7 = some 5 := by decide
theorem ft_7_9 : FT 7 9 = none := by decide
theorem ft_7_4 : FT 7 4 = some 6 := by decide
theorem ft_7_6 : FT 7 6 = some 2 := by decide
theorem ft_7_0 : FT 7 0 = some 4 := by decide
theorem ft_4_1 : FT 4 1 = none := by decide
theorem ft_4_2 : FT 4 2 = some 10 := by decide
theorem ft_4_3 : FT 4 3 = some 10 := by decide
theorem ft_4_4 : FT 4 4 = some 10 := by decide
theorem ft_7_3 : FT 7 3 = some 12 := by decide
theorem ft_7_2 : FT 7 2 = some 12 := by decide
theorem ft_7_1 : FT 7 1 = some 12 := by decide
theorem ft_6_2 : FT 6 2 = some 4 := by decide
theorem ft_6_4 : FT 6 4 = some 12 := by decide
theorem ft_6_3 : FT 6 3 = some 12 := by decide
theorem ft_6_0 : FT 6 0 = some 13 := by decide
theorem ft_13_0 : FT 13 0 = some 10 := by decide
theorem ft_6_1 : FT 6 1 = some 13 := by decide
theorem ft_0_1 : FT 0 1 = none := by decide
theorem ft_0_0 : FT 0 0 = some 11 := by decide
theorem ft_3_0 : FT 3 0 = some 0 := by decide
theorem ft_3_1 : FT 3 1 = some 0 := by decide
theorem ft_5_0 : FT 5 0 = some 15 := by decide
theorem ft_15_0 : FT 15 0 = some 3 := by decide
theorem ft_7_8 : FT 7 8 = some 3 := by decide
theorem ft_5_4 : FT 5 4 = some 0 := by decide
theorem ft_5_5 : FT 5 5 = some 0 := by decide
theorem ft_5_2 : FT 5 2 = some 10 := by decide
theorem ft_2_1 : FT 2 1 = some 4 := by decide
theorem ft_2_0 : FT 2 0 = some 10 := by decide
theorem ft_2_2 : FT 2 2 = some 13 := by decide
theorem ft_2_3 : FT 2 3 = some 14 := by decide
theorem ft_14_0 : FT 14 0 = some 0 := by decide
theorem ft_1_1 : FT 1 1 = some 0 := by decide
theorem ft_1_0 : FT 1 0 = some 0 := by decide
theorem ft_2_6 : FT 2 6 = some 0 := by decide
theorem ft_2_5 : FT 2 5 = some 0 := by decide
theorem ft_2_8 : FT 2 8 = some 1 := by decide
theorem ft_2_4 : FT 2 4 = some 0 := by decide
theorem ft_2_7 : FT 2 7 = some 0 := by decide
theorem ft_1_2 : FT 1 2 = some 0 := by decide
theorem ft_1_3 : FT 1 3 = some 0 := by decide
theorem ft_8_0 : FT 8 0 = none := by decide
theorem ft_8_1 : FT 8 1 = none := by decide
theorem ft_8_5 : FT 8 5 = some 12 := by decide
theorem ft_8_16 : FT 8 16 = none := by decide
theorem ft_8_2 : FT 8 2 = some 10 := by decide
theorem ft_8_3 : FT 8 3 = some 10 := by decide
theorem ft_8_4 : FT 8 4 = some 10 := by decide
theorem ft_8_6 : FT 8 6 = some 10 := by decide
theorem ft_8_7 : FT 8 7 = some 11 := by decide
theorem ft_8_9 : FT 8 9 = none := by decide
theorem ft_8_12 : FT 8 12 = some 11 := by decide
theorem ft_8_10 : FT 8 10 = some 11 := by decide
theorem ft_8_11 : FT 8 11 = some 11 := by decide
theorem ft_8_13 : FT 8 13 = some 11 := by decide
theorem ft_8_14 : FT 8 14 = some 11 := by decide
theorem ft_8_8 : FT 8 8 = some 11 := by decide
theorem ft_8_19 : FT 8 19 = some 11 := by decide
theorem ft_8_17 : FT 8 17 = some 11 := by decide
theorem ft_8_18 : FT 8 18 = some 11 := by decide
theorem ft_8_20 : FT 8 20 = some 11 := by decide
theorem ft_8_25 : FT 8 25 = none := by decide
theorem ft_8_26 : FT 8 26 = some 11 := by decide
theorem ft_8_23 : FT 8 23 = some 10 := by decide
theorem ft_8_27 : FT 8 27 = some 11 := by decide
theorem ft_8_28 : FT 8 28 = some 11 := by decide
theorem ft_8_29 : FT 8 29 = some 11 := by decide
theorem ft_8_24 : FT 8 24 = some 12 := by decide
theorem ft_8_22 : FT 8 22 = some 10 := by decide
theorem ft_8_21 : FT 8 21 = some 11 := by decide
theorem ft_8_30 : FT 8 30 = some 11 := by decide
theorem ft_8_15 : FT 8 15 = some 11 := by decide
theorem tf_5_1 {a : Nat} (h : tg a = 5) : tg (rf a 1) = 12 := tg_f h (by decide) (by decide) ft_5_1
theorem tf_7_5 {a : Nat} (h : tg a = 7) : tg (rf a 5) = 6 := tg_f h (by decide) (by decide) ft_7_5
theorem tf_7_7 {a : Nat} (h : tg a = 7) : tg (rf a 7) = 5 := tg_f h (by decide) (by decide) ft_7_7
theorem tf_7_4 {a : Nat} (h : tg a = 7) : tg (rf a 4) = 6 := tg_f h (by decide) (by decide) ft_7_4
theorem tf_7_6 {a : Nat} (h : tg a = 7) : tg (rf a 6) = 2 := tg_f h (by decide) (by decide) ft_7_6
theorem tf_7_0 {a : Nat} (h : tg a = 7) : tg (rf a 0) = 4 := tg_f h (by decide) (by decide) ft_7_0
theorem tf_4_2 {a : Nat} (h : tg a = 4) : tg (rf a 2) = 10 := tg_f h (by decide) (by decide) ft_4_2
theorem tf_4_3 {a : Nat} (h : tg a = 4) : tg (rf a 3) = 10 := tg_f h (by decide) (by decide) ft_4_3
theorem tf_4_4 {a : Nat} (h : tg a = 4) : tg (rf a 4) = 10 := tg_f h (by decide) (by decide) ft_4_4
theorem tf_7_3 {a : Nat} (h : tg a = 7) : tg (rf a 3) = 12 := tg_f h (by decide) (by decide) ft_7_3
theorem tf_7_2 {a : Nat} (h : tg a = 7) : tg (rf a 2) = 12 := tg_f h (by decide) (by decide) ft_7_2
theorem tf_7_1 {a : Nat} (h : tg a = 7) : tg (rf a 1) = 12 := tg_f h (by decide) (by decide) ft_7_1
theorem tf_6_2 {a : Nat} (h : tg a = 6) : tg (rf a 2) = 4 := tg_f h (by decide) (by decide) ft_6_2
theorem tf_6_4 {a : Nat} (h : tg a = 6) : tg (rf a 4) = 12 := tg_f h (by decide) (by decide) ft_6_4
theorem tf_6_3 {a : Nat} (h : tg a = 6) : tg (rf a 3) = 12 := tg_f h (by decide) (by decide) ft_6_3
theorem tf_6_0 {a : Nat} (h : tg a = 6) : tg (rf a 0) = 13 := tg_f h (by decide) (by decide) ft_6_0
theorem tf_6_1 {a : Nat} (h : tg a = 6) : tg (rf a 1) = 13 := tg_f h (by decide) (by decide) ft_6_1
theorem tf_0_0 {a : Nat} (h : tg a = 0) : tg (rf a 0) = 11 := tg_f h (by decide) (by decide) ft_0_0
theorem tf_3_0 {a : Nat} (h : tg a = 3) : tg (rf a 0) = 0 := tg_f h (by decide) (by decide) ft_3_0
theorem tf_3_1 {a : Nat} (h : tg a = 3) : tg (rf a 1) = 0 := tg_f h (by decide) (by decide) ft_3_1
theorem tf_5_0 {a : Nat} (h : tg a = 5) : tg (rf a 0) = 15 := tg_f h (by decide) (by decide) ft_5_0
theorem tf_7_8 {a : Nat} (h : tg a = 7) : tg (rf a 8) = 3 := tg_f h (by decide) (by decide) ft_7_8
theorem tf_5_4 {a : Nat} (h : tg a = 5) : tg (rf a 4) = 0 := tg_f h (by decide) (by decide) ft_5_4
theorem tf_5_5 {a : Nat} (h : tg a = 5) : tg (rf a 5) = 0 := tg_f h (by decide) (by decide) ft_5_5
theorem tf_5_2 {a : Nat} (h : tg a = 5) : tg (rf a 2) = 10 := tg_f h (by decide) (by decide) ft_5_2
theorem tf_2_1 {a : Nat} (h : tg a = 2) : tg (rf a 1) = 4 := tg_f h (by decide) (by decide) ft_2_1
theorem tf_2_0 {a : Nat} (h : tg a = 2) : tg (rf a 0) = 10 := tg_f h (by decide) (by decide) ft_2_0
theorem tf_2_2 {a : Nat} (h : tg a = 2) : tg (rf a 2) = 13 := tg_f h (by decide) (by decide) ft_2_2
theorem tf_2_3 {a : Nat} (h : tg a = 2) : tg (rf a 3) = 14 := tg_f h (by decide) (by decide) ft_2_3
theorem tf_1_1 {a : Nat} (h : tg a = 1) : tg (rf a 1) = 0 := tg_f h (by decide) (by decide) ft_1_1
theorem tf_1_0 {a : Nat} (h : tg a = 1) : tg (rf a 0) = 0 := tg_f h (by decide) (by decide) ft_1_0
theorem tf_2_6 {a : Nat} (h : tg a = 2) : tg (rf a 6) = 0 := tg_f h (by decide) (by decide) ft_2_6
theorem tf_2_5 {a : Nat} (h : tg a = 2) : tg (rf a 5) = 0 := tg_f h (by decide) (by decide) ft_2_5
theorem tf_2_8 {a : Nat} (h : tg a = 2) : tg (rf a 8) = 1 := tg_f h (by decide) (by decide) ft_2_8
theorem tf_2_4 {a : Nat} (h : tg a = 2) : tg (rf a 4) = 0 := tg_f h (by decide) (by decide) ft_2_4
theorem tf_2_7 {a : Nat} (h : tg a = 2) : tg (rf a 7) = 0 := tg_f h (by decide) (by decide) ft_2_7
theorem tf_1_2 {a : Nat} (h : tg a = 1) : tg (rf a 2) = 0 := tg_f h (by decide) (by decide) ft_1_2
theorem tf_1_3 {a : Nat} (h : tg a = 1) : tg (rf a 3) = 0 := tg_f h (by decide) (by decide) ft_1_3
theorem tf_8_5 {a : Nat} (h : tg a = 8) : tg (rf a 5) = 12 := tg_f h (by decide) (by decide) ft_8_5
theorem tf_8_2 {a : Nat} (h : tg a = 8) : tg (rf a 2) = 10 := tg_f h (by decide) (by decide) ft_8_2
theorem tf_8_3 {a : Nat} (h : tg a = 8) : tg (rf a 3) = 10 := tg_f h (by decide) (by decide) ft_8_3
theorem tf_8_4 {a : Nat} (h : tg a = 8) : tg (rf a 4) = 10 := tg_f h (by decide) (by decide) ft_8_4
theorem tf_8_6 {a : Nat} (h : tg a = 8) : tg (rf a 6) = 10 := tg_f h (by decide) (by decide) ft_8_6
theorem tf_8_7 {a : Nat} (h : tg a = 8) : tg (rf a 7) = 11 := tg_f h (by decide) (by decide) ft_8_7
theorem tf_8_12 {a : Nat} (h : tg a = 8) : tg (rf a 12) = 11 := tg_f h (by decide) (by decide) ft_8_12
theorem tf_8_10 {a : Nat} (h : tg a = 8) : tg (rf a 10) = 11 := tg_f h (by decide) (by decide) ft_8_10
theorem tf_8_11 {a : Nat} (h : tg a = 8) : tg (rf a 11) = 11 := tg_f h (by decide) (by decide) ft_8_11
theorem tf_8_13 {a : Nat} (h : tg a = 8) : tg (rf a 13) = 11 := tg_f h (by decide) (by decide) ft_8_13
theorem tf_8_14 {a : Nat} (h : tg a = 8) : tg (rf a 14) = 11 := tg_f h (by decide) (by decide) ft_8_14
theorem tf_8_8 {a : Nat} (h : tg a = 8) : tg (rf a 8) = 11 := tg_f h (by decide) (by decide) ft_8_8
theorem tf_8_19 {a : Nat} (h : tg a = 8) : tg (rf a 19) = 11 := tg_f h (by decide) (by decide) ft_8_19
theorem tf_8_17 {a : Nat} (h : tg a = 8) : tg (rf a 17) = 11 := tg_f h (by decide) (by decide) ft_8_17
theorem tf_8_18 {a : Nat} (h : tg a = 8) : tg (rf a 18) = 11 := tg_f h (by decide) (by decide) ft_8_18
theorem tf_8_20 {a : Nat} (h : tg a = 8) : tg (rf a 20) = 11 := tg_f h (by decide) (by decide) ft_8_20
theorem tf_8_26 {a : Nat} (h : tg a = 8) : tg (rf a 26) = 11 := tg_f h (by decide) (by decide) ft_8_26
theorem tf_8_23 {a : Nat} (h : tg a = 8) : tg (rf a 23) = 10 := tg_f h (by decide) (by decide) ft_8_23
theorem tf_8_27 {a : Nat} (h : tg a = 8) : tg (rf a 27) = 11 := tg_f h (by decide) (by decide) ft_8_27
theorem tf_8_28 {a : Nat} (h : tg a = 8) : tg (rf a 28) = 11 := tg_f h (by decide) (by decide) ft_8_28
theorem tf_8_29 {a : Nat} (h : tg a = 8) : tg (rf a 29) = 11 := tg_f h (by decide) (by decide) ft_8_29
theorem tf_8_24 {a : Nat} (h : tg a = 8) : tg (rf a 24) = 12 := tg_f h (by decide) (by decide) ft_8_24
theorem tf_8_22 {a : Nat} (h : tg a = 8) : tg (rf a 22) = 10 := tg_f h (by decide) (by decide) ft_8_22
theorem tf_8_21 {a : Nat} (h : tg a = 8) : tg (rf a 21) = 11 := tg_f h (by decide) (by decide) ft_8_21
theorem tf_8_30 {a : Nat} (h : tg a = 8) : tg (rf a 30) = 11 := tg_f h (by decide) (by decide) ft_8_30
theorem tf_8_15 {a : Nat} (h : tg a = 8) : tg (rf a 15) = 11 := tg_f h (by decide) (by decide) ft_8_15
theorem fd_X4_9 : Fd0 RX4 9 4 0 := ⟨RX4, TX4, 5, rfl, inX4, by decide, by decide, by decide, tw_93⟩
theorem fd_X5_17 : Fd0 RX5 17 5 1 := ⟨RX5, TX5, 6, rfl, inX5, by decide, by decide, by decide, tw_277⟩
theorem fd_X7_35 : Fd0 RX7 35 7 5 := ⟨RX7, TX7, 10, rfl, inX7, by decide, by decide, by decide, tw_303⟩
theorem fd_X7_50 : Fd0 RX7 50 7 7 := ⟨RX7, TX7, 10, rfl, inX7, by decide, by decide, by decide, tw_305⟩
theorem fd_X7_31 : Fd0 RX7 31 7 4 := ⟨RX7, TX7, 10, rfl, inX7, by decide, by decide, by decide, tw_302⟩
theorem fd_X7_43 : Fd0 RX7 43 7 6 := ⟨RX7, TX7, 10, rfl, inX7, by decide, by decide, by decide, tw_304⟩
theorem fd_X7_12 : Fd0 RX7 12 7 0 := ⟨RX7, TX7, 10, rfl, inX7, by decide, by decide, by decide, tw_298⟩
theorem fd_X4_15 : Fd0 RX4 15 4 1 := ⟨RX4, TX4, 5, rfl, inX4, by decide, by decide, by decide, tw_97⟩
theorem fd_X4_18 : Fd0 RX4 18 4 2 := ⟨RX4, TX4, 5, rfl, inX4, by decide, by decide, by decide, tw_101⟩
theorem fd_X4_22 : Fd0 RX4 22 4 3 := ⟨RX4, TX4, 5, rfl, inX4, by decide, by decide, by decide, tw_104⟩
theorem fd_X4_25 : Fd0 RX4 25 4 4 := ⟨RX4, TX4, 5, rfl, inX4, by decide, by decide, by decide, tw_107⟩
theorem fd_X7_83 : Fd0 RX7 83 4 4 := ⟨RX4, TX4, 5, rfl, inX4, by decide, by decide, by decide, tw_109⟩
theorem fd_X7_23 : Fd0 RX7 23 7 3 := ⟨RX7, TX7, 10, rfl, inX7, by decide, by decide, by decide, tw_301⟩
theorem fd_X7_20 : Fd0 RX7 20 7 2 := ⟨RX7, TX7, 10, rfl, inX7, by decide, by decide, by decide, tw_300⟩
theorem fd_X7_16 : Fd0 RX7 16 7 1 := ⟨RX7, TX7, 10, rfl, inX7, by decide, by decide, by decide, tw_299⟩
theorem fd_X6_27 : Fd0 RX6 27 6 2 := ⟨RX6, TX6, 6, rfl, inX6, by decide, by decide, by decide, tw_135⟩
theorem fd_X6_34 : Fd0 RX6 34 4 0 := ⟨RX4, TX4, 5, rfl, inX4, by decide, by decide, by decide, tw_94⟩
theorem fd_X6_19 : Fd0 RX6 19 6 4 := ⟨RX6, TX6, 6, rfl, inX6, by decide, by decide, by decide, tw_137⟩
theorem fd_X6_57 : Fd0 RX6 57 4 2 := ⟨RX4, TX4, 5, rfl, inX4, by decide, by decide, by decide, tw_103⟩
theorem fd_X6_64 : Fd0 RX6 64 4 3 := ⟨RX4, TX4, 5, rfl, inX4, by decide, by decide, by decide, tw_106⟩
theorem fd_X6_61 : Fd0 RX6 61 4 4 := ⟨RX4, TX4, 5, rfl, inX4, by decide, by decide, by decide, tw_110⟩
theorem fd_X6_54 : Fd0 RX6 54 4 1 := ⟨RX4, TX4, 5, rfl, inX4, by decide, by decide, by decide, tw_99⟩
theorem fd_X6_31 : Fd0 RX6 31 6 3 := ⟨RX6, TX6, 6, rfl, inX6, by decide, by decide, by decide, tw_136⟩
theorem fd_X6_23 : Fd0 RX6 23 6 5 := ⟨RX6, TX6, 6, rfl, inX6, by decide, by decide, by decide, tw_138⟩
theorem fd_X6_11 : Fd0 RX6 11 6 0 := ⟨RX6, TX6, 6, rfl, inX6, by decide, by decide, by decide, tw_131⟩
theorem fd_X6_16 : Fd0 RX6 16 6 1 := ⟨RX6, TX6, 6, rfl, inX6, by decide, by decide, by decide, tw_133⟩
theorem fd_X7_96 : Fd0 RX7 96 6 0 := ⟨RX6, TX6, 6, rfl, inX6, by decide, by decide, by decide, tw_132⟩
theorem fd_X7_100 : Fd0 RX7 100 6 1 := ⟨RX6, TX6, 6, rfl, inX6, by decide, by decide, by decide, tw_134⟩
theorem fd_X7_105 : Fd0 RX7 105 4 0 := ⟨RX4, TX4, 5, rfl, inX4, by decide, by decide, by decide, tw_96⟩
theorem fd_X0_9 : Fd0 RX0 9 0 1 := ⟨RX0, TX0, 2, rfl, inX0, by decide, by decide, by decide, tw_172⟩
theorem fd_X0_21 : Fd0 RX0 21 0 0 := ⟨RX0, TX0, 2, rfl, inX0, by decide, by decide, by decide, tw_170⟩
theorem fd_X3_14 : Fd0 RX3 14 3 0 := ⟨RX3, TX3, 2, rfl, inX3, by decide, by decide, by decide, tw_262⟩
theorem fd_X3_20 : Fd0 RX3 20 3 1 := ⟨RX3, TX3, 2, rfl, inX3, by decide, by decide, by decide, tw_266⟩
theorem fd_X7_187 : Fd0 RX7 187 5 1 := ⟨RX5, TX5, 6, rfl, inX5, by decide, by decide, by decide, tw_278⟩
theorem fd_X7_122 : Fd0 RX7 122 5 0 := ⟨RX5, TX5, 6, rfl, inX5, by decide, by decide, by decide, tw_276⟩
theorem fd_X7_61 : Fd0 RX7 61 7 9 := ⟨RX7, TX7, 10, rfl, inX7, by decide, by decide, by decide, tw_307⟩
theorem fd_X7_57 : Fd0 RX7 57 7 8 := ⟨RX7, TX7, 10, rfl, inX7, by decide, by decide, by decide, tw_306⟩
theorem fd_X5_34 : Fd0 RX5 34 5 4 := ⟨RX5, TX5, 6, rfl, inX5, by decide, by decide, by decide, tw_281⟩
theorem fd_X5_55 : Fd0 RX5 55 3 0 := ⟨RX3, TX3, 2, rfl, inX3, by decide, by decide, by decide, tw_263⟩
theorem fd_X5_58 : Fd0 RX5 58 3 1 := ⟨RX3, TX3, 2, rfl, inX3, by decide, by decide, by decide, tw_267⟩
theorem fd_X5_38 : Fd0 RX5 38 5 5 := ⟨RX5, TX5, 6, rfl, inX5, by decide, by decide, by decide, tw_282⟩
theorem fd_X5_21 : Fd0 RX5 21 5 2 := ⟨RX5, TX5, 6, rfl, inX5, by decide, by decide, by decide, tw_279⟩
theorem fd_X5_11 : Fd0 RX5 11 5 0 := ⟨RX5, TX5, 6, rfl, inX5, by decide, by decide, by decide, tw_275⟩
theorem fd_X5_25 : Fd0 RX5 25 5 3 := ⟨RX5, TX5, 6, rfl, inX5, by decide, by decide, by decide, tw_280⟩
theorem fd_X2_57 : Fd0 RX2 57 2 1 := ⟨RX2, TX2, 11, rfl, inX2, by decide, by decide, by decide, tw_204⟩
theorem fd_X2_72 : Fd0 RX2 72 4 1 := ⟨RX4, TX4, 5, rfl, inX4, by decide, by decide, by decide, tw_98⟩
theorem fd_X2_81 : Fd0 RX2 81 4 4 := ⟨RX4, TX4, 5, rfl, inX4, by decide, by decide, by decide, tw_108⟩
theorem fd_X2_9 : Fd0 RX2 9 2 0 := ⟨RX2, TX2, 11, rfl, inX2, by decide, by decide, by decide, tw_202⟩
theorem fd_X2_75 : Fd0 RX2 75 4 2 := ⟨RX4, TX4, 5, rfl, inX4, by decide, by decide, by decide, tw_102⟩
theorem fd_X2_78 : Fd0 RX2 78 4 3 := ⟨RX4, TX4, 5, rfl, inX4, by decide, by decide, by decide, tw_105⟩
theorem fd_X2_49 : Fd0 RX2 49 2 9 := ⟨RX2, TX2, 11, rfl, inX2, by decide, by decide, by decide, tw_212⟩
theorem fd_X2_61 : Fd0 RX2 61 4 0 := ⟨RX4, TX4, 5, rfl, inX4, by decide, by decide, by decide, tw_95⟩
theorem fd_X2_17 : Fd0 RX2 17 2 2 := ⟨RX2, TX2, 11, rfl, inX2, by decide, by decide, by decide, tw_205⟩
theorem fd_X2_22 : Fd0 RX2 22 2 3 := ⟨RX2, TX2, 11, rfl, inX2, by decide, by decide, by decide, tw_206⟩
theorem fd_X1_20 : Fd0 RX1 20 1 1 := ⟨RX1, TX1, 4, rfl, inX1, by decide, by decide, by decide, tw_190⟩
theorem fd_X1_33 : Fd0 RX1 33 0 1 := ⟨RX0, TX0, 2, rfl, inX0, by decide, by decide, by decide, tw_173⟩
theorem fd_X1_45 : Fd0 RX1 45 0 0 := ⟨RX0, TX0, 2, rfl, inX0, by decide, by decide, by decide, tw_171⟩
theorem fd_X1_14 : Fd0 RX1 14 1 0 := ⟨RX1, TX1, 4, rfl, inX1, by decide, by decide, by decide, tw_188⟩
theorem fd_X2_36 : Fd0 RX2 36 2 6 := ⟨RX2, TX2, 11, rfl, inX2, by decide, by decide, by decide, tw_209⟩
theorem fd_X2_33 : Fd0 RX2 33 2 5 := ⟨RX2, TX2, 11, rfl, inX2, by decide, by decide, by decide, tw_208⟩
theorem fd_X2_45 : Fd0 RX2 45 2 8 := ⟨RX2, TX2, 11, rfl, inX2, by decide, by decide, by decide, tw_211⟩
theorem fd_X2_29 : Fd0 RX2 29 2 4 := ⟨RX2, TX2, 11, rfl, inX2, by decide, by decide, by decide, tw_207⟩
theorem fd_X2_133 : Fd0 RX2 133 1 0 := ⟨RX1, TX1, 4, rfl, inX1, by decide, by decide, by decide, tw_189⟩
theorem fd_X2_39 : Fd0 RX2 39 2 7 := ⟨RX2, TX2, 11, rfl, inX2, by decide, by decide, by decide, tw_210⟩
theorem fd_X2_53 : Fd0 RX2 53 2 10 := ⟨RX2, TX2, 11, rfl, inX2, by decide, by decide, by decide, tw_213⟩
theorem fd_X1_23 : Fd0 RX1 23 1 2 := ⟨RX1, TX1, 4, rfl, inX1, by decide, by decide, by decide, tw_191⟩
theorem fd_X1_26 : Fd0 RX1 26 1 3 := ⟨RX1, TX1, 4, rfl, inX1, by decide, by decide, by decide, tw_192⟩
theorem fd_X1_88 : Fd0 RX1 88 3 0 := ⟨RX3, TX3, 2, rfl, inX3, by decide, by decide, by decide, tw_264⟩
theorem fd_X1_93 : Fd0 RX1 93 3 1 := ⟨RX3, TX3, 2, rfl, inX3, by decide, by decide, by decide, tw_268⟩
theorem fd_X2_141 : Fd0 RX2 141 3 0 := ⟨RX3, TX3, 2, rfl, inX3, by decide, by decide, by decide, tw_265⟩
theorem fd_X2_150 : Fd0 RX2 150 3 1 := ⟨RX3, TX3, 2, rfl, inX3, by decide, by decide, by decide, tw_269⟩
theorem fd_X7_150 : Fd0 RX7 150 2 0 := ⟨RX2, TX2, 11, rfl, inX2, by decide, by decide, by decide, tw_203⟩
theorem fd_X7_164 : Fd0 RX7 164 4 1 := ⟨RX4, TX4, 5, rfl, inX4, by decide, by decide, by decide, tw_100⟩
theorem fd_X8_110 : Fd0 RX8 110 8 0 := ⟨RX8, TX8, 31, rfl, inX8, by decide, by decide, by decide, tw_721⟩
theorem fd_X8_113 : Fd0 RX8 113 8 1 := ⟨RX8, TX8, 31, rfl, inX8, by decide, by decide, by decide, tw_722⟩
theorem fd_X8_19 : Fd0 RX8 19 8 5 := ⟨RX8, TX8, 31, rfl, inX8, by decide, by decide, by decide, tw_726⟩
theorem fd_X8_7 : Fd0 RX8 7 8 2 := ⟨RX8, TX8, 31, rfl, inX8, by decide, by decide, by decide, tw_723⟩
theorem fd_X8_13 : Fd0 RX8 13 8 3 := ⟨RX8, TX8, 31, rfl, inX8, by decide, by decide, by decide, tw_724⟩
theorem fd_X8_16 : Fd0 RX8 16 8 4 := ⟨RX8, TX8, 31, rfl, inX8, by decide, by decide, by decide, tw_725⟩
theorem fd_X8_23 : Fd0 RX8 23 8 6 := ⟨RX8, TX8, 31, rfl, inX8, by decide, by decide, by decide, tw_727⟩
theorem fd_X8_26 : Fd0 RX8 26 8 7 := ⟨RX8, TX8, 31, rfl, inX8, by decide, by decide, by decide, tw_728⟩
theorem fd_X8_33 : Fd0 RX8 33 8 9 := ⟨RX8, TX8, 31, rfl, inX8, by decide, by decide, by decide, tw_730⟩
theorem fd_X8_43 : Fd0 RX8 43 8 12 := ⟨RX8, TX8, 31, rfl, inX8, by decide, by decide, by decide, tw_733⟩
theorem fd_X8_37 : Fd0 RX8 37 8 10 := ⟨RX8, TX8, 31, rfl, inX8, by decide, by decide, by decide, tw_731⟩
theorem fd_X8_40 : Fd0 RX8 40 8 11 := ⟨RX8, TX8, 31, rfl, inX8, by decide, by decide, by decide, tw_732⟩
theorem fd_X8_46 : Fd0 RX8 46 8 13 := ⟨RX8, TX8, 31, rfl, inX8, by decide, by decide, by decide, tw_734⟩
theorem fd_X8_49 : Fd0 RX8 49 8 14 := ⟨RX8, TX8, 31, rfl, inX8, by decide, by decide, by decide, tw_735⟩
theorem fd_X8_116 : Fd0 RX8 116 8 16 := ⟨RX8, TX8, 31, rfl, inX8, by decide, by decide, by decide, tw_737⟩
theorem fd_X8_30 : Fd0 RX8 30 8 8 := ⟨RX8, TX8, 31, rfl, inX8, by decide, by decide, by decide, tw_729⟩
theorem fd_X8_61 : Fd0 RX8 61 8 19 := ⟨RX8, TX8, 31, rfl, inX8, by decide, by decide, by decide, tw_740⟩
theorem fd_X8_55 : Fd0 RX8 55 8 17 := ⟨RX8, TX8, 31, rfl, inX8, by decide, by decide, by decide, tw_738⟩
theorem fd_X8_58 : Fd0 RX8 58 8 18 := ⟨RX8, TX8, 31, rfl, inX8, by decide, by decide, by decide, tw_739⟩
theorem fd_X8_64 : Fd0 RX8 64 8 20 := ⟨RX8, TX8, 31, rfl, inX8, by decide, by decide, by decide, tw_741⟩
theorem fd_X8_230 : Fd0 RX8 230 8 25 := ⟨RX8, TX8, 31, rfl, inX8, by decide, by decide, by decide, tw_746⟩
theorem fd_X8_95 : Fd0 RX8 95 8 26 := ⟨RX8, TX8, 31, rfl, inX8, by decide, by decide, by decide, tw_747⟩
theorem fd_X8_89 : Fd0 RX8 89 8 23 := ⟨RX8, TX8, 31, rfl, inX8, by decide, by decide, by decide, tw_744⟩
theorem fd_X8_98 : Fd0 RX8 98 8 27 := ⟨RX8, TX8, 31, rfl, inX8, by decide, by decide, by decide, tw_748⟩
theorem fd_X8_101 : Fd0 RX8 101 8 28 := ⟨RX8, TX8, 31, rfl, inX8, by decide, by decide, by decide, tw_749⟩
theorem fd_X8_104 : Fd0 RX8 104 8 29 := ⟨RX8, TX8, 31, rfl, inX8, by decide, by decide, by decide, tw_750⟩
theorem fd_X8_92 : Fd0 RX8 92 8 24 := ⟨RX8, TX8, 31, rfl, inX8, by decide, by decide, by decide, tw_745⟩
theorem fd_X8_86 : Fd0 RX8 86 8 22 := ⟨RX8, TX8, 31, rfl, inX8, by decide, by decide, by decide, tw_743⟩
theorem fd_X8_83 : Fd0 RX8 83 8 21 := ⟨RX8, TX8, 31, rfl, inX8, by decide, by decide, by decide, tw_742⟩
theorem fd_X8_107 : Fd0 RX8 107 8 30 := ⟨RX8, TX8, 31, rfl, inX8, by decide, by decide, by decide, tw_751⟩
theorem fd_X8_52 : Fd0 RX8 52 8 15 := ⟨RX8, TX8, 31, rfl, inX8, by decide, by decide, by decide, tw_736⟩
theorem fp_X4_9 : FdP RX4 9 4 0 .int := ⟨RX4, TX4, 5, tyX4, rfl, inX4, by decide, by decide, by decide, tw_93, tyX4_ok, nmX4, rfl, by decide⟩
theorem fp_X6_23 : FdP RX6 23 6 5 .boolean := ⟨RX6, TX6, 6, tyX6, rfl, inX6, by decide, by decide, by decide, tw_138, tyX6_ok, nmX6, rfl, by decide⟩
theorem fp_X2_49 : FdP RX2 49 2 9 .boolean := ⟨RX2, TX2, 11, tyX2, rfl, inX2, by decide, by decide, by decide, tw_212, tyX2_ok, nmX2, rfl, by decide⟩
theorem fp_X2_53 : FdP RX2 53 2 10 .int := ⟨RX2, TX2, 11, tyX2, rfl, inX2, by decide, by decide, by decide, tw_213, tyX2_ok, nmX2, rfl, by decide⟩
theorem fp_X5_25 : FdP RX5 25 5 3 .boolean := ⟨RX5, TX5, 6, tyX5, rfl, inX5, by decide, by decide, by decide, tw_280, tyX5_ok, nmX5, rfl, by decide⟩
theorem fp_X7_61 : FdP RX7 61 7 9 .int := ⟨RX7, TX7, 10, tyX7, rfl, inX7, by decide, by decide, by decide, tw_307, tyX7_ok, nmX7, rfl, by decide⟩
theorem fp_X4_15 : FdP RX4 15 4 1 .int := ⟨RX4, TX4, 5, tyX4, rfl, inX4, by decide, by decide, by decide, tw_97, tyX4_ok, nmX4, rfl, by decide⟩
theorem fp_X0_9 : FdP RX0 9 0 1 .int := ⟨RX0, TX0, 2, tyX0, rfl, inX0, by decide, by decide, by decide, tw_172, tyX0_ok, nmX0, rfl, by decide⟩
theorem fp_X8_110 : FdP RX8 110 8 0 .int := ⟨RX8, TX8, 31, tyX8, rfl, inX8, by decide, by decide, by decide, tw_721, tyX8_ok, nmX8, rfl, by decide⟩
theorem fp_X8_116 : FdP RX8 116 8 16 .int := ⟨RX8, TX8, 31, tyX8, rfl, inX8, by decide, by decide, by decide, tw_737, tyX8_ok, nmX8, rfl, by decide⟩
theorem fp_X8_113 : FdP RX8 113 8 1 .int := ⟨RX8, TX8, 31, tyX8, rfl, inX8, by decide, by decide, by decide, tw_722, tyX8_ok, nmX8, rfl, by decide⟩
theorem fp_X8_33 : FdP RX8 33 8 9 .int := ⟨RX8, TX8, 31, tyX8, rfl, inX8, by decide, by decide, by decide, tw_730, tyX8_ok, nmX8, rfl, by decide⟩
theorem fp_X8_230 : FdP RX8 230 8 25 .int := ⟨RX8, TX8, 31, tyX8, rfl, inX8, by decide, by decide, by decide, tw_746, tyX8_ok, nmX8, rfl, by decide⟩
theorem pdX4_addNode : (parseMethodDescriptor yX4_addNode.desc).map (fun d => d.parameters.length) = some 0 := by decide +kernel
theorem pdX6_forget : (parseMethodDescriptor yX6_forget.desc).map (fun d => d.parameters.length) = some 0 := by decide +kernel
theorem pdX2_forget : (parseMethodDescriptor yX2_forget.desc).map (fun d => d.parameters.length) = some 0 := by decide +kernel
theorem pdX5_forget : (parseMethodDescriptor yX5_forget.desc).map (fun d => d.parameters.length) = some 0 := by decide +kernel
theorem pdX7_forgetChoice : (parseMethodDescriptor yX7_forgetChoice.desc).map (fun d => d.parameters.length) = some 0 := by decide +kernel
theorem pdX7_forgetNetwork : (parseMethodDescriptor yX7_forgetNetwork.desc).map (fun d => d.parameters.length) = some 0 := by decide +kernel
theorem pdX7_node : (parseMethodDescriptor yX7_node.desc).map (fun d => d.parameters.length) = some 0 := by decide +kernel
theorem pdX4_hasNode : (parseMethodDescriptor yX4_hasNode.desc).map (fun d => d.parameters.length) = some 1 := by decide +kernel
theorem pdX4_isWeight : (parseMethodDescriptor yX4_isWeight.desc).map (fun d => d.parameters.length) = some 1 := by decide +kernel
theorem pdX4_addArc : (parseMethodDescriptor yX4_addArc.desc).map (fun d => d.parameters.length) = some 3 := by decide +kernel
theorem pdX7_arc : (parseMethodDescriptor yX7_arc.desc).map (fun d => d.parameters.length) = some 3 := by decide +kernel
theorem pdX4_hasArc : (parseMethodDescriptor yX4_hasArc.desc).map (fun d => d.parameters.length) = some 1 := by decide +kernel
theorem pdX7_change : (parseMethodDescriptor yX7_change.desc).map (fun d => d.parameters.length) = some 2 := by decide +kernel
theorem pdX7_choose : (parseMethodDescriptor yX7_choose.desc).map (fun d => d.parameters.length) = some 2 := by decide +kernel
theorem pdJ7_fill_53178 : (parseMethodDescriptor yJ7_fill_53178.desc).map (fun d => d.parameters.length) = some 2 := by decide +kernel
theorem pdX6_nearestLeft : (parseMethodDescriptor yX6_nearestLeft.desc).map (fun d => d.parameters.length) = some 1 := by decide +kernel
theorem pdX6_goBy : (parseMethodDescriptor yX6_goBy.desc).map (fun d => d.parameters.length) = some 3 := by decide +kernel
theorem pdX6_spreadFrom : (parseMethodDescriptor yX6_spreadFrom.desc).map (fun d => d.parameters.length) = some 3 := by decide +kernel
theorem pdX6_refresh : (parseMethodDescriptor yX6_refresh.desc).map (fun d => d.parameters.length) = some 0 := by decide +kernel
theorem pdX7_far : (parseMethodDescriptor yX7_far.desc).map (fun d => d.parameters.length) = some 2 := by decide +kernel
theorem pdX7_ways : (parseMethodDescriptor yX7_ways.desc).map (fun d => d.parameters.length) = some 2 := by decide +kernel
theorem pdX7_isPair : (parseMethodDescriptor yX7_isPair.desc).map (fun d => d.parameters.length) = some 2 := by decide +kernel
theorem pdX6_countThrough : (parseMethodDescriptor yX6_countThrough.desc).map (fun d => d.parameters.length) = some 3 := by decide +kernel
theorem pdX7_stress : (parseMethodDescriptor yX7_stress.desc).map (fun d => d.parameters.length) = some 1 := by decide +kernel
theorem pdX7_isPlace : (parseMethodDescriptor yX7_isPlace.desc).map (fun d => d.parameters.length) = some 2 := by decide +kernel
theorem pdX0_append : (parseMethodDescriptor yX0_append.desc).map (fun d => d.parameters.length) = some 1 := by decide +kernel
theorem pdX0_setSmall : (parseMethodDescriptor yX0_setSmall.desc).map (fun d => d.parameters.length) = some 1 := by decide +kernel
theorem pdX3_clear : (parseMethodDescriptor yX3_clear.desc).map (fun d => d.parameters.length) = some 0 := by decide +kernel
theorem pdX3_commonDivisor : (parseMethodDescriptor yX3_commonDivisor.desc).map (fun d => d.parameters.length) = some 2 := by decide +kernel
theorem pdX0_rest : (parseMethodDescriptor yX0_rest.desc).map (fun d => d.parameters.length) = some 1 := by decide +kernel
theorem pdX0_trim : (parseMethodDescriptor yX0_trim.desc).map (fun d => d.parameters.length) = some 0 := by decide +kernel
theorem pdX0_divideSmall : (parseMethodDescriptor yX0_divideSmall.desc).map (fun d => d.parameters.length) = some 1 := by decide +kernel
theorem pdX0_times : (parseMethodDescriptor yX0_times.desc).map (fun d => d.parameters.length) = some 1 := by decide +kernel
theorem pdX0_pad : (parseMethodDescriptor yX0_pad.desc).map (fun d => d.parameters.length) = some 1 := by decide +kernel
theorem pdX0_carryFrom : (parseMethodDescriptor yX0_carryFrom.desc).map (fun d => d.parameters.length) = some 2 := by decide +kernel
theorem pdX0_addTimes : (parseMethodDescriptor yX0_addTimes.desc).map (fun d => d.parameters.length) = some 2 := by decide +kernel
theorem pdX3_addRatio : (parseMethodDescriptor yX3_addRatio.desc).map (fun d => d.parameters.length) = some 2 := by decide +kernel
theorem pdX7_needBetween : (parseMethodDescriptor yX7_needBetween.desc).map (fun d => d.parameters.length) = some 1 := by decide +kernel
theorem pdX0_digitAt : (parseMethodDescriptor yX0_digitAt.desc).map (fun d => d.parameters.length) = some 1 := by decide +kernel
theorem pdX0_bitsOfLimb : (parseMethodDescriptor yX0_bitsOfLimb.desc).map (fun d => d.parameters.length) = some 1 := by decide +kernel
theorem pdX3_limb : (parseMethodDescriptor yX3_limb.desc).map (fun d => d.parameters.length) = some 2 := by decide +kernel
theorem pdX7_between : (parseMethodDescriptor yX7_between.desc).map (fun d => d.parameters.length) = some 3 := by decide +kernel
theorem pdX7_isNewQuestion : (parseMethodDescriptor yX7_isNewQuestion.desc).map (fun d => d.parameters.length) = some 1 := by decide +kernel
theorem pdX6_countBy : (parseMethodDescriptor yX6_countBy.desc).map (fun d => d.parameters.length) = some 3 := by decide +kernel
theorem pdX7_sumArc : (parseMethodDescriptor yX7_sumArc.desc).map (fun d => d.parameters.length) = some 1 := by decide +kernel
theorem pdX7_arcBetween : (parseMethodDescriptor yX7_arcBetween.desc).map (fun d => d.parameters.length) = some 3 := by decide +kernel
theorem pdX7_countAround : (parseMethodDescriptor yX7_countAround.desc).map (fun d => d.parameters.length) = some 2 := by decide +kernel
theorem pdX7_sumGroup : (parseMethodDescriptor yX7_sumGroup.desc).map (fun d => d.parameters.length) = some 0 := by decide +kernel
theorem pdX7_group : (parseMethodDescriptor yX7_group.desc).map (fun d => d.parameters.length) = some 2 := by decide +kernel
theorem pdX7_sumHarmonic : (parseMethodDescriptor yX7_sumHarmonic.desc).map (fun d => d.parameters.length) = some 1 := by decide +kernel
theorem pdX7_harmonic : (parseMethodDescriptor yX7_harmonic.desc).map (fun d => d.parameters.length) = some 3 := by decide +kernel
theorem pdX7_sumClose : (parseMethodDescriptor yX7_sumClose.desc).map (fun d => d.parameters.length) = some 1 := by decide +kernel
theorem pdX7_close : (parseMethodDescriptor yX7_close.desc).map (fun d => d.parameters.length) = some 3 := by decide +kernel
theorem pdX0_addProduct : (parseMethodDescriptor yX0_addProduct.desc).map (fun d => d.parameters.length) = some 2 := by decide +kernel
theorem pdX0_setProduct : (parseMethodDescriptor yX0_setProduct.desc).map (fun d => d.parameters.length) = some 2 := by decide +kernel
theorem pdX0_compareWith : (parseMethodDescriptor yX0_compareWith.desc).map (fun d => d.parameters.length) = some 1 := by decide +kernel
theorem pdX5_isLess : (parseMethodDescriptor yX5_isLess.desc).map (fun d => d.parameters.length) = some 2 := by decide +kernel
theorem pdX5_countAhead : (parseMethodDescriptor yX5_countAhead.desc).map (fun d => d.parameters.length) = some 1 := by decide +kernel
theorem pdX5_nodeAt : (parseMethodDescriptor yX5_nodeAt.desc).map (fun d => d.parameters.length) = some 2 := by decide +kernel
theorem pdX7_top : (parseMethodDescriptor yX7_top.desc).map (fun d => d.parameters.length) = some 1 := by decide +kernel
theorem pdX2_lowerGrounds : (parseMethodDescriptor yX2_lowerGrounds.desc).map (fun d => d.parameters.length) = some 0 := by decide +kernel
theorem pdX2_refresh : (parseMethodDescriptor yX2_refresh.desc).map (fun d => d.parameters.length) = some 0 := by decide +kernel
theorem pdX2_isInner : (parseMethodDescriptor yX2_isInner.desc).map (fun d => d.parameters.length) = some 2 := by decide +kernel
theorem pdX2_entryOf : (parseMethodDescriptor yX2_entryOf.desc).map (fun d => d.parameters.length) = some 2 := by decide +kernel
theorem pdX2_startOf : (parseMethodDescriptor yX2_startOf.desc).map (fun d => d.parameters.length) = some 2 := by decide +kernel
theorem pdX0_set : (parseMethodDescriptor yX0_set.desc).map (fun d => d.parameters.length) = some 1 := by decide +kernel
theorem pdX0_subtract : (parseMethodDescriptor yX0_subtract.desc).map (fun d => d.parameters.length) = some 1 := by decide +kernel
theorem pdX1_guess : (parseMethodDescriptor yX1_guess.desc).map (fun d => d.parameters.length) = some 2 := by decide +kernel
theorem pdX1_takeAway : (parseMethodDescriptor yX1_takeAway.desc).map (fun d => d.parameters.length) = some 3 := by decide +kernel
theorem pdX1_putBack : (parseMethodDescriptor yX1_putBack.desc).map (fun d => d.parameters.length) = some 2 := by decide +kernel
theorem pdX0_cutAt : (parseMethodDescriptor yX0_cutAt.desc).map (fun d => d.parameters.length) = some 1 := by decide +kernel
theorem pdX1_takeDigit : (parseMethodDescriptor yX1_takeDigit.desc).map (fun d => d.parameters.length) = some 2 := by decide +kernel
theorem pdX1_divide : (parseMethodDescriptor yX1_divide.desc).map (fun d => d.parameters.length) = some 2 := by decide +kernel
theorem pdX2_sweepEntry : (parseMethodDescriptor yX2_sweepEntry.desc).map (fun d => d.parameters.length) = some 3 := by decide +kernel
theorem pdX2_sweep : (parseMethodDescriptor yX2_sweep.desc).map (fun d => d.parameters.length) = some 2 := by decide +kernel
theorem pdX2_settle : (parseMethodDescriptor yX2_settle.desc).map (fun d => d.parameters.length) = some 1 := by decide +kernel
theorem pdX1_reduce : (parseMethodDescriptor yX1_reduce.desc).map (fun d => d.parameters.length) = some 1 := by decide +kernel
theorem pdX2_tellResistance : (parseMethodDescriptor yX2_tellResistance.desc).map (fun d => d.parameters.length) = some 3 := by decide +kernel
theorem pdX7_resistance : (parseMethodDescriptor yX7_resistance.desc).map (fun d => d.parameters.length) = some 4 := by decide +kernel
theorem pdX2_isOther : (parseMethodDescriptor yX2_isOther.desc).map (fun d => d.parameters.length) = some 2 := by decide +kernel
theorem pdX2_dropOf : (parseMethodDescriptor yX2_dropOf.desc).map (fun d => d.parameters.length) = some 4 := by decide +kernel
theorem pdX2_addFlows : (parseMethodDescriptor yX2_addFlows.desc).map (fun d => d.parameters.length) = some 4 := by decide +kernel
theorem pdX2_tellCarried : (parseMethodDescriptor yX2_tellCarried.desc).map (fun d => d.parameters.length) = some 2 := by decide +kernel
theorem pdX7_carried : (parseMethodDescriptor yX7_carried.desc).map (fun d => d.parameters.length) = some 3 := by decide +kernel
theorem pdX4_arcsThere : (parseMethodDescriptor yX4_arcsThere.desc).map (fun d => d.parameters.length) = some 0 := by decide +kernel
theorem pdX7_countPairs : (parseMethodDescriptor yX7_countPairs.desc).map (fun d => d.parameters.length) = some 0 := by decide +kernel
theorem pdX7_countGroup : (parseMethodDescriptor yX7_countGroup.desc).map (fun d => d.parameters.length) = some 0 := by decide +kernel
theorem pdX2_countPieces : (parseMethodDescriptor yX2_countPieces.desc).map (fun d => d.parameters.length) = some 0 := by decide +kernel
theorem pdX7_told : (parseMethodDescriptor yX7_told.desc).map (fun d => d.parameters.length) = some 1 := by decide +kernel
theorem pdX8_isNode : (parseMethodDescriptor yX8_isNode.desc).map (fun d => d.parameters.length) = some 1 := by decide +kernel
theorem pdX8_isArc : (parseMethodDescriptor yX8_isArc.desc).map (fun d => d.parameters.length) = some 1 := by decide +kernel
theorem pdX8_isChosen : (parseMethodDescriptor yX8_isChosen.desc).map (fun d => d.parameters.length) = some 2 := by decide +kernel
theorem pdX8_node : (parseMethodDescriptor yX8_node.desc).map (fun d => d.parameters.length) = some 0 := by decide +kernel
theorem pdX8_arc : (parseMethodDescriptor yX8_arc.desc).map (fun d => d.parameters.length) = some 3 := by decide +kernel
theorem pdX8_change : (parseMethodDescriptor yX8_change.desc).map (fun d => d.parameters.length) = some 2 := by decide +kernel
theorem pdX8_choose : (parseMethodDescriptor yX8_choose.desc).map (fun d => d.parameters.length) = some 2 := by decide +kernel
theorem pdX8_cell : (parseMethodDescriptor yX8_cell.desc).map (fun d => d.parameters.length) = some 2 := by decide +kernel
theorem pdX8_lengths : (parseMethodDescriptor yX8_lengths.desc).map (fun d => d.parameters.length) = some 0 := by decide +kernel
theorem pdX8_intoNode : (parseMethodDescriptor yX8_intoNode.desc).map (fun d => d.parameters.length) = some 3 := by decide +kernel
theorem pdX8_countAll : (parseMethodDescriptor yX8_countAll.desc).map (fun d => d.parameters.length) = some 1 := by decide +kernel
theorem pdX8_isPair : (parseMethodDescriptor yX8_isPair.desc).map (fun d => d.parameters.length) = some 2 := by decide +kernel
theorem pdX8_through : (parseMethodDescriptor yX8_through.desc).map (fun d => d.parameters.length) = some 3 := by decide +kernel
theorem pdX8_far : (parseMethodDescriptor yX8_far.desc).map (fun d => d.parameters.length) = some 2 := by decide +kernel
theorem pdX8_ways : (parseMethodDescriptor yX8_ways.desc).map (fun d => d.parameters.length) = some 2 := by decide +kernel
theorem pdX8_stress : (parseMethodDescriptor yX8_stress.desc).map (fun d => d.parameters.length) = some 1 := by decide +kernel
theorem pdX8_to : (parseMethodDescriptor yX8_to.desc).map (fun d => d.parameters.length) = some 2 := by decide +kernel
theorem pdX8_copy : (parseMethodDescriptor yX8_copy.desc).map (fun d => d.parameters.length) = some 2 := by decide +kernel
theorem pdX8_times : (parseMethodDescriptor yX8_times.desc).map (fun d => d.parameters.length) = some 2 := by decide +kernel
theorem pdX8_add : (parseMethodDescriptor yX8_add.desc).map (fun d => d.parameters.length) = some 2 := by decide +kernel
theorem pdX8_less : (parseMethodDescriptor yX8_less.desc).map (fun d => d.parameters.length) = some 2 := by decide +kernel
theorem pdX8_compare : (parseMethodDescriptor yX8_compare.desc).map (fun d => d.parameters.length) = some 2 := by decide +kernel
theorem pdX8_isZero : (parseMethodDescriptor yX8_isZero.desc).map (fun d => d.parameters.length) = some 1 := by decide +kernel
theorem pdX8_by : (parseMethodDescriptor yX8_by.desc).map (fun d => d.parameters.length) = some 2 := by decide +kernel
theorem pdX8_rest : (parseMethodDescriptor yX8_rest.desc).map (fun d => d.parameters.length) = some 2 := by decide +kernel
theorem pdX8_divisor : (parseMethodDescriptor yX8_divisor.desc).map (fun d => d.parameters.length) = some 2 := by decide +kernel
theorem pdX8_nothing : (parseMethodDescriptor yX8_nothing.desc).map (fun d => d.parameters.length) = some 0 := by decide +kernel
theorem pdX8_more : (parseMethodDescriptor yX8_more.desc).map (fun d => d.parameters.length) = some 2 := by decide +kernel
theorem pdX8_half : (parseMethodDescriptor yX8_half.desc).map (fun d => d.parameters.length) = some 1 := by decide +kernel
theorem pdX8_divide : (parseMethodDescriptor yX8_divide.desc).map (fun d => d.parameters.length) = some 1 := by decide +kernel
theorem pdX8_lowest : (parseMethodDescriptor yX8_lowest.desc).map (fun d => d.parameters.length) = some 0 := by decide +kernel
theorem pdX8_told : (parseMethodDescriptor yX8_told.desc).map (fun d => d.parameters.length) = some 2 := by decide +kernel
theorem pdX8_isAsked : (parseMethodDescriptor yX8_isAsked.desc).map (fun d => d.parameters.length) = some 2 := by decide +kernel
theorem pdX8_isOther : (parseMethodDescriptor yX8_isOther.desc).map (fun d => d.parameters.length) = some 3 := by decide +kernel
theorem pdX8_addBetween : (parseMethodDescriptor yX8_addBetween.desc).map (fun d => d.parameters.length) = some 1 := by decide +kernel
theorem pdX8_between : (parseMethodDescriptor yX8_between.desc).map (fun d => d.parameters.length) = some 3 := by decide +kernel
theorem pdX8_arcBetween : (parseMethodDescriptor yX8_arcBetween.desc).map (fun d => d.parameters.length) = some 3 := by decide +kernel
theorem pdX8_group : (parseMethodDescriptor yX8_group.desc).map (fun d => d.parameters.length) = some 2 := by decide +kernel
theorem pdX8_harmonic : (parseMethodDescriptor yX8_harmonic.desc).map (fun d => d.parameters.length) = some 3 := by decide +kernel
theorem pdX8_close : (parseMethodDescriptor yX8_close.desc).map (fun d => d.parameters.length) = some 3 := by decide +kernel
theorem pdX8_product : (parseMethodDescriptor yX8_product.desc).map (fun d => d.parameters.length) = some 5 := by decide +kernel
theorem pdX8_isGreater : (parseMethodDescriptor yX8_isGreater.desc).map (fun d => d.parameters.length) = some 2 := by decide +kernel
theorem pdX8_top : (parseMethodDescriptor yX8_top.desc).map (fun d => d.parameters.length) = some 1 := by decide +kernel
theorem pdX8_power : (parseMethodDescriptor yX8_power.desc).map (fun d => d.parameters.length) = some 3 := by decide +kernel
theorem pdX8_invert : (parseMethodDescriptor yX8_invert.desc).map (fun d => d.parameters.length) = some 2 := by decide +kernel
theorem pdX8_lookAtPiece : (parseMethodDescriptor yX8_lookAtPiece.desc).map (fun d => d.parameters.length) = some 1 := by decide +kernel
theorem pdX8_whole : (parseMethodDescriptor yX8_whole.desc).map (fun d => d.parameters.length) = some 1 := by decide +kernel
theorem pdX8_treesOf : (parseMethodDescriptor yX8_treesOf.desc).map (fun d => d.parameters.length) = some 1 := by decide +kernel
theorem pdX8_begin : (parseMethodDescriptor yX8_begin.desc).map (fun d => d.parameters.length) = some 0 := by decide +kernel
theorem pdX8_potential : (parseMethodDescriptor yX8_potential.desc).map (fun d => d.parameters.length) = some 3 := by decide +kernel
theorem pdX8_resistance : (parseMethodDescriptor yX8_resistance.desc).map (fun d => d.parameters.length) = some 4 := by decide +kernel
theorem pdX8_addFlow : (parseMethodDescriptor yX8_addFlow.desc).map (fun d => d.parameters.length) = some 3 := by decide +kernel
theorem pdX8_carried : (parseMethodDescriptor yX8_carried.desc).map (fun d => d.parameters.length) = some 3 := by decide +kernel
theorem pdX8_told_ : (parseMethodDescriptor yX8_told_.desc).map (fun d => d.parameters.length) = some 1 := by decide +kernel
