/-! tables of the constructors (written by wip/tools/gen_c.py) -/
abbrev mX0_init : YI := (yX0_init, cX0_init, 2, none, 1, 21)
theorem pcX0_init : (parseMethodDescriptor yX0_init.desc).map (fun d => d.parameters.length) = some 1 := by decide +kernel
abbrev mX1_init : YI := (yX1_init, cX1_init, 1, none, 2, 42)
theorem pcX1_init : (parseMethodDescriptor yX1_init.desc).map (fun d => d.parameters.length) = some 0 := by decide +kernel
abbrev mX2_init : YI := (yX2_init, cX2_init, 5, none, 3, 62)
theorem pcX2_init : (parseMethodDescriptor yX2_init.desc).map (fun d => d.parameters.length) = some 1 := by decide +kernel
abbrev mX3_init : YI := (yX3_init, cX3_init, 1, none, 2, 44)
theorem pcX3_init : (parseMethodDescriptor yX3_init.desc).map (fun d => d.parameters.length) = some 0 := by decide +kernel
abbrev mX4_init : YI := (yX4_init, cX4_init, 1, none, 1, 20)
theorem pcX4_init : (parseMethodDescriptor yX4_init.desc).map (fun d => d.parameters.length) = some 0 := by decide +kernel
abbrev mX5_init : YI := (yX5_init, cX5_init, 2, none, 3, 64)
theorem pcX5_init : (parseMethodDescriptor yX5_init.desc).map (fun d => d.parameters.length) = some 0 := by decide +kernel
abbrev mX6_init : YI := (yX6_init, cX6_init, 3, none, 1, 20)
theorem pcX6_init : (parseMethodDescriptor yX6_init.desc).map (fun d => d.parameters.length) = some 2 := by decide +kernel
abbrev mX7_init : YI := (yX7_init, cX7_init, 2, none, 4, 86)
theorem pcX7_init : (parseMethodDescriptor yX7_init.desc).map (fun d => d.parameters.length) = some 0 := by decide +kernel
abbrev mX8_init : YI := (yX8_init, cX8_init, 1, none, 1, 20)
theorem pcX8_init : (parseMethodDescriptor yX8_init.desc).map (fun d => d.parameters.length) = some 0 := by decide +kernel
theorem dv0 : ∀ j, j < 2 → defaultValue (tyX0 j) = vp_V (dfl 0) j := by
  intro j hj
  have h : j = 0 ∨ j = 1 := by omega
  rcases h with rfl | rfl <;> rfl
theorem dv1 : ∀ j, j < 4 → defaultValue (tyX1 j) = vp_V (dfl 1) j := by
  intro j hj
  have h : j = 0 ∨ j = 1 ∨ j = 2 ∨ j = 3 := by omega
  rcases h with rfl | rfl | rfl | rfl <;> rfl
theorem dv2 : ∀ j, j < 11 → defaultValue (tyX2 j) = vp_V (dfl 2) j := by
  intro j hj
  have h : j = 0 ∨ j = 1 ∨ j = 2 ∨ j = 3 ∨ j = 4 ∨ j = 5 ∨ j = 6 ∨ j = 7 ∨ j = 8 ∨ j = 9 ∨ j = 10 := by omega
  rcases h with rfl | rfl | rfl | rfl | rfl | rfl | rfl | rfl | rfl | rfl | rfl <;> rfl
theorem dv3 : ∀ j, j < 2 → defaultValue (tyX3 j) = vp_V (dfl 3) j := by
  intro j hj
  have h : j = 0 ∨ j = 1 := by omega
  rcases h with rfl | rfl <;> rfl
theorem dv4 : ∀ j, j < 5 → defaultValue (tyX4 j) = vp_V (dfl 4) j := by
  intro j hj
  have h : j = 0 ∨ j = 1 ∨ j = 2 ∨ j = 3 ∨ j = 4 := by omega
  rcases h with rfl | rfl | rfl | rfl | rfl <;> rfl
theorem dv5 : ∀ j, j < 6 → defaultValue (tyX5 j) = vp_V (dfl 5) j := by
  intro j hj
  have h : j = 0 ∨ j = 1 ∨ j = 2 ∨ j = 3 ∨ j = 4 ∨ j = 5 := by omega
  rcases h with rfl | rfl | rfl | rfl | rfl | rfl <;> rfl
theorem dv6 : ∀ j, j < 6 → defaultValue (tyX6 j) = vp_V (dfl 6) j := by
  intro j hj
  have h : j = 0 ∨ j = 1 ∨ j = 2 ∨ j = 3 ∨ j = 4 ∨ j = 5 := by omega
  rcases h with rfl | rfl | rfl | rfl | rfl | rfl <;> rfl
theorem dv7 : ∀ j, j < 10 → defaultValue (tyX7 j) = vp_V (dfl 7) j := by
  intro j hj
  have h : j = 0 ∨ j = 1 ∨ j = 2 ∨ j = 3 ∨ j = 4 ∨ j = 5 ∨ j = 6 ∨ j = 7 ∨ j = 8 ∨ j = 9 := by omega
  rcases h with rfl | rfl | rfl | rfl | rfl | rfl | rfl | rfl | rfl | rfl <;> rfl
theorem dv8 : ∀ j, j < 31 → defaultValue (tyX8 j) = vp_V (dfl 8) j := by
  intro j hj
  have h : j = 0 ∨ j = 1 ∨ j = 2 ∨ j = 3 ∨ j = 4 ∨ j = 5 ∨ j = 6 ∨ j = 7 ∨ j = 8 ∨ j = 9 ∨ j = 10 ∨ j = 11 ∨ j = 12 ∨ j = 13 ∨ j = 14 ∨ j = 15 ∨ j = 16 ∨ j = 17 ∨ j = 18 ∨ j = 19 ∨ j = 20 ∨ j = 21 ∨ j = 22 ∨ j = 23 ∨ j = 24 ∨ j = 25 ∨ j = 26 ∨ j = 27 ∨ j = 28 ∨ j = 29 ∨ j = 30 := by omega
  rcases h with rfl | rfl | rfl | rfl | rfl | rfl | rfl | rfl | rfl | rfl | rfl | rfl | rfl | rfl | rfl | rfl | rfl | rfl | rfl | rfl | rfl | rfl | rfl | rfl | rfl | rfl | rfl | rfl | rfl | rfl | rfl <;> rfl
theorem oX0_init_0 : OkS mX0_init 0 (iLdA 0 1) := ok_aload_n (k4 := 0) dX0_init_0
theorem oX0_init_1 : OkS mX0_init 1 (iObj) := ok_obj dX0_init_1 tw_166 tw_85 tw_86 LE LE
theorem oX0_init_4 : OkS mX0_init 4 (iLdA 0 1) := ok_aload_n (k4 := 0) dX0_init_4
theorem oX0_init_5 : OkS mX0_init 5 (iPush (.int 0) 1) := ok_iconst dX0_init_5 rfl
theorem pc_X0_init_9 : FdC mX0_init 9 0 1 0 := ⟨RX0, TX0, 2, tyX0, .int, rfl, inX0, by decide, by decide, tw_172, tyX0_ok, nmX0, Or.inl rfl, by decide, Or.inl ⟨rfl, rfl⟩⟩
theorem oX0_init_6 : OkS mX0_init 6 (iPut 0 1 0) := ok_put dX0_init_6 pc_X0_init_9
theorem oX0_init_9 : OkS mX0_init 9 (iLdA 0 1) := ok_aload_n (k4 := 0) dX0_init_9
theorem oX0_init_10 : OkS mX0_init 10 (iLdI 1 1) := ok_iload_n (k4 := 1) dX0_init_10
theorem oX0_init_11 : OkS mX0_init 11 (iPush (.int 1) 1) := ok_iconst dX0_init_11 rfl
theorem oX0_init_12 : OkS mX0_init 12 (iMax) := ok_max dX0_init_12 tw_167 tw_168 tw_72 tw_169 LE LE
theorem oX0_init_15 : OkS mX0_init 15 (iNewA 11 (.long 0)) := ok_newa dX0_init_15 (Or.inr (Or.inl ⟨rfl, rfl, rfl⟩)) tw_179
theorem pc_X0_init_21 : FdC mX0_init 21 0 0 2 := ⟨RX0, TX0, 2, tyX0, (.array .long), rfl, inX0, by decide, by decide, tw_170, tyX0_ok, nmX0, Or.inr ⟨rfl, rfl, rfl⟩, by decide, Or.inr (Or.inr ⟨rfl, Or.inr ⟨_, rfl⟩⟩)⟩
theorem oX0_init_17 : OkS mX0_init 17 (iPut 0 0 2) := ok_put dX0_init_17 pc_X0_init_21
theorem oX1_init_0 : OkS mX1_init 0 (iLdA 0 1) := ok_aload_n (k4 := 0) dX1_init_0
theorem oX1_init_1 : OkS mX1_init 1 (iObj) := ok_obj dX1_init_1 tw_185 tw_85 tw_86 LE LE
theorem oX1_init_4 : OkS mX1_init 4 (iLdA 0 1) := ok_aload_n (k4 := 0) dX1_init_4
theorem nw_X1_init_9 : NwK mX1_init 9 0 := ⟨RX0, TX0, 2, tyX0, rfl, inX0, by decide, tw_186, tw_162, tw_71, tyX0_ok, rfl, dv0⟩
theorem oX1_init_5 : OkS mX1_init 5 (iNew 0) := ok_new dX1_init_5 nw_X1_init_9
theorem oX1_init_8 : OkS mX1_init 8 (iDup) := ok_dup dX1_init_8
theorem oX1_init_9 : OkS mX1_init 9 (iPush (.int 12) 2) := ok_bipush dX1_init_9 rfl
theorem ck_X1_init_11 : CalI mX1_init mX0_init 11 1 := ⟨⟨tw_187, tw_71, tw_165, nhX0, pcX0_init, by decide, by decide⟩, rfl, rfl, tw_164⟩
theorem oX1_init_11 : OkC mX1_init mX0_init 11 1 0 := okC_I dX1_init_11 ck_X1_init_11
theorem pc_X1_init_14 : FdC mX1_init 14 1 0 2 := ⟨RX1, TX1, 4, tyX1, (.object "BetweenCounts$Big"), rfl, inX1, by decide, by decide, tw_188, tyX1_ok, nmX1, Or.inr ⟨rfl, rfl, rfl⟩, by decide, Or.inr (Or.inr ⟨rfl, Or.inl ⟨_, rfl⟩⟩)⟩
theorem oX1_init_14 : OkS mX1_init 14 (iPut 1 0 2) := ok_put dX1_init_14 pc_X1_init_14
theorem oX1_init_17 : OkS mX1_init 17 (iLdA 0 1) := ok_aload_n (k4 := 0) dX1_init_17
theorem oX1_init_18 : OkS mX1_init 18 (iNew 0) := ok_new dX1_init_18 nw_X1_init_9
theorem oX1_init_21 : OkS mX1_init 21 (iDup) := ok_dup dX1_init_21
theorem oX1_init_22 : OkS mX1_init 22 (iPush (.int 12) 2) := ok_bipush dX1_init_22 rfl
theorem oX1_init_24 : OkC mX1_init mX0_init 24 1 0 := okC_I dX1_init_24 ck_X1_init_11
theorem pc_X1_init_20 : FdC mX1_init 20 1 1 2 := ⟨RX1, TX1, 4, tyX1, (.object "BetweenCounts$Big"), rfl, inX1, by decide, by decide, tw_190, tyX1_ok, nmX1, Or.inr ⟨rfl, rfl, rfl⟩, by decide, Or.inr (Or.inr ⟨rfl, Or.inl ⟨_, rfl⟩⟩)⟩
theorem oX1_init_27 : OkS mX1_init 27 (iPut 1 1 2) := ok_put dX1_init_27 pc_X1_init_20
theorem oX1_init_30 : OkS mX1_init 30 (iLdA 0 1) := ok_aload_n (k4 := 0) dX1_init_30
theorem oX1_init_31 : OkS mX1_init 31 (iNew 0) := ok_new dX1_init_31 nw_X1_init_9
theorem oX1_init_34 : OkS mX1_init 34 (iDup) := ok_dup dX1_init_34
theorem oX1_init_35 : OkS mX1_init 35 (iPush (.int 12) 2) := ok_bipush dX1_init_35 rfl
theorem oX1_init_37 : OkC mX1_init mX0_init 37 1 0 := okC_I dX1_init_37 ck_X1_init_11
theorem pc_X1_init_23 : FdC mX1_init 23 1 2 2 := ⟨RX1, TX1, 4, tyX1, (.object "BetweenCounts$Big"), rfl, inX1, by decide, by decide, tw_191, tyX1_ok, nmX1, Or.inr ⟨rfl, rfl, rfl⟩, by decide, Or.inr (Or.inr ⟨rfl, Or.inl ⟨_, rfl⟩⟩)⟩
theorem oX1_init_40 : OkS mX1_init 40 (iPut 1 2 2) := ok_put dX1_init_40 pc_X1_init_23
theorem oX1_init_43 : OkS mX1_init 43 (iLdA 0 1) := ok_aload_n (k4 := 0) dX1_init_43
theorem oX1_init_44 : OkS mX1_init 44 (iNew 0) := ok_new dX1_init_44 nw_X1_init_9
theorem oX1_init_47 : OkS mX1_init 47 (iDup) := ok_dup dX1_init_47
theorem oX1_init_48 : OkS mX1_init 48 (iPush (.int 12) 2) := ok_bipush dX1_init_48 rfl
theorem oX1_init_50 : OkC mX1_init mX0_init 50 1 0 := okC_I dX1_init_50 ck_X1_init_11
theorem pc_X1_init_26 : FdC mX1_init 26 1 3 2 := ⟨RX1, TX1, 4, tyX1, (.object "BetweenCounts$Big"), rfl, inX1, by decide, by decide, tw_192, tyX1_ok, nmX1, Or.inr ⟨rfl, rfl, rfl⟩, by decide, Or.inr (Or.inr ⟨rfl, Or.inl ⟨_, rfl⟩⟩)⟩
theorem oX1_init_53 : OkS mX1_init 53 (iPut 1 3 2) := ok_put dX1_init_53 pc_X1_init_26
theorem oX2_init_0 : OkS mX2_init 0 (iLdA 0 1) := ok_aload_n (k4 := 0) dX2_init_0
theorem oX2_init_1 : OkS mX2_init 1 (iObj) := ok_obj dX2_init_1 tw_158 tw_85 tw_86 LE LE
theorem oX2_init_4 : OkS mX2_init 4 (iLdA 0 1) := ok_aload_n (k4 := 0) dX2_init_4
theorem oX2_init_5 : OkS mX2_init 5 (iPush (.int 10) 2) := ok_bipush dX2_init_5 rfl
theorem oX2_init_7 : OkS mX2_init 7 (iNewA 10 (.int 0)) := ok_newa dX2_init_7 (Or.inl ⟨rfl, rfl, rfl⟩) tw_122
theorem pc_X2_init_9 : FdC mX2_init 9 2 0 2 := ⟨RX2, TX2, 11, tyX2, (.array .int), rfl, inX2, by decide, by decide, tw_202, tyX2_ok, nmX2, Or.inr ⟨rfl, rfl, rfl⟩, by decide, Or.inr (Or.inr ⟨rfl, Or.inr ⟨_, rfl⟩⟩)⟩
theorem oX2_init_9 : OkS mX2_init 9 (iPut 2 0 2) := ok_put dX2_init_9 pc_X2_init_9
theorem oX2_init_12 : OkS mX2_init 12 (iLdA 0 1) := ok_aload_n (k4 := 0) dX2_init_12
theorem oX2_init_13 : OkS mX2_init 13 (iPush (.int 10) 2) := ok_bipush dX2_init_13 rfl
theorem oX2_init_15 : OkS mX2_init 15 (iPush (.int 10) 2) := ok_bipush dX2_init_15 rfl
theorem oX2_init_17 : OkS mX2_init 17 (iMna) := ok_mna dX2_init_17 tw_159 tw_122
theorem pc_X2_init_17 : FdC mX2_init 17 2 2 2 := ⟨RX2, TX2, 11, tyX2, (.array (.array .int)), rfl, inX2, by decide, by decide, tw_205, tyX2_ok, nmX2, Or.inr ⟨rfl, rfl, rfl⟩, by decide, Or.inr (Or.inr ⟨rfl, Or.inr ⟨_, rfl⟩⟩)⟩
theorem oX2_init_21 : OkS mX2_init 21 (iPut 2 2 2) := ok_put dX2_init_21 pc_X2_init_17
theorem oX2_init_24 : OkS mX2_init 24 (iLdA 0 1) := ok_aload_n (k4 := 0) dX2_init_24
theorem oX2_init_25 : OkS mX2_init 25 (iPush (.int 100) 2) := ok_bipush dX2_init_25 rfl
theorem oX2_init_27 : OkS mX2_init 27 (iAnew 14) := ok_anew (Cn := "BetweenCounts$Big") dX2_init_27 (Or.inl ⟨rfl, rfl⟩) tw_160
theorem pc_X2_init_22 : FdC mX2_init 22 2 3 2 := ⟨RX2, TX2, 11, tyX2, (.array (.object "BetweenCounts$Big")), rfl, inX2, by decide, by decide, tw_206, tyX2_ok, nmX2, Or.inr ⟨rfl, rfl, rfl⟩, by decide, Or.inr (Or.inr ⟨rfl, Or.inr ⟨_, rfl⟩⟩)⟩
theorem oX2_init_30 : OkS mX2_init 30 (iPut 2 3 2) := ok_put dX2_init_30 pc_X2_init_22
theorem oX2_init_33 : OkS mX2_init 33 (iLdA 0 1) := ok_aload_n (k4 := 0) dX2_init_33
theorem nw_X2_init_20 : NwK mX2_init 20 0 := ⟨RX0, TX0, 2, tyX0, rfl, inX0, by decide, tw_160, tw_162, tw_71, tyX0_ok, rfl, dv0⟩
theorem oX2_init_34 : OkS mX2_init 34 (iNew 0) := ok_new dX2_init_34 nw_X2_init_20
theorem oX2_init_37 : OkS mX2_init 37 (iDup) := ok_dup dX2_init_37
theorem oX2_init_38 : OkS mX2_init 38 (iPush (.int 6) 2) := ok_bipush dX2_init_38 rfl
theorem ck_X2_init_26 : CalI mX2_init mX0_init 26 1 := ⟨⟨tw_163, tw_71, tw_165, nhX0, pcX0_init, by decide, by decide⟩, rfl, rfl, tw_164⟩
theorem oX2_init_40 : OkC mX2_init mX0_init 40 1 0 := okC_I dX2_init_40 ck_X2_init_26
theorem pc_X2_init_29 : FdC mX2_init 29 2 4 2 := ⟨RX2, TX2, 11, tyX2, (.object "BetweenCounts$Big"), rfl, inX2, by decide, by decide, tw_207, tyX2_ok, nmX2, Or.inr ⟨rfl, rfl, rfl⟩, by decide, Or.inr (Or.inr ⟨rfl, Or.inl ⟨_, rfl⟩⟩)⟩
theorem oX2_init_43 : OkS mX2_init 43 (iPut 2 4 2) := ok_put dX2_init_43 pc_X2_init_29
theorem oX2_init_46 : OkS mX2_init 46 (iLdA 0 1) := ok_aload_n (k4 := 0) dX2_init_46
theorem oX2_init_47 : OkS mX2_init 47 (iNew 0) := ok_new dX2_init_47 nw_X2_init_20
theorem oX2_init_50 : OkS mX2_init 50 (iDup) := ok_dup dX2_init_50
theorem oX2_init_51 : OkS mX2_init 51 (iPush (.int 6) 2) := ok_bipush dX2_init_51 rfl
theorem oX2_init_53 : OkC mX2_init mX0_init 53 1 0 := okC_I dX2_init_53 ck_X2_init_26
theorem pc_X2_init_33 : FdC mX2_init 33 2 5 2 := ⟨RX2, TX2, 11, tyX2, (.object "BetweenCounts$Big"), rfl, inX2, by decide, by decide, tw_208, tyX2_ok, nmX2, Or.inr ⟨rfl, rfl, rfl⟩, by decide, Or.inr (Or.inr ⟨rfl, Or.inl ⟨_, rfl⟩⟩)⟩
theorem oX2_init_56 : OkS mX2_init 56 (iPut 2 5 2) := ok_put dX2_init_56 pc_X2_init_33
theorem oX2_init_59 : OkS mX2_init 59 (iLdA 0 1) := ok_aload_n (k4 := 0) dX2_init_59
theorem oX2_init_60 : OkS mX2_init 60 (iNew 0) := ok_new dX2_init_60 nw_X2_init_20
theorem oX2_init_63 : OkS mX2_init 63 (iDup) := ok_dup dX2_init_63
theorem oX2_init_64 : OkS mX2_init 64 (iPush (.int 12) 2) := ok_bipush dX2_init_64 rfl
theorem oX2_init_66 : OkC mX2_init mX0_init 66 1 0 := okC_I dX2_init_66 ck_X2_init_26
theorem pc_X2_init_36 : FdC mX2_init 36 2 6 2 := ⟨RX2, TX2, 11, tyX2, (.object "BetweenCounts$Big"), rfl, inX2, by decide, by decide, tw_209, tyX2_ok, nmX2, Or.inr ⟨rfl, rfl, rfl⟩, by decide, Or.inr (Or.inr ⟨rfl, Or.inl ⟨_, rfl⟩⟩)⟩
theorem oX2_init_69 : OkS mX2_init 69 (iPut 2 6 2) := ok_put dX2_init_69 pc_X2_init_36
theorem oX2_init_72 : OkS mX2_init 72 (iLdA 0 1) := ok_aload_n (k4 := 0) dX2_init_72
theorem oX2_init_73 : OkS mX2_init 73 (iNew 0) := ok_new dX2_init_73 nw_X2_init_20
theorem oX2_init_76 : OkS mX2_init 76 (iDup) := ok_dup dX2_init_76
theorem oX2_init_77 : OkS mX2_init 77 (iPush (.int 12) 2) := ok_bipush dX2_init_77 rfl
theorem oX2_init_79 : OkC mX2_init mX0_init 79 1 0 := okC_I dX2_init_79 ck_X2_init_26
theorem pc_X2_init_39 : FdC mX2_init 39 2 7 2 := ⟨RX2, TX2, 11, tyX2, (.object "BetweenCounts$Big"), rfl, inX2, by decide, by decide, tw_210, tyX2_ok, nmX2, Or.inr ⟨rfl, rfl, rfl⟩, by decide, Or.inr (Or.inr ⟨rfl, Or.inl ⟨_, rfl⟩⟩)⟩
theorem oX2_init_82 : OkS mX2_init 82 (iPut 2 7 2) := ok_put dX2_init_82 pc_X2_init_39
theorem oX2_init_85 : OkS mX2_init 85 (iLdA 0 1) := ok_aload_n (k4 := 0) dX2_init_85
theorem nw_X2_init_42 : NwK mX2_init 42 1 := ⟨RX1, TX1, 4, tyX1, rfl, inX1, by decide, tw_180, tw_181, tw_73, tyX1_ok, rfl, dv1⟩
theorem oX2_init_86 : OkS mX2_init 86 (iNew 1) := ok_new dX2_init_86 nw_X2_init_42
theorem oX2_init_89 : OkS mX2_init 89 (iDup) := ok_dup dX2_init_89
theorem ck_X2_init_44 : CalN mX2_init mX1_init 44 0 := ⟨⟨fun s h => h.2.2.2.2, tw_73, tw_184, nhX1, pcX1_init, by decide, by decide⟩, rfl, rfl, tw_183⟩
theorem oX2_init_90 : OkC mX2_init mX1_init 90 0 0 := okC_N dX2_init_90 ck_X2_init_44
theorem pc_X2_init_45 : FdC mX2_init 45 2 8 2 := ⟨RX2, TX2, 11, tyX2, (.object "BetweenCounts$Divider"), rfl, inX2, by decide, by decide, tw_211, tyX2_ok, nmX2, Or.inr ⟨rfl, rfl, rfl⟩, by decide, Or.inr (Or.inr ⟨rfl, Or.inl ⟨_, rfl⟩⟩)⟩
theorem oX2_init_93 : OkS mX2_init 93 (iPut 2 8 2) := ok_put dX2_init_93 pc_X2_init_45
theorem oX2_init_96 : OkS mX2_init 96 (iLdA 0 1) := ok_aload_n (k4 := 0) dX2_init_96
theorem oX2_init_97 : OkS mX2_init 97 (iPush (.int 0) 1) := ok_iconst dX2_init_97 rfl
theorem pc_X2_init_49 : FdC mX2_init 49 2 9 1 := ⟨RX2, TX2, 11, tyX2, .boolean, rfl, inX2, by decide, by decide, tw_212, tyX2_ok, nmX2, Or.inl rfl, by decide, Or.inr (Or.inl ⟨rfl, rfl⟩)⟩
theorem oX2_init_98 : OkS mX2_init 98 (iPut 2 9 1) := ok_put dX2_init_98 pc_X2_init_49
theorem oX2_init_101 : OkS mX2_init 101 (iLdA 0 1) := ok_aload_n (k4 := 0) dX2_init_101
theorem oX2_init_102 : OkS mX2_init 102 (iPush (.int (-1)) 1) := ok_iconst dX2_init_102 rfl
theorem pc_X2_init_53 : FdC mX2_init 53 2 10 0 := ⟨RX2, TX2, 11, tyX2, .int, rfl, inX2, by decide, by decide, tw_213, tyX2_ok, nmX2, Or.inl rfl, by decide, Or.inl ⟨rfl, rfl⟩⟩
theorem oX2_init_103 : OkS mX2_init 103 (iPut 2 10 0) := ok_put dX2_init_103 pc_X2_init_53
theorem oX2_init_106 : OkS mX2_init 106 (iLdA 0 1) := ok_aload_n (k4 := 0) dX2_init_106
theorem oX2_init_107 : OkS mX2_init 107 (iLdA 1 1) := ok_aload_n (k4 := 1) dX2_init_107
theorem pc_X2_init_57 : FdC mX2_init 57 2 1 2 := ⟨RX2, TX2, 11, tyX2, (.object "BetweenCounts$Net"), rfl, inX2, by decide, by decide, tw_204, tyX2_ok, nmX2, Or.inr ⟨rfl, rfl, rfl⟩, by decide, Or.inr (Or.inr ⟨rfl, Or.inl ⟨_, rfl⟩⟩)⟩
theorem oX2_init_108 : OkS mX2_init 108 (iPut 2 1 2) := ok_put dX2_init_108 pc_X2_init_57
theorem oX2_init_111 : OkS mX2_init 111 (iPush (.int 0) 1) := ok_iconst dX2_init_111 rfl
theorem oX2_init_112 : OkS mX2_init 112 (iStI 2 1) := ok_istore_n (k4 := 2) dX2_init_112 LE
theorem oX2_init_113 : OkS mX2_init 113 (iLdI 2 1) := ok_iload_n (k4 := 2) dX2_init_113
theorem oX2_init_114 : OkS mX2_init 114 (iPush (.int 10) 2) := ok_bipush dX2_init_114 rfl
theorem oX2_init_116 : OkS mX2_init 116 (iGe 176) := ok_icmp_ge 176 dX2_init_116 rfl
theorem oX2_init_119 : OkS mX2_init 119 (iLdI 2 1) := ok_iload_n (k4 := 2) dX2_init_119
theorem oX2_init_120 : OkS mX2_init 120 (iStI 3 1) := ok_istore_n (k4 := 3) dX2_init_120 LE
theorem oX2_init_121 : OkS mX2_init 121 (iLdI 3 1) := ok_iload_n (k4 := 3) dX2_init_121
theorem oX2_init_122 : OkS mX2_init 122 (iPush (.int 10) 2) := ok_bipush dX2_init_122 rfl
theorem oX2_init_124 : OkS mX2_init 124 (iGe 170) := ok_icmp_ge 170 dX2_init_124 rfl
theorem oX2_init_127 : OkS mX2_init 127 (iNew 0) := ok_new dX2_init_127 nw_X2_init_20
theorem oX2_init_130 : OkS mX2_init 130 (iDup) := ok_dup dX2_init_130
theorem oX2_init_131 : OkS mX2_init 131 (iPush (.int 6) 2) := ok_bipush dX2_init_131 rfl
theorem oX2_init_133 : OkC mX2_init mX0_init 133 1 0 := okC_I dX2_init_133 ck_X2_init_26
theorem oX2_init_136 : OkS mX2_init 136 (iStA 4 2) := ok_astore dX2_init_136 LE
theorem oX2_init_138 : OkS mX2_init 138 (iLdA 0 1) := ok_aload_n (k4 := 0) dX2_init_138
theorem gc_X2_22 : Fd0 RX2 22 2 3 := ⟨RX2, TX2, 11, rfl, inX2, by decide, by decide, by decide, tw_206⟩
theorem oX2_init_139 : OkS mX2_init 139 (iGet 2 3) := ok_get dX2_init_139 gc_X2_22
theorem oX2_init_142 : OkS mX2_init 142 (iLdI 2 1) := ok_iload_n (k4 := 2) dX2_init_142
theorem oX2_init_143 : OkS mX2_init 143 (iPush (.int 10) 2) := ok_bipush dX2_init_143 rfl
theorem oX2_init_145 : OkS mX2_init 145 (iMul) := ok_imul dX2_init_145
theorem oX2_init_146 : OkS mX2_init 146 (iLdI 3 1) := ok_iload_n (k4 := 3) dX2_init_146
theorem oX2_init_147 : OkS mX2_init 147 (iAdd) := ok_iadd dX2_init_147
theorem oX2_init_148 : OkS mX2_init 148 (iLdA 4 2) := ok_aload dX2_init_148
theorem oX2_init_150 : OkS mX2_init 150 (iAast 14 0) := ok_aast dX2_init_150 (Or.inl ⟨rfl, rfl⟩)
theorem oX2_init_151 : OkS mX2_init 151 (iLdA 0 1) := ok_aload_n (k4 := 0) dX2_init_151
theorem oX2_init_152 : OkS mX2_init 152 (iGet 2 3) := ok_get dX2_init_152 gc_X2_22
theorem oX2_init_155 : OkS mX2_init 155 (iLdI 3 1) := ok_iload_n (k4 := 3) dX2_init_155
theorem oX2_init_156 : OkS mX2_init 156 (iPush (.int 10) 2) := ok_bipush dX2_init_156 rfl
theorem oX2_init_158 : OkS mX2_init 158 (iMul) := ok_imul dX2_init_158
theorem oX2_init_159 : OkS mX2_init 159 (iLdI 2 1) := ok_iload_n (k4 := 2) dX2_init_159
theorem oX2_init_160 : OkS mX2_init 160 (iAdd) := ok_iadd dX2_init_160
theorem oX2_init_161 : OkS mX2_init 161 (iLdA 4 2) := ok_aload dX2_init_161
theorem oX2_init_163 : OkS mX2_init 163 (iAast 14 0) := ok_aast dX2_init_163 (Or.inl ⟨rfl, rfl⟩)
theorem oX2_init_164 : OkS mX2_init 164 (iInc 3 1) := ok_iinc dX2_init_164 LE
theorem oX2_init_167 : OkS mX2_init 167 (iGoto 121) := ok_goto 121 dX2_init_167 rfl
theorem oX2_init_170 : OkS mX2_init 170 (iInc 2 1) := ok_iinc dX2_init_170 LE
theorem oX2_init_173 : OkS mX2_init 173 (iGoto 113) := ok_goto 113 dX2_init_173 rfl
theorem oX3_init_0 : OkS mX3_init 0 (iLdA 0 1) := ok_aload_n (k4 := 0) dX3_init_0
theorem oX3_init_1 : OkS mX3_init 1 (iObj) := ok_obj dX3_init_1 tw_251 tw_85 tw_86 LE LE
theorem oX3_init_4 : OkS mX3_init 4 (iLdA 0 1) := ok_aload_n (k4 := 0) dX3_init_4
theorem nw_X3_init_9 : NwK mX3_init 9 0 := ⟨RX0, TX0, 2, tyX0, rfl, inX0, by decide, tw_252, tw_162, tw_71, tyX0_ok, rfl, dv0⟩
theorem oX3_init_5 : OkS mX3_init 5 (iNew 0) := ok_new dX3_init_5 nw_X3_init_9
theorem oX3_init_8 : OkS mX3_init 8 (iDup) := ok_dup dX3_init_8
theorem oX3_init_9 : OkS mX3_init 9 (iPush (.int 50) 2) := ok_bipush dX3_init_9 rfl
theorem ck_X3_init_11 : CalI mX3_init mX0_init 11 1 := ⟨⟨tw_253, tw_71, tw_165, nhX0, pcX0_init, by decide, by decide⟩, rfl, rfl, tw_164⟩
theorem oX3_init_11 : OkC mX3_init mX0_init 11 1 0 := okC_I dX3_init_11 ck_X3_init_11
theorem pc_X3_init_14 : FdC mX3_init 14 3 0 2 := ⟨RX3, TX3, 2, tyX3, (.object "BetweenCounts$Big"), rfl, inX3, by decide, by decide, tw_262, tyX3_ok, nmX3, Or.inr ⟨rfl, rfl, rfl⟩, by decide, Or.inr (Or.inr ⟨rfl, Or.inl ⟨_, rfl⟩⟩)⟩
theorem oX3_init_14 : OkS mX3_init 14 (iPut 3 0 2) := ok_put dX3_init_14 pc_X3_init_14
theorem oX3_init_17 : OkS mX3_init 17 (iLdA 0 1) := ok_aload_n (k4 := 0) dX3_init_17
theorem oX3_init_18 : OkS mX3_init 18 (iNew 0) := ok_new dX3_init_18 nw_X3_init_9
theorem oX3_init_21 : OkS mX3_init 21 (iDup) := ok_dup dX3_init_21
theorem oX3_init_22 : OkS mX3_init 22 (iPush (.int 50) 2) := ok_bipush dX3_init_22 rfl
theorem oX3_init_24 : OkC mX3_init mX0_init 24 1 0 := okC_I dX3_init_24 ck_X3_init_11
theorem pc_X3_init_20 : FdC mX3_init 20 3 1 2 := ⟨RX3, TX3, 2, tyX3, (.object "BetweenCounts$Big"), rfl, inX3, by decide, by decide, tw_266, tyX3_ok, nmX3, Or.inr ⟨rfl, rfl, rfl⟩, by decide, Or.inr (Or.inr ⟨rfl, Or.inl ⟨_, rfl⟩⟩)⟩
theorem oX3_init_27 : OkS mX3_init 27 (iPut 3 1 2) := ok_put dX3_init_27 pc_X3_init_20
theorem oX3_init_30 : OkS mX3_init 30 (iLdA 0 1) := ok_aload_n (k4 := 0) dX3_init_30
theorem gc_X3_20 : Fd0 RX3 20 3 1 := ⟨RX3, TX3, 2, rfl, inX3, by decide, by decide, by decide, tw_266⟩
theorem oX3_init_31 : OkS mX3_init 31 (iGet 3 1) := ok_get dX3_init_31 gc_X3_20
theorem oX3_init_34 : OkS mX3_init 34 (iPush (.long 1) 1) := ok_lconst dX3_init_34 rfl
theorem ck_X3_init_23 : CalV mX3_init mX0_setSmall 23 0 1 := ⟨⟨tw_254, tw_71, tw_257, nhX0, pdX0_setSmall, by decide, by decide⟩, ⟨_, _, rfl⟩, by decide, tw_255, tw_256⟩
theorem oX3_init_35 : OkC mX3_init mX0_setSmall 35 1 1 := okC_V dX3_init_35 ck_X3_init_23
theorem oX4_init_0 : OkS mX4_init 0 (iLdA 0 1) := ok_aload_n (k4 := 0) dX4_init_0
theorem oX4_init_1 : OkS mX4_init 1 (iObj) := ok_obj dX4_init_1 tw_92 tw_85 tw_86 LE LE
theorem oX4_init_4 : OkS mX4_init 4 (iLdA 0 1) := ok_aload_n (k4 := 0) dX4_init_4
theorem oX4_init_5 : OkS mX4_init 5 (iPush (.int 0) 1) := ok_iconst dX4_init_5 rfl
theorem pc_X4_init_9 : FdC mX4_init 9 4 0 0 := ⟨RX4, TX4, 5, tyX4, .int, rfl, inX4, by decide, by decide, tw_93, tyX4_ok, nmX4, Or.inl rfl, by decide, Or.inl ⟨rfl, rfl⟩⟩
theorem oX4_init_6 : OkS mX4_init 6 (iPut 4 0 0) := ok_put dX4_init_6 pc_X4_init_9
theorem oX4_init_9 : OkS mX4_init 9 (iLdA 0 1) := ok_aload_n (k4 := 0) dX4_init_9
theorem oX4_init_10 : OkS mX4_init 10 (iPush (.int 0) 1) := ok_iconst dX4_init_10 rfl
theorem pc_X4_init_15 : FdC mX4_init 15 4 1 0 := ⟨RX4, TX4, 5, tyX4, .int, rfl, inX4, by decide, by decide, tw_97, tyX4_ok, nmX4, Or.inl rfl, by decide, Or.inl ⟨rfl, rfl⟩⟩
theorem oX4_init_11 : OkS mX4_init 11 (iPut 4 1 0) := ok_put dX4_init_11 pc_X4_init_15
theorem oX4_init_14 : OkS mX4_init 14 (iLdA 0 1) := ok_aload_n (k4 := 0) dX4_init_14
theorem oX4_init_15 : OkS mX4_init 15 (iPush (.int 30) 2) := ok_bipush dX4_init_15 rfl
theorem oX4_init_17 : OkS mX4_init 17 (iNewA 10 (.int 0)) := ok_newa dX4_init_17 (Or.inl ⟨rfl, rfl, rfl⟩) tw_122
theorem pc_X4_init_18 : FdC mX4_init 18 4 2 2 := ⟨RX4, TX4, 5, tyX4, (.array .int), rfl, inX4, by decide, by decide, tw_101, tyX4_ok, nmX4, Or.inr ⟨rfl, rfl, rfl⟩, by decide, Or.inr (Or.inr ⟨rfl, Or.inr ⟨_, rfl⟩⟩)⟩
theorem oX4_init_19 : OkS mX4_init 19 (iPut 4 2 2) := ok_put dX4_init_19 pc_X4_init_18
theorem oX4_init_22 : OkS mX4_init 22 (iLdA 0 1) := ok_aload_n (k4 := 0) dX4_init_22
theorem oX4_init_23 : OkS mX4_init 23 (iPush (.int 30) 2) := ok_bipush dX4_init_23 rfl
theorem oX4_init_25 : OkS mX4_init 25 (iNewA 10 (.int 0)) := ok_newa dX4_init_25 (Or.inl ⟨rfl, rfl, rfl⟩) tw_122
theorem pc_X4_init_22 : FdC mX4_init 22 4 3 2 := ⟨RX4, TX4, 5, tyX4, (.array .int), rfl, inX4, by decide, by decide, tw_104, tyX4_ok, nmX4, Or.inr ⟨rfl, rfl, rfl⟩, by decide, Or.inr (Or.inr ⟨rfl, Or.inr ⟨_, rfl⟩⟩)⟩
theorem oX4_init_27 : OkS mX4_init 27 (iPut 4 3 2) := ok_put dX4_init_27 pc_X4_init_22
theorem oX4_init_30 : OkS mX4_init 30 (iLdA 0 1) := ok_aload_n (k4 := 0) dX4_init_30
theorem oX4_init_31 : OkS mX4_init 31 (iPush (.int 30) 2) := ok_bipush dX4_init_31 rfl
theorem oX4_init_33 : OkS mX4_init 33 (iNewA 10 (.int 0)) := ok_newa dX4_init_33 (Or.inl ⟨rfl, rfl, rfl⟩) tw_122
theorem pc_X4_init_25 : FdC mX4_init 25 4 4 2 := ⟨RX4, TX4, 5, tyX4, (.array .int), rfl, inX4, by decide, by decide, tw_107, tyX4_ok, nmX4, Or.inr ⟨rfl, rfl, rfl⟩, by decide, Or.inr (Or.inr ⟨rfl, Or.inr ⟨_, rfl⟩⟩)⟩
theorem oX4_init_35 : OkS mX4_init 35 (iPut 4 4 2) := ok_put dX4_init_35 pc_X4_init_25
theorem oX5_init_0 : OkS mX5_init 0 (iLdA 0 1) := ok_aload_n (k4 := 0) dX5_init_0
theorem oX5_init_1 : OkS mX5_init 1 (iObj) := ok_obj dX5_init_1 tw_242 tw_85 tw_86 LE LE
theorem oX5_init_4 : OkS mX5_init 4 (iLdA 0 1) := ok_aload_n (k4 := 0) dX5_init_4
theorem oX5_init_5 : OkS mX5_init 5 (iPush (.int 10) 2) := ok_bipush dX5_init_5 rfl
theorem oX5_init_7 : OkS mX5_init 7 (iAnew 15) := ok_anew (Cn := "BetweenCounts$Fraction") dX5_init_7 (Or.inr ⟨rfl, rfl⟩) tw_243
theorem pc_X5_init_11 : FdC mX5_init 11 5 0 2 := ⟨RX5, TX5, 6, tyX5, (.array (.object "BetweenCounts$Fraction")), rfl, inX5, by decide, by decide, tw_275, tyX5_ok, nmX5, Or.inr ⟨rfl, rfl, rfl⟩, by decide, Or.inr (Or.inr ⟨rfl, Or.inr ⟨_, rfl⟩⟩)⟩
theorem oX5_init_10 : OkS mX5_init 10 (iPut 5 0 2) := ok_put dX5_init_10 pc_X5_init_11
theorem oX5_init_13 : OkS mX5_init 13 (iLdA 0 1) := ok_aload_n (k4 := 0) dX5_init_13
theorem oX5_init_14 : OkS mX5_init 14 (iPush (.int 10) 2) := ok_bipush dX5_init_14 rfl
theorem oX5_init_16 : OkS mX5_init 16 (iNewA 12 (.int 0)) := ok_newa dX5_init_16 (Or.inr (Or.inr ⟨rfl, rfl, rfl⟩)) tw_152
theorem pc_X5_init_17 : FdC mX5_init 17 5 1 2 := ⟨RX5, TX5, 6, tyX5, (.array .boolean), rfl, inX5, by decide, by decide, tw_277, tyX5_ok, nmX5, Or.inr ⟨rfl, rfl, rfl⟩, by decide, Or.inr (Or.inr ⟨rfl, Or.inr ⟨_, rfl⟩⟩)⟩
theorem oX5_init_18 : OkS mX5_init 18 (iPut 5 1 2) := ok_put dX5_init_18 pc_X5_init_17
theorem oX5_init_21 : OkS mX5_init 21 (iLdA 0 1) := ok_aload_n (k4 := 0) dX5_init_21
theorem oX5_init_22 : OkS mX5_init 22 (iPush (.int 10) 2) := ok_bipush dX5_init_22 rfl
theorem oX5_init_24 : OkS mX5_init 24 (iNewA 10 (.int 0)) := ok_newa dX5_init_24 (Or.inl ⟨rfl, rfl, rfl⟩) tw_122
theorem pc_X5_init_21 : FdC mX5_init 21 5 2 2 := ⟨RX5, TX5, 6, tyX5, (.array .int), rfl, inX5, by decide, by decide, tw_279, tyX5_ok, nmX5, Or.inr ⟨rfl, rfl, rfl⟩, by decide, Or.inr (Or.inr ⟨rfl, Or.inr ⟨_, rfl⟩⟩)⟩
theorem oX5_init_26 : OkS mX5_init 26 (iPut 5 2 2) := ok_put dX5_init_26 pc_X5_init_21
theorem oX5_init_29 : OkS mX5_init 29 (iLdA 0 1) := ok_aload_n (k4 := 0) dX5_init_29
theorem oX5_init_30 : OkS mX5_init 30 (iPush (.int 0) 1) := ok_iconst dX5_init_30 rfl
theorem pc_X5_init_25 : FdC mX5_init 25 5 3 1 := ⟨RX5, TX5, 6, tyX5, .boolean, rfl, inX5, by decide, by decide, tw_280, tyX5_ok, nmX5, Or.inl rfl, by decide, Or.inr (Or.inl ⟨rfl, rfl⟩)⟩
theorem oX5_init_31 : OkS mX5_init 31 (iPut 5 3 1) := ok_put dX5_init_31 pc_X5_init_25
theorem oX5_init_34 : OkS mX5_init 34 (iLdA 0 1) := ok_aload_n (k4 := 0) dX5_init_34
theorem nw_X5_init_29 : NwK mX5_init 29 0 := ⟨RX0, TX0, 2, tyX0, rfl, inX0, by decide, tw_245, tw_162, tw_71, tyX0_ok, rfl, dv0⟩
theorem oX5_init_35 : OkS mX5_init 35 (iNew 0) := ok_new dX5_init_35 nw_X5_init_29
theorem oX5_init_38 : OkS mX5_init 38 (iDup) := ok_dup dX5_init_38
theorem oX5_init_39 : OkS mX5_init 39 (iPush (.int 100) 2) := ok_bipush dX5_init_39 rfl
theorem ck_X5_init_31 : CalI mX5_init mX0_init 31 1 := ⟨⟨tw_246, tw_71, tw_165, nhX0, pcX0_init, by decide, by decide⟩, rfl, rfl, tw_164⟩
theorem oX5_init_41 : OkC mX5_init mX0_init 41 1 0 := okC_I dX5_init_41 ck_X5_init_31
theorem pc_X5_init_34 : FdC mX5_init 34 5 4 2 := ⟨RX5, TX5, 6, tyX5, (.object "BetweenCounts$Big"), rfl, inX5, by decide, by decide, tw_281, tyX5_ok, nmX5, Or.inr ⟨rfl, rfl, rfl⟩, by decide, Or.inr (Or.inr ⟨rfl, Or.inl ⟨_, rfl⟩⟩)⟩
theorem oX5_init_44 : OkS mX5_init 44 (iPut 5 4 2) := ok_put dX5_init_44 pc_X5_init_34
theorem oX5_init_47 : OkS mX5_init 47 (iLdA 0 1) := ok_aload_n (k4 := 0) dX5_init_47
theorem oX5_init_48 : OkS mX5_init 48 (iNew 0) := ok_new dX5_init_48 nw_X5_init_29
theorem oX5_init_51 : OkS mX5_init 51 (iDup) := ok_dup dX5_init_51
theorem oX5_init_52 : OkS mX5_init 52 (iPush (.int 100) 2) := ok_bipush dX5_init_52 rfl
theorem oX5_init_54 : OkC mX5_init mX0_init 54 1 0 := okC_I dX5_init_54 ck_X5_init_31
theorem pc_X5_init_38 : FdC mX5_init 38 5 5 2 := ⟨RX5, TX5, 6, tyX5, (.object "BetweenCounts$Big"), rfl, inX5, by decide, by decide, tw_282, tyX5_ok, nmX5, Or.inr ⟨rfl, rfl, rfl⟩, by decide, Or.inr (Or.inr ⟨rfl, Or.inl ⟨_, rfl⟩⟩)⟩
theorem oX5_init_57 : OkS mX5_init 57 (iPut 5 5 2) := ok_put dX5_init_57 pc_X5_init_38
theorem oX5_init_60 : OkS mX5_init 60 (iPush (.int 0) 1) := ok_iconst dX5_init_60 rfl
theorem oX5_init_61 : OkS mX5_init 61 (iStI 1 1) := ok_istore_n (k4 := 1) dX5_init_61 LE
theorem oX5_init_62 : OkS mX5_init 62 (iLdI 1 1) := ok_iload_n (k4 := 1) dX5_init_62
theorem oX5_init_63 : OkS mX5_init 63 (iPush (.int 10) 2) := ok_bipush dX5_init_63 rfl
theorem oX5_init_65 : OkS mX5_init 65 (iGe 87) := ok_icmp_ge 87 dX5_init_65 rfl
theorem oX5_init_68 : OkS mX5_init 68 (iLdA 0 1) := ok_aload_n (k4 := 0) dX5_init_68
theorem gc_X5_11 : Fd0 RX5 11 5 0 := ⟨RX5, TX5, 6, rfl, inX5, by decide, by decide, by decide, tw_275⟩
theorem oX5_init_69 : OkS mX5_init 69 (iGet 5 0) := ok_get dX5_init_69 gc_X5_11
theorem oX5_init_72 : OkS mX5_init 72 (iLdI 1 1) := ok_iload_n (k4 := 1) dX5_init_72
theorem nw_X5_init_9 : NwK mX5_init 9 3 := ⟨RX3, TX3, 2, tyX3, rfl, inX3, by decide, tw_243, tw_247, tw_75, tyX3_ok, rfl, dv3⟩
theorem oX5_init_73 : OkS mX5_init 73 (iNew 3) := ok_new dX5_init_73 nw_X5_init_9
theorem oX5_init_76 : OkS mX5_init 76 (iDup) := ok_dup dX5_init_76
theorem ck_X5_init_41 : CalI mX5_init mX3_init 41 0 := ⟨⟨tw_248, tw_75, tw_250, nhX3, pcX3_init, by decide, by decide⟩, rfl, rfl, tw_249⟩
theorem oX5_init_77 : OkC mX5_init mX3_init 77 0 0 := okC_I dX5_init_77 ck_X5_init_41
theorem oX5_init_80 : OkS mX5_init 80 (iAast 15 3) := ok_aast dX5_init_80 (Or.inr ⟨rfl, rfl⟩)
theorem oX5_init_81 : OkS mX5_init 81 (iInc 1 1) := ok_iinc dX5_init_81 LE
theorem oX5_init_84 : OkS mX5_init 84 (iGoto 62) := ok_goto 62 dX5_init_84 rfl
theorem oX6_init_0 : OkS mX6_init 0 (iLdA 0 1) := ok_aload_n (k4 := 0) dX6_init_0
theorem oX6_init_1 : OkS mX6_init 1 (iObj) := ok_obj dX6_init_1 tw_128 tw_85 tw_86 LE LE
theorem oX6_init_4 : OkS mX6_init 4 (iLdA 0 1) := ok_aload_n (k4 := 0) dX6_init_4
theorem oX6_init_5 : OkS mX6_init 5 (iPush (.int 10) 2) := ok_bipush dX6_init_5 rfl
theorem oX6_init_7 : OkS mX6_init 7 (iPush (.int 10) 2) := ok_bipush dX6_init_7 rfl
theorem oX6_init_9 : OkS mX6_init 9 (iMna) := ok_mna dX6_init_9 tw_129 tw_122
theorem pc_X6_init_11 : FdC mX6_init 11 6 0 2 := ⟨RX6, TX6, 6, tyX6, (.array (.array .int)), rfl, inX6, by decide, by decide, tw_131, tyX6_ok, nmX6, Or.inr ⟨rfl, rfl, rfl⟩, by decide, Or.inr (Or.inr ⟨rfl, Or.inr ⟨_, rfl⟩⟩)⟩
theorem oX6_init_13 : OkS mX6_init 13 (iPut 6 0 2) := ok_put dX6_init_13 pc_X6_init_11
theorem oX6_init_16 : OkS mX6_init 16 (iLdA 0 1) := ok_aload_n (k4 := 0) dX6_init_16
theorem oX6_init_17 : OkS mX6_init 17 (iPush (.int 10) 2) := ok_bipush dX6_init_17 rfl
theorem oX6_init_19 : OkS mX6_init 19 (iPush (.int 10) 2) := ok_bipush dX6_init_19 rfl
theorem oX6_init_21 : OkS mX6_init 21 (iMna) := ok_mna dX6_init_21 tw_129 tw_122
theorem pc_X6_init_16 : FdC mX6_init 16 6 1 2 := ⟨RX6, TX6, 6, tyX6, (.array (.array .int)), rfl, inX6, by decide, by decide, tw_133, tyX6_ok, nmX6, Or.inr ⟨rfl, rfl, rfl⟩, by decide, Or.inr (Or.inr ⟨rfl, Or.inr ⟨_, rfl⟩⟩)⟩
theorem oX6_init_25 : OkS mX6_init 25 (iPut 6 1 2) := ok_put dX6_init_25 pc_X6_init_16
theorem oX6_init_28 : OkS mX6_init 28 (iLdA 0 1) := ok_aload_n (k4 := 0) dX6_init_28
theorem oX6_init_29 : OkS mX6_init 29 (iPush (.int 10) 2) := ok_bipush dX6_init_29 rfl
theorem oX6_init_31 : OkS mX6_init 31 (iNewA 12 (.int 0)) := ok_newa dX6_init_31 (Or.inr (Or.inr ⟨rfl, rfl, rfl⟩)) tw_152
theorem pc_X6_init_19 : FdC mX6_init 19 6 4 2 := ⟨RX6, TX6, 6, tyX6, (.array .boolean), rfl, inX6, by decide, by decide, tw_137, tyX6_ok, nmX6, Or.inr ⟨rfl, rfl, rfl⟩, by decide, Or.inr (Or.inr ⟨rfl, Or.inr ⟨_, rfl⟩⟩)⟩
theorem oX6_init_33 : OkS mX6_init 33 (iPut 6 4 2) := ok_put dX6_init_33 pc_X6_init_19
theorem oX6_init_36 : OkS mX6_init 36 (iLdA 0 1) := ok_aload_n (k4 := 0) dX6_init_36
theorem oX6_init_37 : OkS mX6_init 37 (iPush (.int 0) 1) := ok_iconst dX6_init_37 rfl
theorem pc_X6_init_23 : FdC mX6_init 23 6 5 1 := ⟨RX6, TX6, 6, tyX6, .boolean, rfl, inX6, by decide, by decide, tw_138, tyX6_ok, nmX6, Or.inl rfl, by decide, Or.inr (Or.inl ⟨rfl, rfl⟩)⟩
theorem oX6_init_38 : OkS mX6_init 38 (iPut 6 5 1) := ok_put dX6_init_38 pc_X6_init_23
theorem oX6_init_41 : OkS mX6_init 41 (iLdA 0 1) := ok_aload_n (k4 := 0) dX6_init_41
theorem oX6_init_42 : OkS mX6_init 42 (iLdA 1 1) := ok_aload_n (k4 := 1) dX6_init_42
theorem pc_X6_init_27 : FdC mX6_init 27 6 2 2 := ⟨RX6, TX6, 6, tyX6, (.object "BetweenCounts$Net"), rfl, inX6, by decide, by decide, tw_135, tyX6_ok, nmX6, Or.inr ⟨rfl, rfl, rfl⟩, by decide, Or.inr (Or.inr ⟨rfl, Or.inl ⟨_, rfl⟩⟩)⟩
theorem oX6_init_43 : OkS mX6_init 43 (iPut 6 2 2) := ok_put dX6_init_43 pc_X6_init_27
theorem oX6_init_46 : OkS mX6_init 46 (iLdA 0 1) := ok_aload_n (k4 := 0) dX6_init_46
theorem oX6_init_47 : OkS mX6_init 47 (iLdA 2 1) := ok_aload_n (k4 := 2) dX6_init_47
theorem pc_X6_init_31 : FdC mX6_init 31 6 3 2 := ⟨RX6, TX6, 6, tyX6, (.array .boolean), rfl, inX6, by decide, by decide, tw_136, tyX6_ok, nmX6, Or.inr ⟨rfl, rfl, rfl⟩, by decide, Or.inr (Or.inr ⟨rfl, Or.inr ⟨_, rfl⟩⟩)⟩
theorem oX6_init_48 : OkS mX6_init 48 (iPut 6 3 2) := ok_put dX6_init_48 pc_X6_init_31
theorem oX7_init_0 : OkS mX7_init 0 (iLdA 0 1) := ok_aload_n (k4 := 0) dX7_init_0
theorem oX7_init_1 : OkS mX7_init 1 (iObj) := ok_obj dX7_init_1 tw_84 tw_85 tw_86 LE LE
theorem oX7_init_4 : OkS mX7_init 4 (iLdA 0 1) := ok_aload_n (k4 := 0) dX7_init_4
theorem nw_X7_init_9 : NwK mX7_init 9 4 := ⟨RX4, TX4, 5, tyX4, rfl, inX4, by decide, tw_87, tw_88, tw_68, tyX4_ok, rfl, dv4⟩
theorem oX7_init_5 : OkS mX7_init 5 (iNew 4) := ok_new dX7_init_5 nw_X7_init_9
theorem oX7_init_8 : OkS mX7_init 8 (iDup) := ok_dup dX7_init_8
theorem ck_X7_init_11 : CalN mX7_init mX4_init 11 0 := ⟨⟨fun s h => h.2.2.2.1, tw_68, tw_91, nhX4, pcX4_init, by decide, by decide⟩, rfl, rfl, tw_90⟩
theorem oX7_init_9 : OkC mX7_init mX4_init 9 0 0 := okC_N dX7_init_9 ck_X7_init_11
theorem pc_X7_init_12 : FdC mX7_init 12 7 0 2 := ⟨RX7, TX7, 10, tyX7, (.object "BetweenCounts$Net"), rfl, inX7, by decide, by decide, tw_298, tyX7_ok, nmX7, Or.inr ⟨rfl, rfl, rfl⟩, by decide, Or.inr (Or.inr ⟨rfl, Or.inl ⟨_, rfl⟩⟩)⟩
theorem oX7_init_12 : OkS mX7_init 12 (iPut 7 0 2) := ok_put dX7_init_12 pc_X7_init_12
theorem oX7_init_15 : OkS mX7_init 15 (iLdA 0 1) := ok_aload_n (k4 := 0) dX7_init_15
theorem oX7_init_16 : OkS mX7_init 16 (iPush (.int 10) 2) := ok_bipush dX7_init_16 rfl
theorem oX7_init_18 : OkS mX7_init 18 (iNewA 12 (.int 0)) := ok_newa dX7_init_18 (Or.inr (Or.inr ⟨rfl, rfl, rfl⟩)) tw_152
theorem pc_X7_init_16 : FdC mX7_init 16 7 1 2 := ⟨RX7, TX7, 10, tyX7, (.array .boolean), rfl, inX7, by decide, by decide, tw_299, tyX7_ok, nmX7, Or.inr ⟨rfl, rfl, rfl⟩, by decide, Or.inr (Or.inr ⟨rfl, Or.inr ⟨_, rfl⟩⟩)⟩
theorem oX7_init_20 : OkS mX7_init 20 (iPut 7 1 2) := ok_put dX7_init_20 pc_X7_init_16
theorem oX7_init_23 : OkS mX7_init 23 (iLdA 0 1) := ok_aload_n (k4 := 0) dX7_init_23
theorem oX7_init_24 : OkS mX7_init 24 (iPush (.int 10) 2) := ok_bipush dX7_init_24 rfl
theorem oX7_init_26 : OkS mX7_init 26 (iNewA 12 (.int 0)) := ok_newa dX7_init_26 (Or.inr (Or.inr ⟨rfl, rfl, rfl⟩)) tw_152
theorem pc_X7_init_20 : FdC mX7_init 20 7 2 2 := ⟨RX7, TX7, 10, tyX7, (.array .boolean), rfl, inX7, by decide, by decide, tw_300, tyX7_ok, nmX7, Or.inr ⟨rfl, rfl, rfl⟩, by decide, Or.inr (Or.inr ⟨rfl, Or.inr ⟨_, rfl⟩⟩)⟩
theorem oX7_init_28 : OkS mX7_init 28 (iPut 7 2 2) := ok_put dX7_init_28 pc_X7_init_20
theorem oX7_init_31 : OkS mX7_init 31 (iLdA 0 1) := ok_aload_n (k4 := 0) dX7_init_31
theorem oX7_init_32 : OkS mX7_init 32 (iPush (.int 10) 2) := ok_bipush dX7_init_32 rfl
theorem oX7_init_34 : OkS mX7_init 34 (iNewA 12 (.int 0)) := ok_newa dX7_init_34 (Or.inr (Or.inr ⟨rfl, rfl, rfl⟩)) tw_152
theorem pc_X7_init_23 : FdC mX7_init 23 7 3 2 := ⟨RX7, TX7, 10, tyX7, (.array .boolean), rfl, inX7, by decide, by decide, tw_301, tyX7_ok, nmX7, Or.inr ⟨rfl, rfl, rfl⟩, by decide, Or.inr (Or.inr ⟨rfl, Or.inr ⟨_, rfl⟩⟩)⟩
theorem oX7_init_36 : OkS mX7_init 36 (iPut 7 3 2) := ok_put dX7_init_36 pc_X7_init_23
theorem oX7_init_39 : OkS mX7_init 39 (iPush (.int 0) 1) := ok_iconst dX7_init_39 rfl
theorem oX7_init_40 : OkS mX7_init 40 (iStI 1 1) := ok_istore_n (k4 := 1) dX7_init_40 LE
theorem oX7_init_41 : OkS mX7_init 41 (iLdI 1 1) := ok_iload_n (k4 := 1) dX7_init_41
theorem oX7_init_42 : OkS mX7_init 42 (iPush (.int 10) 2) := ok_bipush dX7_init_42 rfl
theorem oX7_init_44 : OkS mX7_init 44 (iGe 67) := ok_icmp_ge 67 dX7_init_44 rfl
theorem oX7_init_47 : OkS mX7_init 47 (iLdA 0 1) := ok_aload_n (k4 := 0) dX7_init_47
theorem gc_X7_20 : Fd0 RX7 20 7 2 := ⟨RX7, TX7, 10, rfl, inX7, by decide, by decide, by decide, tw_300⟩
theorem oX7_init_48 : OkS mX7_init 48 (iGet 7 2) := ok_get dX7_init_48 gc_X7_20
theorem oX7_init_51 : OkS mX7_init 51 (iLdI 1 1) := ok_iload_n (k4 := 1) dX7_init_51
theorem oX7_init_52 : OkS mX7_init 52 (iPush (.int 1) 1) := ok_iconst dX7_init_52 rfl
theorem oX7_init_53 : OkS mX7_init 53 (iBast) := ok_bast dX7_init_53
theorem oX7_init_54 : OkS mX7_init 54 (iLdA 0 1) := ok_aload_n (k4 := 0) dX7_init_54
theorem gc_X7_23 : Fd0 RX7 23 7 3 := ⟨RX7, TX7, 10, rfl, inX7, by decide, by decide, by decide, tw_301⟩
theorem oX7_init_55 : OkS mX7_init 55 (iGet 7 3) := ok_get dX7_init_55 gc_X7_23
theorem oX7_init_58 : OkS mX7_init 58 (iLdI 1 1) := ok_iload_n (k4 := 1) dX7_init_58
theorem oX7_init_59 : OkS mX7_init 59 (iPush (.int 1) 1) := ok_iconst dX7_init_59 rfl
theorem oX7_init_60 : OkS mX7_init 60 (iBast) := ok_bast dX7_init_60
theorem oX7_init_61 : OkS mX7_init 61 (iInc 1 1) := ok_iinc dX7_init_61 LE
theorem oX7_init_64 : OkS mX7_init 64 (iGoto 41) := ok_goto 41 dX7_init_64 rfl
theorem oX7_init_67 : OkS mX7_init 67 (iLdA 0 1) := ok_aload_n (k4 := 0) dX7_init_67
theorem nw_X7_init_26 : NwK mX7_init 26 6 := ⟨RX6, TX6, 6, tyX6, rfl, inX6, by decide, tw_123, tw_124, tw_69, tyX6_ok, rfl, dv6⟩
theorem oX7_init_68 : OkS mX7_init 68 (iNew 6) := ok_new dX7_init_68 nw_X7_init_26
theorem oX7_init_71 : OkS mX7_init 71 (iDup) := ok_dup dX7_init_71
theorem oX7_init_72 : OkS mX7_init 72 (iLdA 0 1) := ok_aload_n (k4 := 0) dX7_init_72
theorem gc_X7_12 : Fd0 RX7 12 7 0 := ⟨RX7, TX7, 10, rfl, inX7, by decide, by decide, by decide, tw_298⟩
theorem oX7_init_73 : OkS mX7_init 73 (iGet 7 0) := ok_get dX7_init_73 gc_X7_12
theorem oX7_init_76 : OkS mX7_init 76 (iPush (.int 10) 2) := ok_bipush dX7_init_76 rfl
theorem oX7_init_78 : OkS mX7_init 78 (iNewA 12 (.int 0)) := ok_newa dX7_init_78 (Or.inr (Or.inr ⟨rfl, rfl, rfl⟩)) tw_152
theorem ck_X7_init_28 : CalI mX7_init mX6_init 28 2 := ⟨⟨tw_125, tw_69, tw_127, nhX6, pcX6_init, by decide, by decide⟩, rfl, rfl, tw_126⟩
theorem oX7_init_80 : OkC mX7_init mX6_init 80 2 0 := okC_I dX7_init_80 ck_X7_init_28
theorem pc_X7_init_31 : FdC mX7_init 31 7 4 2 := ⟨RX7, TX7, 10, tyX7, (.object "BetweenCounts$WayTable"), rfl, inX7, by decide, by decide, tw_302, tyX7_ok, nmX7, Or.inr ⟨rfl, rfl, rfl⟩, by decide, Or.inr (Or.inr ⟨rfl, Or.inl ⟨_, rfl⟩⟩)⟩
theorem oX7_init_83 : OkS mX7_init 83 (iPut 7 4 2) := ok_put dX7_init_83 pc_X7_init_31
theorem oX7_init_86 : OkS mX7_init 86 (iLdA 0 1) := ok_aload_n (k4 := 0) dX7_init_86
theorem oX7_init_87 : OkS mX7_init 87 (iNew 6) := ok_new dX7_init_87 nw_X7_init_26
theorem oX7_init_90 : OkS mX7_init 90 (iDup) := ok_dup dX7_init_90
theorem oX7_init_91 : OkS mX7_init 91 (iLdA 0 1) := ok_aload_n (k4 := 0) dX7_init_91
theorem oX7_init_92 : OkS mX7_init 92 (iGet 7 0) := ok_get dX7_init_92 gc_X7_12
theorem oX7_init_95 : OkS mX7_init 95 (iLdA 0 1) := ok_aload_n (k4 := 0) dX7_init_95
theorem gc_X7_16 : Fd0 RX7 16 7 1 := ⟨RX7, TX7, 10, rfl, inX7, by decide, by decide, by decide, tw_299⟩
theorem oX7_init_96 : OkS mX7_init 96 (iGet 7 1) := ok_get dX7_init_96 gc_X7_16
theorem oX7_init_99 : OkC mX7_init mX6_init 99 2 0 := okC_I dX7_init_99 ck_X7_init_28
theorem pc_X7_init_35 : FdC mX7_init 35 7 5 2 := ⟨RX7, TX7, 10, tyX7, (.object "BetweenCounts$WayTable"), rfl, inX7, by decide, by decide, tw_303, tyX7_ok, nmX7, Or.inr ⟨rfl, rfl, rfl⟩, by decide, Or.inr (Or.inr ⟨rfl, Or.inl ⟨_, rfl⟩⟩)⟩
theorem oX7_init_102 : OkS mX7_init 102 (iPut 7 5 2) := ok_put dX7_init_102 pc_X7_init_35
theorem oX7_init_105 : OkS mX7_init 105 (iLdA 0 1) := ok_aload_n (k4 := 0) dX7_init_105
theorem nw_X7_init_38 : NwK mX7_init 38 2 := ⟨RX2, TX2, 11, tyX2, rfl, inX2, by decide, tw_153, tw_154, tw_70, tyX2_ok, rfl, dv2⟩
theorem oX7_init_106 : OkS mX7_init 106 (iNew 2) := ok_new dX7_init_106 nw_X7_init_38
theorem oX7_init_109 : OkS mX7_init 109 (iDup) := ok_dup dX7_init_109
theorem oX7_init_110 : OkS mX7_init 110 (iLdA 0 1) := ok_aload_n (k4 := 0) dX7_init_110
theorem oX7_init_111 : OkS mX7_init 111 (iGet 7 0) := ok_get dX7_init_111 gc_X7_12
theorem ck_X7_init_40 : CalI mX7_init mX2_init 40 1 := ⟨⟨tw_155, tw_70, tw_157, nhX2, pcX2_init, by decide, by decide⟩, rfl, rfl, tw_156⟩
theorem oX7_init_114 : OkC mX7_init mX2_init 114 1 0 := okC_I dX7_init_114 ck_X7_init_40
theorem pc_X7_init_43 : FdC mX7_init 43 7 6 2 := ⟨RX7, TX7, 10, tyX7, (.object "BetweenCounts$Flow"), rfl, inX7, by decide, by decide, tw_304, tyX7_ok, nmX7, Or.inr ⟨rfl, rfl, rfl⟩, by decide, Or.inr (Or.inr ⟨rfl, Or.inl ⟨_, rfl⟩⟩)⟩
theorem oX7_init_117 : OkS mX7_init 117 (iPut 7 6 2) := ok_put dX7_init_117 pc_X7_init_43
theorem oX7_init_120 : OkS mX7_init 120 (iLdA 0 1) := ok_aload_n (k4 := 0) dX7_init_120
theorem nw_X7_init_47 : NwK mX7_init 47 5 := ⟨RX5, TX5, 6, tyX5, rfl, inX5, by decide, tw_237, tw_238, tw_74, tyX5_ok, rfl, dv5⟩
theorem oX7_init_121 : OkS mX7_init 121 (iNew 5) := ok_new dX7_init_121 nw_X7_init_47
theorem oX7_init_124 : OkS mX7_init 124 (iDup) := ok_dup dX7_init_124
theorem ck_X7_init_49 : CalI mX7_init mX5_init 49 0 := ⟨⟨tw_239, tw_74, tw_241, nhX5, pcX5_init, by decide, by decide⟩, rfl, rfl, tw_240⟩
theorem oX7_init_125 : OkC mX7_init mX5_init 125 0 0 := okC_I dX7_init_125 ck_X7_init_49
theorem pc_X7_init_50 : FdC mX7_init 50 7 7 2 := ⟨RX7, TX7, 10, tyX7, (.object "BetweenCounts$Ranking"), rfl, inX7, by decide, by decide, tw_305, tyX7_ok, nmX7, Or.inr ⟨rfl, rfl, rfl⟩, by decide, Or.inr (Or.inr ⟨rfl, Or.inl ⟨_, rfl⟩⟩)⟩
theorem oX7_init_128 : OkS mX7_init 128 (iPut 7 7 2) := ok_put dX7_init_128 pc_X7_init_50
theorem oX7_init_131 : OkS mX7_init 131 (iLdA 0 1) := ok_aload_n (k4 := 0) dX7_init_131
theorem nw_X7_init_54 : NwK mX7_init 54 3 := ⟨RX3, TX3, 2, tyX3, rfl, inX3, by decide, tw_296, tw_247, tw_75, tyX3_ok, rfl, dv3⟩
theorem oX7_init_132 : OkS mX7_init 132 (iNew 3) := ok_new dX7_init_132 nw_X7_init_54
theorem oX7_init_135 : OkS mX7_init 135 (iDup) := ok_dup dX7_init_135
theorem ck_X7_init_56 : CalI mX7_init mX3_init 56 0 := ⟨⟨tw_297, tw_75, tw_250, nhX3, pcX3_init, by decide, by decide⟩, rfl, rfl, tw_249⟩
theorem oX7_init_136 : OkC mX7_init mX3_init 136 0 0 := okC_I dX7_init_136 ck_X7_init_56
theorem pc_X7_init_57 : FdC mX7_init 57 7 8 2 := ⟨RX7, TX7, 10, tyX7, (.object "BetweenCounts$Fraction"), rfl, inX7, by decide, by decide, tw_306, tyX7_ok, nmX7, Or.inr ⟨rfl, rfl, rfl⟩, by decide, Or.inr (Or.inr ⟨rfl, Or.inl ⟨_, rfl⟩⟩)⟩
theorem oX7_init_139 : OkS mX7_init 139 (iPut 7 8 2) := ok_put dX7_init_139 pc_X7_init_57
theorem oX7_init_142 : OkS mX7_init 142 (iLdA 0 1) := ok_aload_n (k4 := 0) dX7_init_142
theorem oX7_init_143 : OkS mX7_init 143 (iPush (.int (-1)) 1) := ok_iconst dX7_init_143 rfl
theorem pc_X7_init_61 : FdC mX7_init 61 7 9 0 := ⟨RX7, TX7, 10, tyX7, .int, rfl, inX7, by decide, by decide, tw_307, tyX7_ok, nmX7, Or.inl rfl, by decide, Or.inl ⟨rfl, rfl⟩⟩
theorem oX7_init_144 : OkS mX7_init 144 (iPut 7 9 0) := ok_put dX7_init_144 pc_X7_init_61
theorem oX8_init_0 : OkS mX8_init 0 (iLdA 0 1) := ok_aload_n (k4 := 0) dX8_init_0
theorem oX8_init_1 : OkS mX8_init 1 (iObj) := ok_obj dX8_init_1 tw_712 tw_85 tw_86 LE LE
theorem oX8_init_4 : OkS mX8_init 4 (iLdA 0 1) := ok_aload_n (k4 := 0) dX8_init_4
theorem oX8_init_5 : OkS mX8_init 5 (iPush (.int 30) 2) := ok_bipush dX8_init_5 rfl
theorem oX8_init_7 : OkS mX8_init 7 (iNewA 10 (.int 0)) := ok_newa dX8_init_7 (Or.inl ⟨rfl, rfl, rfl⟩) tw_122
theorem pc_X8_init_7 : FdC mX8_init 7 8 2 2 := ⟨RX8, TX8, 31, tyX8, (.array .int), rfl, inX8, by decide, by decide, tw_723, tyX8_ok, nmX8, Or.inr ⟨rfl, rfl, rfl⟩, by decide, Or.inr (Or.inr ⟨rfl, Or.inr ⟨_, rfl⟩⟩)⟩
theorem oX8_init_9 : OkS mX8_init 9 (iPut 8 2 2) := ok_put dX8_init_9 pc_X8_init_7
theorem oX8_init_12 : OkS mX8_init 12 (iLdA 0 1) := ok_aload_n (k4 := 0) dX8_init_12
theorem oX8_init_13 : OkS mX8_init 13 (iPush (.int 30) 2) := ok_bipush dX8_init_13 rfl
theorem oX8_init_15 : OkS mX8_init 15 (iNewA 10 (.int 0)) := ok_newa dX8_init_15 (Or.inl ⟨rfl, rfl, rfl⟩) tw_122
theorem pc_X8_init_13 : FdC mX8_init 13 8 3 2 := ⟨RX8, TX8, 31, tyX8, (.array .int), rfl, inX8, by decide, by decide, tw_724, tyX8_ok, nmX8, Or.inr ⟨rfl, rfl, rfl⟩, by decide, Or.inr (Or.inr ⟨rfl, Or.inr ⟨_, rfl⟩⟩)⟩
theorem oX8_init_17 : OkS mX8_init 17 (iPut 8 3 2) := ok_put dX8_init_17 pc_X8_init_13
theorem oX8_init_20 : OkS mX8_init 20 (iLdA 0 1) := ok_aload_n (k4 := 0) dX8_init_20
theorem oX8_init_21 : OkS mX8_init 21 (iPush (.int 30) 2) := ok_bipush dX8_init_21 rfl
theorem oX8_init_23 : OkS mX8_init 23 (iNewA 10 (.int 0)) := ok_newa dX8_init_23 (Or.inl ⟨rfl, rfl, rfl⟩) tw_122
theorem pc_X8_init_16 : FdC mX8_init 16 8 4 2 := ⟨RX8, TX8, 31, tyX8, (.array .int), rfl, inX8, by decide, by decide, tw_725, tyX8_ok, nmX8, Or.inr ⟨rfl, rfl, rfl⟩, by decide, Or.inr (Or.inr ⟨rfl, Or.inr ⟨_, rfl⟩⟩)⟩
theorem oX8_init_25 : OkS mX8_init 25 (iPut 8 4 2) := ok_put dX8_init_25 pc_X8_init_16
theorem oX8_init_28 : OkS mX8_init 28 (iLdA 0 1) := ok_aload_n (k4 := 0) dX8_init_28
theorem oX8_init_29 : OkS mX8_init 29 (iPush (.int 30) 2) := ok_bipush dX8_init_29 rfl
theorem oX8_init_31 : OkS mX8_init 31 (iNewA 12 (.int 0)) := ok_newa dX8_init_31 (Or.inr (Or.inr ⟨rfl, rfl, rfl⟩)) tw_152
theorem pc_X8_init_19 : FdC mX8_init 19 8 5 2 := ⟨RX8, TX8, 31, tyX8, (.array .boolean), rfl, inX8, by decide, by decide, tw_726, tyX8_ok, nmX8, Or.inr ⟨rfl, rfl, rfl⟩, by decide, Or.inr (Or.inr ⟨rfl, Or.inr ⟨_, rfl⟩⟩)⟩
theorem oX8_init_33 : OkS mX8_init 33 (iPut 8 5 2) := ok_put dX8_init_33 pc_X8_init_19
theorem oX8_init_36 : OkS mX8_init 36 (iLdA 0 1) := ok_aload_n (k4 := 0) dX8_init_36
theorem oX8_init_37 : OkS mX8_init 37 (iPush (.int 100) 2) := ok_bipush dX8_init_37 rfl
theorem oX8_init_39 : OkS mX8_init 39 (iNewA 10 (.int 0)) := ok_newa dX8_init_39 (Or.inl ⟨rfl, rfl, rfl⟩) tw_122
theorem pc_X8_init_23 : FdC mX8_init 23 8 6 2 := ⟨RX8, TX8, 31, tyX8, (.array .int), rfl, inX8, by decide, by decide, tw_727, tyX8_ok, nmX8, Or.inr ⟨rfl, rfl, rfl⟩, by decide, Or.inr (Or.inr ⟨rfl, Or.inr ⟨_, rfl⟩⟩)⟩
theorem oX8_init_41 : OkS mX8_init 41 (iPut 8 6 2) := ok_put dX8_init_41 pc_X8_init_23
theorem oX8_init_44 : OkS mX8_init 44 (iLdA 0 1) := ok_aload_n (k4 := 0) dX8_init_44
theorem oX8_init_45 : OkS mX8_init 45 (iPush (.int 100) 2) := ok_bipush dX8_init_45 rfl
theorem oX8_init_47 : OkS mX8_init 47 (iNewA 11 (.long 0)) := ok_newa dX8_init_47 (Or.inr (Or.inl ⟨rfl, rfl, rfl⟩)) tw_179
theorem pc_X8_init_26 : FdC mX8_init 26 8 7 2 := ⟨RX8, TX8, 31, tyX8, (.array .long), rfl, inX8, by decide, by decide, tw_728, tyX8_ok, nmX8, Or.inr ⟨rfl, rfl, rfl⟩, by decide, Or.inr (Or.inr ⟨rfl, Or.inr ⟨_, rfl⟩⟩)⟩
theorem oX8_init_49 : OkS mX8_init 49 (iPut 8 7 2) := ok_put dX8_init_49 pc_X8_init_26
theorem oX8_init_52 : OkS mX8_init 52 (iLdA 0 1) := ok_aload_n (k4 := 0) dX8_init_52
theorem oX8_init_53 : OkS mX8_init 53 (iPush (.int 100) 2) := ok_bipush dX8_init_53 rfl
theorem oX8_init_55 : OkS mX8_init 55 (iNewA 11 (.long 0)) := ok_newa dX8_init_55 (Or.inr (Or.inl ⟨rfl, rfl, rfl⟩)) tw_179
theorem pc_X8_init_30 : FdC mX8_init 30 8 8 2 := ⟨RX8, TX8, 31, tyX8, (.array .long), rfl, inX8, by decide, by decide, tw_729, tyX8_ok, nmX8, Or.inr ⟨rfl, rfl, rfl⟩, by decide, Or.inr (Or.inr ⟨rfl, Or.inr ⟨_, rfl⟩⟩)⟩
theorem oX8_init_57 : OkS mX8_init 57 (iPut 8 8 2) := ok_put dX8_init_57 pc_X8_init_30
theorem oX8_init_60 : OkS mX8_init 60 (iLdA 0 1) := ok_aload_n (k4 := 0) dX8_init_60
theorem oX8_init_61 : OkS mX8_init 61 (iPush (.int 64) 2) := ok_bipush dX8_init_61 rfl
theorem pc_X8_init_33 : FdC mX8_init 33 8 9 0 := ⟨RX8, TX8, 31, tyX8, .int, rfl, inX8, by decide, by decide, tw_730, tyX8_ok, nmX8, Or.inl rfl, by decide, Or.inl ⟨rfl, rfl⟩⟩
theorem oX8_init_63 : OkS mX8_init 63 (iPut 8 9 0) := ok_put dX8_init_63 pc_X8_init_33
theorem oX8_init_66 : OkS mX8_init 66 (iLdA 0 1) := ok_aload_n (k4 := 0) dX8_init_66
theorem oX8_init_67 : OkS mX8_init 67 (iPush (.int 64) 2) := ok_bipush dX8_init_67 rfl
theorem oX8_init_69 : OkS mX8_init 69 (iNewA 11 (.long 0)) := ok_newa dX8_init_69 (Or.inr (Or.inl ⟨rfl, rfl, rfl⟩)) tw_179
theorem pc_X8_init_37 : FdC mX8_init 37 8 10 2 := ⟨RX8, TX8, 31, tyX8, (.array .long), rfl, inX8, by decide, by decide, tw_731, tyX8_ok, nmX8, Or.inr ⟨rfl, rfl, rfl⟩, by decide, Or.inr (Or.inr ⟨rfl, Or.inr ⟨_, rfl⟩⟩)⟩
theorem oX8_init_71 : OkS mX8_init 71 (iPut 8 10 2) := ok_put dX8_init_71 pc_X8_init_37
theorem oX8_init_74 : OkS mX8_init 74 (iLdA 0 1) := ok_aload_n (k4 := 0) dX8_init_74
theorem oX8_init_75 : OkS mX8_init 75 (iPush (.int 64) 2) := ok_bipush dX8_init_75 rfl
theorem oX8_init_77 : OkS mX8_init 77 (iNewA 11 (.long 0)) := ok_newa dX8_init_77 (Or.inr (Or.inl ⟨rfl, rfl, rfl⟩)) tw_179
theorem pc_X8_init_40 : FdC mX8_init 40 8 11 2 := ⟨RX8, TX8, 31, tyX8, (.array .long), rfl, inX8, by decide, by decide, tw_732, tyX8_ok, nmX8, Or.inr ⟨rfl, rfl, rfl⟩, by decide, Or.inr (Or.inr ⟨rfl, Or.inr ⟨_, rfl⟩⟩)⟩
theorem oX8_init_79 : OkS mX8_init 79 (iPut 8 11 2) := ok_put dX8_init_79 pc_X8_init_40
theorem oX8_init_82 : OkS mX8_init 82 (iLdA 0 1) := ok_aload_n (k4 := 0) dX8_init_82
theorem oX8_init_83 : OkS mX8_init 83 (iPush (.int 64) 2) := ok_bipush dX8_init_83 rfl
theorem oX8_init_85 : OkS mX8_init 85 (iNewA 11 (.long 0)) := ok_newa dX8_init_85 (Or.inr (Or.inl ⟨rfl, rfl, rfl⟩)) tw_179
theorem pc_X8_init_43 : FdC mX8_init 43 8 12 2 := ⟨RX8, TX8, 31, tyX8, (.array .long), rfl, inX8, by decide, by decide, tw_733, tyX8_ok, nmX8, Or.inr ⟨rfl, rfl, rfl⟩, by decide, Or.inr (Or.inr ⟨rfl, Or.inr ⟨_, rfl⟩⟩)⟩
theorem oX8_init_87 : OkS mX8_init 87 (iPut 8 12 2) := ok_put dX8_init_87 pc_X8_init_43
theorem oX8_init_90 : OkS mX8_init 90 (iLdA 0 1) := ok_aload_n (k4 := 0) dX8_init_90
theorem oX8_init_91 : OkS mX8_init 91 (iPush (.int 64) 2) := ok_bipush dX8_init_91 rfl
theorem oX8_init_93 : OkS mX8_init 93 (iNewA 11 (.long 0)) := ok_newa dX8_init_93 (Or.inr (Or.inl ⟨rfl, rfl, rfl⟩)) tw_179
theorem pc_X8_init_46 : FdC mX8_init 46 8 13 2 := ⟨RX8, TX8, 31, tyX8, (.array .long), rfl, inX8, by decide, by decide, tw_734, tyX8_ok, nmX8, Or.inr ⟨rfl, rfl, rfl⟩, by decide, Or.inr (Or.inr ⟨rfl, Or.inr ⟨_, rfl⟩⟩)⟩
theorem oX8_init_95 : OkS mX8_init 95 (iPut 8 13 2) := ok_put dX8_init_95 pc_X8_init_46
theorem oX8_init_98 : OkS mX8_init 98 (iLdA 0 1) := ok_aload_n (k4 := 0) dX8_init_98
theorem oX8_init_99 : OkS mX8_init 99 (iPush (.int 64) 2) := ok_bipush dX8_init_99 rfl
theorem oX8_init_101 : OkS mX8_init 101 (iNewA 11 (.long 0)) := ok_newa dX8_init_101 (Or.inr (Or.inl ⟨rfl, rfl, rfl⟩)) tw_179
theorem pc_X8_init_49 : FdC mX8_init 49 8 14 2 := ⟨RX8, TX8, 31, tyX8, (.array .long), rfl, inX8, by decide, by decide, tw_735, tyX8_ok, nmX8, Or.inr ⟨rfl, rfl, rfl⟩, by decide, Or.inr (Or.inr ⟨rfl, Or.inr ⟨_, rfl⟩⟩)⟩
theorem oX8_init_103 : OkS mX8_init 103 (iPut 8 14 2) := ok_put dX8_init_103 pc_X8_init_49
theorem oX8_init_106 : OkS mX8_init 106 (iLdA 0 1) := ok_aload_n (k4 := 0) dX8_init_106
theorem oX8_init_107 : OkS mX8_init 107 (iPush (.int 64) 2) := ok_bipush dX8_init_107 rfl
theorem oX8_init_109 : OkS mX8_init 109 (iNewA 11 (.long 0)) := ok_newa dX8_init_109 (Or.inr (Or.inl ⟨rfl, rfl, rfl⟩)) tw_179
theorem pc_X8_init_52 : FdC mX8_init 52 8 15 2 := ⟨RX8, TX8, 31, tyX8, (.array .long), rfl, inX8, by decide, by decide, tw_736, tyX8_ok, nmX8, Or.inr ⟨rfl, rfl, rfl⟩, by decide, Or.inr (Or.inr ⟨rfl, Or.inr ⟨_, rfl⟩⟩)⟩
theorem oX8_init_111 : OkS mX8_init 111 (iPut 8 15 2) := ok_put dX8_init_111 pc_X8_init_52
theorem oX8_init_114 : OkS mX8_init 114 (iLdA 0 1) := ok_aload_n (k4 := 0) dX8_init_114
theorem oX8_init_115 : OkS mX8_init 115 (iPush (.int 640) 3) := ok_sipush dX8_init_115 rfl
theorem oX8_init_118 : OkS mX8_init 118 (iNewA 11 (.long 0)) := ok_newa dX8_init_118 (Or.inr (Or.inl ⟨rfl, rfl, rfl⟩)) tw_179
theorem pc_X8_init_55 : FdC mX8_init 55 8 17 2 := ⟨RX8, TX8, 31, tyX8, (.array .long), rfl, inX8, by decide, by decide, tw_738, tyX8_ok, nmX8, Or.inr ⟨rfl, rfl, rfl⟩, by decide, Or.inr (Or.inr ⟨rfl, Or.inr ⟨_, rfl⟩⟩)⟩
theorem oX8_init_120 : OkS mX8_init 120 (iPut 8 17 2) := ok_put dX8_init_120 pc_X8_init_55
theorem oX8_init_123 : OkS mX8_init 123 (iLdA 0 1) := ok_aload_n (k4 := 0) dX8_init_123
theorem oX8_init_124 : OkS mX8_init 124 (iPush (.int 640) 3) := ok_sipush dX8_init_124 rfl
theorem oX8_init_127 : OkS mX8_init 127 (iNewA 11 (.long 0)) := ok_newa dX8_init_127 (Or.inr (Or.inl ⟨rfl, rfl, rfl⟩)) tw_179
theorem pc_X8_init_58 : FdC mX8_init 58 8 18 2 := ⟨RX8, TX8, 31, tyX8, (.array .long), rfl, inX8, by decide, by decide, tw_739, tyX8_ok, nmX8, Or.inr ⟨rfl, rfl, rfl⟩, by decide, Or.inr (Or.inr ⟨rfl, Or.inr ⟨_, rfl⟩⟩)⟩
theorem oX8_init_129 : OkS mX8_init 129 (iPut 8 18 2) := ok_put dX8_init_129 pc_X8_init_58
theorem oX8_init_132 : OkS mX8_init 132 (iLdA 0 1) := ok_aload_n (k4 := 0) dX8_init_132
theorem oX8_init_133 : OkS mX8_init 133 (iPush (.int 128) 3) := ok_sipush dX8_init_133 rfl
theorem oX8_init_136 : OkS mX8_init 136 (iNewA 11 (.long 0)) := ok_newa dX8_init_136 (Or.inr (Or.inl ⟨rfl, rfl, rfl⟩)) tw_179
theorem pc_X8_init_61 : FdC mX8_init 61 8 19 2 := ⟨RX8, TX8, 31, tyX8, (.array .long), rfl, inX8, by decide, by decide, tw_740, tyX8_ok, nmX8, Or.inr ⟨rfl, rfl, rfl⟩, by decide, Or.inr (Or.inr ⟨rfl, Or.inr ⟨_, rfl⟩⟩)⟩
theorem oX8_init_138 : OkS mX8_init 138 (iPut 8 19 2) := ok_put dX8_init_138 pc_X8_init_61
theorem oX8_init_141 : OkS mX8_init 141 (iLdA 0 1) := ok_aload_n (k4 := 0) dX8_init_141
theorem oX8_init_142 : OkS mX8_init 142 (iPush (.int 128) 3) := ok_sipush dX8_init_142 rfl
theorem oX8_init_145 : OkS mX8_init 145 (iNewA 11 (.long 0)) := ok_newa dX8_init_145 (Or.inr (Or.inl ⟨rfl, rfl, rfl⟩)) tw_179
theorem pc_X8_init_64 : FdC mX8_init 64 8 20 2 := ⟨RX8, TX8, 31, tyX8, (.array .long), rfl, inX8, by decide, by decide, tw_741, tyX8_ok, nmX8, Or.inr ⟨rfl, rfl, rfl⟩, by decide, Or.inr (Or.inr ⟨rfl, Or.inr ⟨_, rfl⟩⟩)⟩
theorem oX8_init_147 : OkS mX8_init 147 (iPut 8 20 2) := ok_put dX8_init_147 pc_X8_init_64
theorem oX8_init_150 : OkS mX8_init 150 (iLdA 0 1) := ok_aload_n (k4 := 0) dX8_init_150
theorem oX8_init_151 : OkS mX8_init 151 (iPush (.int 8) 2) := ok_bipush dX8_init_151 rfl
theorem oX8_init_153 : OkS mX8_init 153 (iNewA 11 (.long 0)) := ok_newa dX8_init_153 (Or.inr (Or.inl ⟨rfl, rfl, rfl⟩)) tw_179
theorem oX8_init_155 : OkS mX8_init 155 (iDup) := ok_dup dX8_init_155
theorem oX8_init_156 : OkS mX8_init 156 (iPush (.int 0) 1) := ok_iconst dX8_init_156 rfl
theorem oX8_init_157 : OkS mX8_init 157 (iPush (.long 2147483647) 3) := ok_ldc2 dX8_init_157 tw_713
theorem oX8_init_160 : OkS mX8_init 160 (iLast) := ok_last dX8_init_160
theorem oX8_init_161 : OkS mX8_init 161 (iDup) := ok_dup dX8_init_161
theorem oX8_init_162 : OkS mX8_init 162 (iPush (.int 1) 1) := ok_iconst dX8_init_162 rfl
theorem oX8_init_163 : OkS mX8_init 163 (iPush (.long 2147483629) 3) := ok_ldc2 dX8_init_163 tw_714
theorem oX8_init_166 : OkS mX8_init 166 (iLast) := ok_last dX8_init_166
theorem oX8_init_167 : OkS mX8_init 167 (iDup) := ok_dup dX8_init_167
theorem oX8_init_168 : OkS mX8_init 168 (iPush (.int 2) 1) := ok_iconst dX8_init_168 rfl
theorem oX8_init_169 : OkS mX8_init 169 (iPush (.long 2147483587) 3) := ok_ldc2 dX8_init_169 tw_715
theorem oX8_init_172 : OkS mX8_init 172 (iLast) := ok_last dX8_init_172
theorem oX8_init_173 : OkS mX8_init 173 (iDup) := ok_dup dX8_init_173
theorem oX8_init_174 : OkS mX8_init 174 (iPush (.int 3) 1) := ok_iconst dX8_init_174 rfl
theorem oX8_init_175 : OkS mX8_init 175 (iPush (.long 2147483579) 3) := ok_ldc2 dX8_init_175 tw_716
theorem oX8_init_178 : OkS mX8_init 178 (iLast) := ok_last dX8_init_178
theorem oX8_init_179 : OkS mX8_init 179 (iDup) := ok_dup dX8_init_179
theorem oX8_init_180 : OkS mX8_init 180 (iPush (.int 4) 1) := ok_iconst dX8_init_180 rfl
theorem oX8_init_181 : OkS mX8_init 181 (iPush (.long 2147483563) 3) := ok_ldc2 dX8_init_181 tw_717
theorem oX8_init_184 : OkS mX8_init 184 (iLast) := ok_last dX8_init_184
theorem oX8_init_185 : OkS mX8_init 185 (iDup) := ok_dup dX8_init_185
theorem oX8_init_186 : OkS mX8_init 186 (iPush (.int 5) 1) := ok_iconst dX8_init_186 rfl
theorem oX8_init_187 : OkS mX8_init 187 (iPush (.long 2147483549) 3) := ok_ldc2 dX8_init_187 tw_718
theorem oX8_init_190 : OkS mX8_init 190 (iLast) := ok_last dX8_init_190
theorem oX8_init_191 : OkS mX8_init 191 (iDup) := ok_dup dX8_init_191
theorem oX8_init_192 : OkS mX8_init 192 (iPush (.int 6) 2) := ok_bipush dX8_init_192 rfl
theorem oX8_init_194 : OkS mX8_init 194 (iPush (.long 2147483543) 3) := ok_ldc2 dX8_init_194 tw_719
theorem oX8_init_197 : OkS mX8_init 197 (iLast) := ok_last dX8_init_197
theorem oX8_init_198 : OkS mX8_init 198 (iDup) := ok_dup dX8_init_198
theorem oX8_init_199 : OkS mX8_init 199 (iPush (.int 7) 2) := ok_bipush dX8_init_199 rfl
theorem oX8_init_201 : OkS mX8_init 201 (iPush (.long 2147483497) 3) := ok_ldc2 dX8_init_201 tw_720
theorem oX8_init_204 : OkS mX8_init 204 (iLast) := ok_last dX8_init_204
theorem pc_X8_init_83 : FdC mX8_init 83 8 21 2 := ⟨RX8, TX8, 31, tyX8, (.array .long), rfl, inX8, by decide, by decide, tw_742, tyX8_ok, nmX8, Or.inr ⟨rfl, rfl, rfl⟩, by decide, Or.inr (Or.inr ⟨rfl, Or.inr ⟨_, rfl⟩⟩)⟩
theorem oX8_init_205 : OkS mX8_init 205 (iPut 8 21 2) := ok_put dX8_init_205 pc_X8_init_83
theorem oX8_init_208 : OkS mX8_init 208 (iLdA 0 1) := ok_aload_n (k4 := 0) dX8_init_208
theorem oX8_init_209 : OkS mX8_init 209 (iPush (.int 10) 2) := ok_bipush dX8_init_209 rfl
theorem oX8_init_211 : OkS mX8_init 211 (iNewA 10 (.int 0)) := ok_newa dX8_init_211 (Or.inl ⟨rfl, rfl, rfl⟩) tw_122
theorem pc_X8_init_86 : FdC mX8_init 86 8 22 2 := ⟨RX8, TX8, 31, tyX8, (.array .int), rfl, inX8, by decide, by decide, tw_743, tyX8_ok, nmX8, Or.inr ⟨rfl, rfl, rfl⟩, by decide, Or.inr (Or.inr ⟨rfl, Or.inr ⟨_, rfl⟩⟩)⟩
theorem oX8_init_213 : OkS mX8_init 213 (iPut 8 22 2) := ok_put dX8_init_213 pc_X8_init_86
theorem oX8_init_216 : OkS mX8_init 216 (iLdA 0 1) := ok_aload_n (k4 := 0) dX8_init_216
theorem oX8_init_217 : OkS mX8_init 217 (iPush (.int 10) 2) := ok_bipush dX8_init_217 rfl
theorem oX8_init_219 : OkS mX8_init 219 (iNewA 10 (.int 0)) := ok_newa dX8_init_219 (Or.inl ⟨rfl, rfl, rfl⟩) tw_122
theorem pc_X8_init_89 : FdC mX8_init 89 8 23 2 := ⟨RX8, TX8, 31, tyX8, (.array .int), rfl, inX8, by decide, by decide, tw_744, tyX8_ok, nmX8, Or.inr ⟨rfl, rfl, rfl⟩, by decide, Or.inr (Or.inr ⟨rfl, Or.inr ⟨_, rfl⟩⟩)⟩
theorem oX8_init_221 : OkS mX8_init 221 (iPut 8 23 2) := ok_put dX8_init_221 pc_X8_init_89
theorem oX8_init_224 : OkS mX8_init 224 (iLdA 0 1) := ok_aload_n (k4 := 0) dX8_init_224
theorem oX8_init_225 : OkS mX8_init 225 (iPush (.int 10) 2) := ok_bipush dX8_init_225 rfl
theorem oX8_init_227 : OkS mX8_init 227 (iNewA 12 (.int 0)) := ok_newa dX8_init_227 (Or.inr (Or.inr ⟨rfl, rfl, rfl⟩)) tw_152
theorem pc_X8_init_92 : FdC mX8_init 92 8 24 2 := ⟨RX8, TX8, 31, tyX8, (.array .boolean), rfl, inX8, by decide, by decide, tw_745, tyX8_ok, nmX8, Or.inr ⟨rfl, rfl, rfl⟩, by decide, Or.inr (Or.inr ⟨rfl, Or.inr ⟨_, rfl⟩⟩)⟩
theorem oX8_init_229 : OkS mX8_init 229 (iPut 8 24 2) := ok_put dX8_init_229 pc_X8_init_92
theorem oX8_init_232 : OkS mX8_init 232 (iLdA 0 1) := ok_aload_n (k4 := 0) dX8_init_232
theorem oX8_init_233 : OkS mX8_init 233 (iPush (.int 200) 3) := ok_sipush dX8_init_233 rfl
theorem oX8_init_236 : OkS mX8_init 236 (iNewA 11 (.long 0)) := ok_newa dX8_init_236 (Or.inr (Or.inl ⟨rfl, rfl, rfl⟩)) tw_179
theorem pc_X8_init_95 : FdC mX8_init 95 8 26 2 := ⟨RX8, TX8, 31, tyX8, (.array .long), rfl, inX8, by decide, by decide, tw_747, tyX8_ok, nmX8, Or.inr ⟨rfl, rfl, rfl⟩, by decide, Or.inr (Or.inr ⟨rfl, Or.inr ⟨_, rfl⟩⟩)⟩
theorem oX8_init_238 : OkS mX8_init 238 (iPut 8 26 2) := ok_put dX8_init_238 pc_X8_init_95
theorem oX8_init_241 : OkS mX8_init 241 (iLdA 0 1) := ok_aload_n (k4 := 0) dX8_init_241
theorem oX8_init_242 : OkS mX8_init 242 (iPush (.int 5) 1) := ok_iconst dX8_init_242 rfl
theorem oX8_init_243 : OkS mX8_init 243 (iNewA 11 (.long 0)) := ok_newa dX8_init_243 (Or.inr (Or.inl ⟨rfl, rfl, rfl⟩)) tw_179
theorem pc_X8_init_98 : FdC mX8_init 98 8 27 2 := ⟨RX8, TX8, 31, tyX8, (.array .long), rfl, inX8, by decide, by decide, tw_748, tyX8_ok, nmX8, Or.inr ⟨rfl, rfl, rfl⟩, by decide, Or.inr (Or.inr ⟨rfl, Or.inr ⟨_, rfl⟩⟩)⟩
theorem oX8_init_245 : OkS mX8_init 245 (iPut 8 27 2) := ok_put dX8_init_245 pc_X8_init_98
theorem oX8_init_248 : OkS mX8_init 248 (iLdA 0 1) := ok_aload_n (k4 := 0) dX8_init_248
theorem oX8_init_249 : OkS mX8_init 249 (iPush (.int 5) 1) := ok_iconst dX8_init_249 rfl
theorem oX8_init_250 : OkS mX8_init 250 (iNewA 11 (.long 0)) := ok_newa dX8_init_250 (Or.inr (Or.inl ⟨rfl, rfl, rfl⟩)) tw_179
theorem pc_X8_init_101 : FdC mX8_init 101 8 28 2 := ⟨RX8, TX8, 31, tyX8, (.array .long), rfl, inX8, by decide, by decide, tw_749, tyX8_ok, nmX8, Or.inr ⟨rfl, rfl, rfl⟩, by decide, Or.inr (Or.inr ⟨rfl, Or.inr ⟨_, rfl⟩⟩)⟩
theorem oX8_init_252 : OkS mX8_init 252 (iPut 8 28 2) := ok_put dX8_init_252 pc_X8_init_101
theorem oX8_init_255 : OkS mX8_init 255 (iLdA 0 1) := ok_aload_n (k4 := 0) dX8_init_255
theorem oX8_init_256 : OkS mX8_init 256 (iPush (.int 500) 3) := ok_sipush dX8_init_256 rfl
theorem oX8_init_259 : OkS mX8_init 259 (iNewA 11 (.long 0)) := ok_newa dX8_init_259 (Or.inr (Or.inl ⟨rfl, rfl, rfl⟩)) tw_179
theorem pc_X8_init_104 : FdC mX8_init 104 8 29 2 := ⟨RX8, TX8, 31, tyX8, (.array .long), rfl, inX8, by decide, by decide, tw_750, tyX8_ok, nmX8, Or.inr ⟨rfl, rfl, rfl⟩, by decide, Or.inr (Or.inr ⟨rfl, Or.inr ⟨_, rfl⟩⟩)⟩
theorem oX8_init_261 : OkS mX8_init 261 (iPut 8 29 2) := ok_put dX8_init_261 pc_X8_init_104
theorem oX8_init_264 : OkS mX8_init 264 (iLdA 0 1) := ok_aload_n (k4 := 0) dX8_init_264
theorem oX8_init_265 : OkS mX8_init 265 (iPush (.int 5) 1) := ok_iconst dX8_init_265 rfl
theorem oX8_init_266 : OkS mX8_init 266 (iNewA 11 (.long 0)) := ok_newa dX8_init_266 (Or.inr (Or.inl ⟨rfl, rfl, rfl⟩)) tw_179
theorem pc_X8_init_107 : FdC mX8_init 107 8 30 2 := ⟨RX8, TX8, 31, tyX8, (.array .long), rfl, inX8, by decide, by decide, tw_751, tyX8_ok, nmX8, Or.inr ⟨rfl, rfl, rfl⟩, by decide, Or.inr (Or.inr ⟨rfl, Or.inr ⟨_, rfl⟩⟩)⟩
theorem oX8_init_268 : OkS mX8_init 268 (iPut 8 30 2) := ok_put dX8_init_268 pc_X8_init_107
theorem oX0_setSmall_0 : OkS mX0_setSmall 0 (iLdA 0 1) := ok_aload_n (k4 := 0) dX0_setSmall_0
theorem oX0_setSmall_1 : OkS mX0_setSmall 1 (iPush (.int 0) 1) := ok_iconst dX0_setSmall_1 rfl
theorem pc_X0_setSmall_9 : FdC mX0_setSmall 9 0 1 0 := ⟨RX0, TX0, 2, tyX0, .int, rfl, inX0, by decide, by decide, tw_172, tyX0_ok, nmX0, Or.inl rfl, by decide, Or.inl ⟨rfl, rfl⟩⟩
theorem oX0_setSmall_2 : OkS mX0_setSmall 2 (iPut 0 1 0) := ok_put dX0_setSmall_2 pc_X0_setSmall_9
theorem oX0_setSmall_5 : OkS mX0_setSmall 5 (iLdA 0 1) := ok_aload_n (k4 := 0) dX0_setSmall_5
theorem oX0_setSmall_6 : OkS mX0_setSmall 6 (iLdL 1 1) := ok_lload_n (k4 := 1) dX0_setSmall_6
theorem ck_X0_setSmall_25 : CalV mX0_setSmall mX0_append 25 0 1 := ⟨⟨tw_258, tw_71, tw_261, nhX0, pdX0_append, by decide, by decide⟩, ⟨_, _, rfl⟩, by decide, tw_260, tw_0⟩
theorem oX0_setSmall_7 : OkC mX0_setSmall mX0_append 7 1 1 := okC_V dX0_setSmall_7 ck_X0_setSmall_25
theorem oX0_append_0 : OkS mX0_append 0 (iLdL 1 1) := ok_lload_n (k4 := 1) dX0_append_0
theorem oX0_append_1 : OkS mX0_append 1 (iPush (.long 0) 1) := ok_lconst dX0_append_1 rfl
theorem oX0_append_2 : OkS mX0_append 2 (iLcmp) := ok_lcmp dX0_append_2
theorem oX0_append_3 : OkS mX0_append 3 (iIfle 38) := ok_if_le 38 dX0_append_3 rfl
theorem oX0_append_6 : OkS mX0_append 6 (iLdA 0 1) := ok_aload_n (k4 := 0) dX0_append_6
theorem gc_X0_9 : Fd0 RX0 9 0 1 := ⟨RX0, TX0, 2, rfl, inX0, by decide, by decide, by decide, tw_172⟩
theorem oX0_append_7 : OkS mX0_append 7 (iGet 0 1) := ok_get dX0_append_7 gc_X0_9
theorem oX0_append_10 : OkS mX0_append 10 (iLdA 0 1) := ok_aload_n (k4 := 0) dX0_append_10
theorem gc_X0_21 : Fd0 RX0 21 0 0 := ⟨RX0, TX0, 2, rfl, inX0, by decide, by decide, by decide, tw_170⟩
theorem oX0_append_11 : OkS mX0_append 11 (iGet 0 0) := ok_get dX0_append_11 gc_X0_21
theorem oX0_append_14 : OkS mX0_append 14 (iAlen) := ok_alen dX0_append_14
theorem oX0_append_15 : OkS mX0_append 15 (iGe 38) := ok_icmp_ge 38 dX0_append_15 rfl
theorem oX0_append_18 : OkS mX0_append 18 (iLdA 0 1) := ok_aload_n (k4 := 0) dX0_append_18
theorem oX0_append_19 : OkS mX0_append 19 (iGet 0 0) := ok_get dX0_append_19 gc_X0_21
theorem oX0_append_22 : OkS mX0_append 22 (iLdA 0 1) := ok_aload_n (k4 := 0) dX0_append_22
theorem oX0_append_23 : OkS mX0_append 23 (iGet 0 1) := ok_get dX0_append_23 gc_X0_9
theorem oX0_append_26 : OkS mX0_append 26 (iLdL 1 1) := ok_lload_n (k4 := 1) dX0_append_26
theorem oX0_append_27 : OkS mX0_append 27 (iLast) := ok_last dX0_append_27
theorem oX0_append_28 : OkS mX0_append 28 (iLdA 0 1) := ok_aload_n (k4 := 0) dX0_append_28
theorem oX0_append_29 : OkS mX0_append 29 (iDup) := ok_dup dX0_append_29
theorem oX0_append_30 : OkS mX0_append 30 (iGet 0 1) := ok_get dX0_append_30 gc_X0_9
theorem oX0_append_33 : OkS mX0_append 33 (iPush (.int 1) 1) := ok_iconst dX0_append_33 rfl
theorem oX0_append_34 : OkS mX0_append 34 (iAdd) := ok_iadd dX0_append_34
theorem pc_X0_append_9 : FdC mX0_append 9 0 1 0 := ⟨RX0, TX0, 2, tyX0, .int, rfl, inX0, by decide, by decide, tw_172, tyX0_ok, nmX0, Or.inl rfl, by decide, Or.inl ⟨rfl, rfl⟩⟩
theorem oX0_append_35 : OkS mX0_append 35 (iPut 0 1 0) := ok_put dX0_append_35 pc_X0_append_9
noncomputable def tb0 : List (Nat × GT) := [(0, .inl (iLdA 0 1)), (1, .inl (iObj)), (4, .inl (iLdA 0 1)), (5, .inl (iPush (.int 0) 1)), (6, .inl (iPut 0 1 0)), (9, .inl (iLdA 0 1)), (10, .inl (iLdI 1 1)), (11, .inl (iPush (.int 1) 1)), (12, .inl (iMax)), (15, .inl (iNewA 11 (.long 0))), (17, .inl (iPut 0 0 2)), (20, .inr (99, 0, 0))]
noncomputable def tb1 : List (Nat × GT) := [(0, .inl (iLdA 0 1)), (1, .inl (iObj)), (4, .inl (iLdA 0 1)), (5, .inl (iNew 0)), (8, .inl (iDup)), (9, .inl (iPush (.int 12) 2)), (11, .inr (0, 1, 0)), (14, .inl (iPut 1 0 2)), (17, .inl (iLdA 0 1)), (18, .inl (iNew 0)), (21, .inl (iDup)), (22, .inl (iPush (.int 12) 2)), (24, .inr (0, 1, 0)), (27, .inl (iPut 1 1 2)), (30, .inl (iLdA 0 1)), (31, .inl (iNew 0)), (34, .inl (iDup)), (35, .inl (iPush (.int 12) 2)), (37, .inr (0, 1, 0)), (40, .inl (iPut 1 2 2)), (43, .inl (iLdA 0 1)), (44, .inl (iNew 0)), (47, .inl (iDup)), (48, .inl (iPush (.int 12) 2)), (50, .inr (0, 1, 0)), (53, .inl (iPut 1 3 2)), (56, .inr (99, 0, 0))]
noncomputable def tb2 : List (Nat × GT) := [(0, .inl (iLdA 0 1)), (1, .inl (iObj)), (4, .inl (iLdA 0 1)), (5, .inl (iPush (.int 10) 2)), (7, .inl (iNewA 10 (.int 0))), (9, .inl (iPut 2 0 2)), (12, .inl (iLdA 0 1)), (13, .inl (iPush (.int 10) 2)), (15, .inl (iPush (.int 10) 2)), (17, .inl (iMna)), (21, .inl (iPut 2 2 2)), (24, .inl (iLdA 0 1)), (25, .inl (iPush (.int 100) 2)), (27, .inl (iAnew 14)), (30, .inl (iPut 2 3 2)), (33, .inl (iLdA 0 1)), (34, .inl (iNew 0)), (37, .inl (iDup)), (38, .inl (iPush (.int 6) 2)), (40, .inr (0, 1, 0)), (43, .inl (iPut 2 4 2)), (46, .inl (iLdA 0 1)), (47, .inl (iNew 0)), (50, .inl (iDup)), (51, .inl (iPush (.int 6) 2)), (53, .inr (0, 1, 0)), (56, .inl (iPut 2 5 2)), (59, .inl (iLdA 0 1)), (60, .inl (iNew 0)), (63, .inl (iDup)), (64, .inl (iPush (.int 12) 2)), (66, .inr (0, 1, 0)), (69, .inl (iPut 2 6 2)), (72, .inl (iLdA 0 1)), (73, .inl (iNew 0)), (76, .inl (iDup)), (77, .inl (iPush (.int 12) 2)), (79, .inr (0, 1, 0)), (82, .inl (iPut 2 7 2)), (85, .inl (iLdA 0 1)), (86, .inl (iNew 1)), (89, .inl (iDup)), (90, .inr (1, 0, 0)), (93, .inl (iPut 2 8 2)), (96, .inl (iLdA 0 1)), (97, .inl (iPush (.int 0) 1)), (98, .inl (iPut 2 9 1)), (101, .inl (iLdA 0 1)), (102, .inl (iPush (.int (-1)) 1)), (103, .inl (iPut 2 10 0)), (106, .inl (iLdA 0 1)), (107, .inl (iLdA 1 1)), (108, .inl (iPut 2 1 2)), (111, .inl (iPush (.int 0) 1)), (112, .inl (iStI 2 1)), (113, .inl (iLdI 2 1)), (114, .inl (iPush (.int 10) 2)), (116, .inl (iGe 176)), (119, .inl (iLdI 2 1)), (120, .inl (iStI 3 1)), (121, .inl (iLdI 3 1)), (122, .inl (iPush (.int 10) 2)), (124, .inl (iGe 170)), (127, .inl (iNew 0)), (130, .inl (iDup)), (131, .inl (iPush (.int 6) 2)), (133, .inr (0, 1, 0)), (136, .inl (iStA 4 2)), (138, .inl (iLdA 0 1)), (139, .inl (iGet 2 3)), (142, .inl (iLdI 2 1)), (143, .inl (iPush (.int 10) 2)), (145, .inl (iMul)), (146, .inl (iLdI 3 1)), (147, .inl (iAdd)), (148, .inl (iLdA 4 2)), (150, .inl (iAast 14 0)), (151, .inl (iLdA 0 1)), (152, .inl (iGet 2 3)), (155, .inl (iLdI 3 1)), (156, .inl (iPush (.int 10) 2)), (158, .inl (iMul)), (159, .inl (iLdI 2 1)), (160, .inl (iAdd)), (161, .inl (iLdA 4 2)), (163, .inl (iAast 14 0)), (164, .inl (iInc 3 1)), (167, .inl (iGoto 121)), (170, .inl (iInc 2 1)), (173, .inl (iGoto 113)), (176, .inr (99, 0, 0))]
noncomputable def tb3 : List (Nat × GT) := [(0, .inl (iLdA 0 1)), (1, .inl (iObj)), (4, .inl (iLdA 0 1)), (5, .inl (iNew 0)), (8, .inl (iDup)), (9, .inl (iPush (.int 50) 2)), (11, .inr (0, 1, 0)), (14, .inl (iPut 3 0 2)), (17, .inl (iLdA 0 1)), (18, .inl (iNew 0)), (21, .inl (iDup)), (22, .inl (iPush (.int 50) 2)), (24, .inr (0, 1, 0)), (27, .inl (iPut 3 1 2)), (30, .inl (iLdA 0 1)), (31, .inl (iGet 3 1)), (34, .inl (iPush (.long 1) 1)), (35, .inr (9, 1, 1)), (38, .inr (99, 0, 0))]
noncomputable def tb4 : List (Nat × GT) := [(0, .inl (iLdA 0 1)), (1, .inl (iObj)), (4, .inl (iLdA 0 1)), (5, .inl (iPush (.int 0) 1)), (6, .inl (iPut 4 0 0)), (9, .inl (iLdA 0 1)), (10, .inl (iPush (.int 0) 1)), (11, .inl (iPut 4 1 0)), (14, .inl (iLdA 0 1)), (15, .inl (iPush (.int 30) 2)), (17, .inl (iNewA 10 (.int 0))), (19, .inl (iPut 4 2 2)), (22, .inl (iLdA 0 1)), (23, .inl (iPush (.int 30) 2)), (25, .inl (iNewA 10 (.int 0))), (27, .inl (iPut 4 3 2)), (30, .inl (iLdA 0 1)), (31, .inl (iPush (.int 30) 2)), (33, .inl (iNewA 10 (.int 0))), (35, .inl (iPut 4 4 2)), (38, .inr (99, 0, 0))]
noncomputable def tb5 : List (Nat × GT) := [(0, .inl (iLdA 0 1)), (1, .inl (iObj)), (4, .inl (iLdA 0 1)), (5, .inl (iPush (.int 10) 2)), (7, .inl (iAnew 15)), (10, .inl (iPut 5 0 2)), (13, .inl (iLdA 0 1)), (14, .inl (iPush (.int 10) 2)), (16, .inl (iNewA 12 (.int 0))), (18, .inl (iPut 5 1 2)), (21, .inl (iLdA 0 1)), (22, .inl (iPush (.int 10) 2)), (24, .inl (iNewA 10 (.int 0))), (26, .inl (iPut 5 2 2)), (29, .inl (iLdA 0 1)), (30, .inl (iPush (.int 0) 1)), (31, .inl (iPut 5 3 1)), (34, .inl (iLdA 0 1)), (35, .inl (iNew 0)), (38, .inl (iDup)), (39, .inl (iPush (.int 100) 2)), (41, .inr (0, 1, 0)), (44, .inl (iPut 5 4 2)), (47, .inl (iLdA 0 1)), (48, .inl (iNew 0)), (51, .inl (iDup)), (52, .inl (iPush (.int 100) 2)), (54, .inr (0, 1, 0)), (57, .inl (iPut 5 5 2)), (60, .inl (iPush (.int 0) 1)), (61, .inl (iStI 1 1)), (62, .inl (iLdI 1 1)), (63, .inl (iPush (.int 10) 2)), (65, .inl (iGe 87)), (68, .inl (iLdA 0 1)), (69, .inl (iGet 5 0)), (72, .inl (iLdI 1 1)), (73, .inl (iNew 3)), (76, .inl (iDup)), (77, .inr (3, 0, 0)), (80, .inl (iAast 15 3)), (81, .inl (iInc 1 1)), (84, .inl (iGoto 62)), (87, .inr (99, 0, 0))]
noncomputable def tb6 : List (Nat × GT) := [(0, .inl (iLdA 0 1)), (1, .inl (iObj)), (4, .inl (iLdA 0 1)), (5, .inl (iPush (.int 10) 2)), (7, .inl (iPush (.int 10) 2)), (9, .inl (iMna)), (13, .inl (iPut 6 0 2)), (16, .inl (iLdA 0 1)), (17, .inl (iPush (.int 10) 2)), (19, .inl (iPush (.int 10) 2)), (21, .inl (iMna)), (25, .inl (iPut 6 1 2)), (28, .inl (iLdA 0 1)), (29, .inl (iPush (.int 10) 2)), (31, .inl (iNewA 12 (.int 0))), (33, .inl (iPut 6 4 2)), (36, .inl (iLdA 0 1)), (37, .inl (iPush (.int 0) 1)), (38, .inl (iPut 6 5 1)), (41, .inl (iLdA 0 1)), (42, .inl (iLdA 1 1)), (43, .inl (iPut 6 2 2)), (46, .inl (iLdA 0 1)), (47, .inl (iLdA 2 1)), (48, .inl (iPut 6 3 2)), (51, .inr (99, 0, 0))]
noncomputable def tb7 : List (Nat × GT) := [(0, .inl (iLdA 0 1)), (1, .inl (iObj)), (4, .inl (iLdA 0 1)), (5, .inl (iNew 4)), (8, .inl (iDup)), (9, .inr (4, 0, 0)), (12, .inl (iPut 7 0 2)), (15, .inl (iLdA 0 1)), (16, .inl (iPush (.int 10) 2)), (18, .inl (iNewA 12 (.int 0))), (20, .inl (iPut 7 1 2)), (23, .inl (iLdA 0 1)), (24, .inl (iPush (.int 10) 2)), (26, .inl (iNewA 12 (.int 0))), (28, .inl (iPut 7 2 2)), (31, .inl (iLdA 0 1)), (32, .inl (iPush (.int 10) 2)), (34, .inl (iNewA 12 (.int 0))), (36, .inl (iPut 7 3 2)), (39, .inl (iPush (.int 0) 1)), (40, .inl (iStI 1 1)), (41, .inl (iLdI 1 1)), (42, .inl (iPush (.int 10) 2)), (44, .inl (iGe 67)), (47, .inl (iLdA 0 1)), (48, .inl (iGet 7 2)), (51, .inl (iLdI 1 1)), (52, .inl (iPush (.int 1) 1)), (53, .inl (iBast)), (54, .inl (iLdA 0 1)), (55, .inl (iGet 7 3)), (58, .inl (iLdI 1 1)), (59, .inl (iPush (.int 1) 1)), (60, .inl (iBast)), (61, .inl (iInc 1 1)), (64, .inl (iGoto 41)), (67, .inl (iLdA 0 1)), (68, .inl (iNew 6)), (71, .inl (iDup)), (72, .inl (iLdA 0 1)), (73, .inl (iGet 7 0)), (76, .inl (iPush (.int 10) 2)), (78, .inl (iNewA 12 (.int 0))), (80, .inr (6, 2, 0)), (83, .inl (iPut 7 4 2)), (86, .inl (iLdA 0 1)), (87, .inl (iNew 6)), (90, .inl (iDup)), (91, .inl (iLdA 0 1)), (92, .inl (iGet 7 0)), (95, .inl (iLdA 0 1)), (96, .inl (iGet 7 1)), (99, .inr (6, 2, 0)), (102, .inl (iPut 7 5 2)), (105, .inl (iLdA 0 1)), (106, .inl (iNew 2)), (109, .inl (iDup)), (110, .inl (iLdA 0 1)), (111, .inl (iGet 7 0)), (114, .inr (2, 1, 0)), (117, .inl (iPut 7 6 2)), (120, .inl (iLdA 0 1)), (121, .inl (iNew 5)), (124, .inl (iDup)), (125, .inr (5, 0, 0)), (128, .inl (iPut 7 7 2)), (131, .inl (iLdA 0 1)), (132, .inl (iNew 3)), (135, .inl (iDup)), (136, .inr (3, 0, 0)), (139, .inl (iPut 7 8 2)), (142, .inl (iLdA 0 1)), (143, .inl (iPush (.int (-1)) 1)), (144, .inl (iPut 7 9 0)), (147, .inr (99, 0, 0))]
noncomputable def tb8 : List (Nat × GT) := [(0, .inl (iLdA 0 1)), (1, .inl (iObj)), (4, .inl (iLdA 0 1)), (5, .inl (iPush (.int 30) 2)), (7, .inl (iNewA 10 (.int 0))), (9, .inl (iPut 8 2 2)), (12, .inl (iLdA 0 1)), (13, .inl (iPush (.int 30) 2)), (15, .inl (iNewA 10 (.int 0))), (17, .inl (iPut 8 3 2)), (20, .inl (iLdA 0 1)), (21, .inl (iPush (.int 30) 2)), (23, .inl (iNewA 10 (.int 0))), (25, .inl (iPut 8 4 2)), (28, .inl (iLdA 0 1)), (29, .inl (iPush (.int 30) 2)), (31, .inl (iNewA 12 (.int 0))), (33, .inl (iPut 8 5 2)), (36, .inl (iLdA 0 1)), (37, .inl (iPush (.int 100) 2)), (39, .inl (iNewA 10 (.int 0))), (41, .inl (iPut 8 6 2)), (44, .inl (iLdA 0 1)), (45, .inl (iPush (.int 100) 2)), (47, .inl (iNewA 11 (.long 0))), (49, .inl (iPut 8 7 2)), (52, .inl (iLdA 0 1)), (53, .inl (iPush (.int 100) 2)), (55, .inl (iNewA 11 (.long 0))), (57, .inl (iPut 8 8 2)), (60, .inl (iLdA 0 1)), (61, .inl (iPush (.int 64) 2)), (63, .inl (iPut 8 9 0)), (66, .inl (iLdA 0 1)), (67, .inl (iPush (.int 64) 2)), (69, .inl (iNewA 11 (.long 0))), (71, .inl (iPut 8 10 2)), (74, .inl (iLdA 0 1)), (75, .inl (iPush (.int 64) 2)), (77, .inl (iNewA 11 (.long 0))), (79, .inl (iPut 8 11 2)), (82, .inl (iLdA 0 1)), (83, .inl (iPush (.int 64) 2)), (85, .inl (iNewA 11 (.long 0))), (87, .inl (iPut 8 12 2)), (90, .inl (iLdA 0 1)), (91, .inl (iPush (.int 64) 2)), (93, .inl (iNewA 11 (.long 0))), (95, .inl (iPut 8 13 2)), (98, .inl (iLdA 0 1)), (99, .inl (iPush (.int 64) 2)), (101, .inl (iNewA 11 (.long 0))), (103, .inl (iPut 8 14 2)), (106, .inl (iLdA 0 1)), (107, .inl (iPush (.int 64) 2)), (109, .inl (iNewA 11 (.long 0))), (111, .inl (iPut 8 15 2)), (114, .inl (iLdA 0 1)), (115, .inl (iPush (.int 640) 3)), (118, .inl (iNewA 11 (.long 0))), (120, .inl (iPut 8 17 2)), (123, .inl (iLdA 0 1)), (124, .inl (iPush (.int 640) 3)), (127, .inl (iNewA 11 (.long 0))), (129, .inl (iPut 8 18 2)), (132, .inl (iLdA 0 1)), (133, .inl (iPush (.int 128) 3)), (136, .inl (iNewA 11 (.long 0))), (138, .inl (iPut 8 19 2)), (141, .inl (iLdA 0 1)), (142, .inl (iPush (.int 128) 3)), (145, .inl (iNewA 11 (.long 0))), (147, .inl (iPut 8 20 2)), (150, .inl (iLdA 0 1)), (151, .inl (iPush (.int 8) 2)), (153, .inl (iNewA 11 (.long 0))), (155, .inl (iDup)), (156, .inl (iPush (.int 0) 1)), (157, .inl (iPush (.long 2147483647) 3)), (160, .inl (iLast)), (161, .inl (iDup)), (162, .inl (iPush (.int 1) 1)), (163, .inl (iPush (.long 2147483629) 3)), (166, .inl (iLast)), (167, .inl (iDup)), (168, .inl (iPush (.int 2) 1)), (169, .inl (iPush (.long 2147483587) 3)), (172, .inl (iLast)), (173, .inl (iDup)), (174, .inl (iPush (.int 3) 1)), (175, .inl (iPush (.long 2147483579) 3)), (178, .inl (iLast)), (179, .inl (iDup)), (180, .inl (iPush (.int 4) 1)), (181, .inl (iPush (.long 2147483563) 3)), (184, .inl (iLast)), (185, .inl (iDup)), (186, .inl (iPush (.int 5) 1)), (187, .inl (iPush (.long 2147483549) 3)), (190, .inl (iLast)), (191, .inl (iDup)), (192, .inl (iPush (.int 6) 2)), (194, .inl (iPush (.long 2147483543) 3)), (197, .inl (iLast)), (198, .inl (iDup)), (199, .inl (iPush (.int 7) 2)), (201, .inl (iPush (.long 2147483497) 3)), (204, .inl (iLast)), (205, .inl (iPut 8 21 2)), (208, .inl (iLdA 0 1)), (209, .inl (iPush (.int 10) 2)), (211, .inl (iNewA 10 (.int 0))), (213, .inl (iPut 8 22 2)), (216, .inl (iLdA 0 1)), (217, .inl (iPush (.int 10) 2)), (219, .inl (iNewA 10 (.int 0))), (221, .inl (iPut 8 23 2)), (224, .inl (iLdA 0 1)), (225, .inl (iPush (.int 10) 2)), (227, .inl (iNewA 12 (.int 0))), (229, .inl (iPut 8 24 2)), (232, .inl (iLdA 0 1)), (233, .inl (iPush (.int 200) 3)), (236, .inl (iNewA 11 (.long 0))), (238, .inl (iPut 8 26 2)), (241, .inl (iLdA 0 1)), (242, .inl (iPush (.int 5) 1)), (243, .inl (iNewA 11 (.long 0))), (245, .inl (iPut 8 27 2)), (248, .inl (iLdA 0 1)), (249, .inl (iPush (.int 5) 1)), (250, .inl (iNewA 11 (.long 0))), (252, .inl (iPut 8 28 2)), (255, .inl (iLdA 0 1)), (256, .inl (iPush (.int 500) 3)), (259, .inl (iNewA 11 (.long 0))), (261, .inl (iPut 8 29 2)), (264, .inl (iLdA 0 1)), (265, .inl (iPush (.int 5) 1)), (266, .inl (iNewA 11 (.long 0))), (268, .inl (iPut 8 30 2)), (271, .inr (99, 0, 0))]
noncomputable def tb9 : List (Nat × GT) := [(0, .inl (iLdA 0 1)), (1, .inl (iPush (.int 0) 1)), (2, .inl (iPut 0 1 0)), (5, .inl (iLdA 0 1)), (6, .inl (iLdL 1 1)), (7, .inr (10, 1, 1)), (10, .inr (99, 0, 0))]
noncomputable def tb10 : List (Nat × GT) := [(0, .inl (iLdL 1 1)), (1, .inl (iPush (.long 0) 1)), (2, .inl (iLcmp)), (3, .inl (iIfle 38)), (6, .inl (iLdA 0 1)), (7, .inl (iGet 0 1)), (10, .inl (iLdA 0 1)), (11, .inl (iGet 0 0)), (14, .inl (iAlen)), (15, .inl (iGe 38)), (18, .inl (iLdA 0 1)), (19, .inl (iGet 0 0)), (22, .inl (iLdA 0 1)), (23, .inl (iGet 0 1)), (26, .inl (iLdL 1 1)), (27, .inl (iLast)), (28, .inl (iLdA 0 1)), (29, .inl (iDup)), (30, .inl (iGet 0 1)), (33, .inl (iPush (.int 1) 1)), (34, .inl (iAdd)), (35, .inl (iPut 0 1 0)), (38, .inr (99, 0, 0))]
def yis : Nat → YI
  | 0 => mX0_init
  | 1 => mX1_init
  | 2 => mX2_init
  | 3 => mX3_init
  | 4 => mX4_init
  | 5 => mX5_init
  | 6 => mX6_init
  | 7 => mX7_init
  | 8 => mX8_init
  | 9 => mX0_setSmall
  | _ => mX0_append
noncomputable def tbs : Nat → List (Nat × GT)
  | 0 => tb0
  | 1 => tb1
  | 2 => tb2
  | 3 => tb3
  | 4 => tb4
  | 5 => tb5
  | 6 => tb6
  | 7 => tb7
  | 8 => tb8
  | 9 => tb9
  | 10 => tb10
  | _ => []
def mxs : Nat → Nat
  | 0 => 2
  | 1 => 1
  | 2 => 5
  | 3 => 1
  | 4 => 1
  | 5 => 2
  | 6 => 3
  | 7 => 2
  | 8 => 1
  | 9 => 3
  | _ => 3
theorem ag0 : AllG yis 0 tb0 := ⟨oX0_init_0, oX0_init_1, oX0_init_4, oX0_init_5, oX0_init_6, oX0_init_9, oX0_init_10, oX0_init_11, oX0_init_12, oX0_init_15, oX0_init_17, ⟨dX0_init_20, rfl⟩, trivial⟩
theorem ag1 : AllG yis 1 tb1 := ⟨oX1_init_0, oX1_init_1, oX1_init_4, oX1_init_5, oX1_init_8, oX1_init_9, oX1_init_11, oX1_init_14, oX1_init_17, oX1_init_18, oX1_init_21, oX1_init_22, oX1_init_24, oX1_init_27, oX1_init_30, oX1_init_31, oX1_init_34, oX1_init_35, oX1_init_37, oX1_init_40, oX1_init_43, oX1_init_44, oX1_init_47, oX1_init_48, oX1_init_50, oX1_init_53, ⟨dX1_init_56, rfl⟩, trivial⟩
theorem ag2 : AllG yis 2 tb2 := ⟨oX2_init_0, oX2_init_1, oX2_init_4, oX2_init_5, oX2_init_7, oX2_init_9, oX2_init_12, oX2_init_13, oX2_init_15, oX2_init_17, oX2_init_21, oX2_init_24, oX2_init_25, oX2_init_27, oX2_init_30, oX2_init_33, oX2_init_34, oX2_init_37, oX2_init_38, oX2_init_40, oX2_init_43, oX2_init_46, oX2_init_47, oX2_init_50, oX2_init_51, oX2_init_53, oX2_init_56, oX2_init_59, oX2_init_60, oX2_init_63, oX2_init_64, oX2_init_66, oX2_init_69, oX2_init_72, oX2_init_73, oX2_init_76, oX2_init_77, oX2_init_79, oX2_init_82, oX2_init_85, oX2_init_86, oX2_init_89, oX2_init_90, oX2_init_93, oX2_init_96, oX2_init_97, oX2_init_98, oX2_init_101, oX2_init_102, oX2_init_103, oX2_init_106, oX2_init_107, oX2_init_108, oX2_init_111, oX2_init_112, oX2_init_113, oX2_init_114, oX2_init_116, oX2_init_119, oX2_init_120, oX2_init_121, oX2_init_122, oX2_init_124, oX2_init_127, oX2_init_130, oX2_init_131, oX2_init_133, oX2_init_136, oX2_init_138, oX2_init_139, oX2_init_142, oX2_init_143, oX2_init_145, oX2_init_146, oX2_init_147, oX2_init_148, oX2_init_150, oX2_init_151, oX2_init_152, oX2_init_155, oX2_init_156, oX2_init_158, oX2_init_159, oX2_init_160, oX2_init_161, oX2_init_163, oX2_init_164, oX2_init_167, oX2_init_170, oX2_init_173, ⟨dX2_init_176, rfl⟩, trivial⟩
theorem ag3 : AllG yis 3 tb3 := ⟨oX3_init_0, oX3_init_1, oX3_init_4, oX3_init_5, oX3_init_8, oX3_init_9, oX3_init_11, oX3_init_14, oX3_init_17, oX3_init_18, oX3_init_21, oX3_init_22, oX3_init_24, oX3_init_27, oX3_init_30, oX3_init_31, oX3_init_34, oX3_init_35, ⟨dX3_init_38, rfl⟩, trivial⟩
theorem ag4 : AllG yis 4 tb4 := ⟨oX4_init_0, oX4_init_1, oX4_init_4, oX4_init_5, oX4_init_6, oX4_init_9, oX4_init_10, oX4_init_11, oX4_init_14, oX4_init_15, oX4_init_17, oX4_init_19, oX4_init_22, oX4_init_23, oX4_init_25, oX4_init_27, oX4_init_30, oX4_init_31, oX4_init_33, oX4_init_35, ⟨dX4_init_38, rfl⟩, trivial⟩
theorem ag5 : AllG yis 5 tb5 := ⟨oX5_init_0, oX5_init_1, oX5_init_4, oX5_init_5, oX5_init_7, oX5_init_10, oX5_init_13, oX5_init_14, oX5_init_16, oX5_init_18, oX5_init_21, oX5_init_22, oX5_init_24, oX5_init_26, oX5_init_29, oX5_init_30, oX5_init_31, oX5_init_34, oX5_init_35, oX5_init_38, oX5_init_39, oX5_init_41, oX5_init_44, oX5_init_47, oX5_init_48, oX5_init_51, oX5_init_52, oX5_init_54, oX5_init_57, oX5_init_60, oX5_init_61, oX5_init_62, oX5_init_63, oX5_init_65, oX5_init_68, oX5_init_69, oX5_init_72, oX5_init_73, oX5_init_76, oX5_init_77, oX5_init_80, oX5_init_81, oX5_init_84, ⟨dX5_init_87, rfl⟩, trivial⟩
theorem ag6 : AllG yis 6 tb6 := ⟨oX6_init_0, oX6_init_1, oX6_init_4, oX6_init_5, oX6_init_7, oX6_init_9, oX6_init_13, oX6_init_16, oX6_init_17, oX6_init_19, oX6_init_21, oX6_init_25, oX6_init_28, oX6_init_29, oX6_init_31, oX6_init_33, oX6_init_36, oX6_init_37, oX6_init_38, oX6_init_41, oX6_init_42, oX6_init_43, oX6_init_46, oX6_init_47, oX6_init_48, ⟨dX6_init_51, rfl⟩, trivial⟩
theorem ag7 : AllG yis 7 tb7 := ⟨oX7_init_0, oX7_init_1, oX7_init_4, oX7_init_5, oX7_init_8, oX7_init_9, oX7_init_12, oX7_init_15, oX7_init_16, oX7_init_18, oX7_init_20, oX7_init_23, oX7_init_24, oX7_init_26, oX7_init_28, oX7_init_31, oX7_init_32, oX7_init_34, oX7_init_36, oX7_init_39, oX7_init_40, oX7_init_41, oX7_init_42, oX7_init_44, oX7_init_47, oX7_init_48, oX7_init_51, oX7_init_52, oX7_init_53, oX7_init_54, oX7_init_55, oX7_init_58, oX7_init_59, oX7_init_60, oX7_init_61, oX7_init_64, oX7_init_67, oX7_init_68, oX7_init_71, oX7_init_72, oX7_init_73, oX7_init_76, oX7_init_78, oX7_init_80, oX7_init_83, oX7_init_86, oX7_init_87, oX7_init_90, oX7_init_91, oX7_init_92, oX7_init_95, oX7_init_96, oX7_init_99, oX7_init_102, oX7_init_105, oX7_init_106, oX7_init_109, oX7_init_110, oX7_init_111, oX7_init_114, oX7_init_117, oX7_init_120, oX7_init_121, oX7_init_124, oX7_init_125, oX7_init_128, oX7_init_131, oX7_init_132, oX7_init_135, oX7_init_136, oX7_init_139, oX7_init_142, oX7_init_143, oX7_init_144, ⟨dX7_init_147, rfl⟩, trivial⟩
theorem ag8 : AllG yis 8 tb8 := ⟨oX8_init_0, oX8_init_1, oX8_init_4, oX8_init_5, oX8_init_7, oX8_init_9, oX8_init_12, oX8_init_13, oX8_init_15, oX8_init_17, oX8_init_20, oX8_init_21, oX8_init_23, oX8_init_25, oX8_init_28, oX8_init_29, oX8_init_31, oX8_init_33, oX8_init_36, oX8_init_37, oX8_init_39, oX8_init_41, oX8_init_44, oX8_init_45, oX8_init_47, oX8_init_49, oX8_init_52, oX8_init_53, oX8_init_55, oX8_init_57, oX8_init_60, oX8_init_61, oX8_init_63, oX8_init_66, oX8_init_67, oX8_init_69, oX8_init_71, oX8_init_74, oX8_init_75, oX8_init_77, oX8_init_79, oX8_init_82, oX8_init_83, oX8_init_85, oX8_init_87, oX8_init_90, oX8_init_91, oX8_init_93, oX8_init_95, oX8_init_98, oX8_init_99, oX8_init_101, oX8_init_103, oX8_init_106, oX8_init_107, oX8_init_109, oX8_init_111, oX8_init_114, oX8_init_115, oX8_init_118, oX8_init_120, oX8_init_123, oX8_init_124, oX8_init_127, oX8_init_129, oX8_init_132, oX8_init_133, oX8_init_136, oX8_init_138, oX8_init_141, oX8_init_142, oX8_init_145, oX8_init_147, oX8_init_150, oX8_init_151, oX8_init_153, oX8_init_155, oX8_init_156, oX8_init_157, oX8_init_160, oX8_init_161, oX8_init_162, oX8_init_163, oX8_init_166, oX8_init_167, oX8_init_168, oX8_init_169, oX8_init_172, oX8_init_173, oX8_init_174, oX8_init_175, oX8_init_178, oX8_init_179, oX8_init_180, oX8_init_181, oX8_init_184, oX8_init_185, oX8_init_186, oX8_init_187, oX8_init_190, oX8_init_191, oX8_init_192, oX8_init_194, oX8_init_197, oX8_init_198, oX8_init_199, oX8_init_201, oX8_init_204, oX8_init_205, oX8_init_208, oX8_init_209, oX8_init_211, oX8_init_213, oX8_init_216, oX8_init_217, oX8_init_219, oX8_init_221, oX8_init_224, oX8_init_225, oX8_init_227, oX8_init_229, oX8_init_232, oX8_init_233, oX8_init_236, oX8_init_238, oX8_init_241, oX8_init_242, oX8_init_243, oX8_init_245, oX8_init_248, oX8_init_249, oX8_init_250, oX8_init_252, oX8_init_255, oX8_init_256, oX8_init_259, oX8_init_261, oX8_init_264, oX8_init_265, oX8_init_266, oX8_init_268, ⟨dX8_init_271, rfl⟩, trivial⟩
theorem ag9 : AllG yis 9 tb9 := ⟨oX0_setSmall_0, oX0_setSmall_1, oX0_setSmall_2, oX0_setSmall_5, oX0_setSmall_6, oX0_setSmall_7, ⟨dX0_setSmall_10, rfl⟩, trivial⟩
theorem ag10 : AllG yis 10 tb10 := ⟨oX0_append_0, oX0_append_1, oX0_append_2, oX0_append_3, oX0_append_6, oX0_append_7, oX0_append_10, oX0_append_11, oX0_append_14, oX0_append_15, oX0_append_18, oX0_append_19, oX0_append_22, oX0_append_23, oX0_append_26, oX0_append_27, oX0_append_28, oX0_append_29, oX0_append_30, oX0_append_33, oX0_append_34, oX0_append_35, ⟨dX0_append_38, rfl⟩, trivial⟩
theorem ag_all : ∀ mi, AllG yis mi (tbs mi)
  | 0 => ag0
  | 1 => ag1
  | 2 => ag2
  | 3 => ag3
  | 4 => ag4
  | 5 => ag5
  | 6 => ag6
  | 7 => ag7
  | 8 => ag8
  | 9 => ag9
  | 10 => ag10
  | _ + 11 => trivial
theorem mx_all : ∀ mi, mxs mi = (yis mi).2.2.1
  | 0 => rfl
  | 1 => rfl
  | 2 => rfl
  | 3 => rfl
  | 4 => rfl
  | 5 => rfl
  | 6 => rfl
  | 7 => rfl
  | 8 => rfl
  | 9 => rfl
  | _ + 10 => rfl
theorem pl_all : ∀ mi, plainName (yis mi).1.cls = true
  | 0 => plX0
  | 1 => plX1
  | 2 => plX2
  | 3 => plX3
  | 4 => plX4
  | 5 => plX5
  | 6 => plX6
  | 7 => plX7
  | 8 => plX8
  | 9 => plX0
  | _ + 10 => plX0
