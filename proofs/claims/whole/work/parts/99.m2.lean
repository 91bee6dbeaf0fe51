/-! ===== the sixteen cases of the law (written by wip/tools/gen_law.py) ===== -/
theorem tg0 : tg 0 = 7 := by decide +kernel
theorem tg261 : tg 261 = 8 := by decide +kernel
theorem cl_X7_node : CalV mL mX7_node 13 7 0 := ⟨⟨tw_329, tw_67, tw_332, nhX7, pdX7_node, by decide, by decide⟩, ⟨_, _, rfl⟩, by decide, tw_330, tw_331⟩
theorem cl_X8_node : CalV mL mX8_node 17 8 0 := ⟨⟨tw_815, tw_76, tw_818, nhX8, pdX8_node, by decide, by decide⟩, ⟨_, _, rfl⟩, by decide, tw_816, tw_817⟩
theorem cl_X7_arc : CalV mL mX7_arc 18 7 3 := ⟨⟨tw_357, tw_67, tw_360, nhX7, pdX7_arc, by decide, by decide⟩, ⟨_, _, rfl⟩, by decide, tw_358, tw_359⟩
theorem cl_X8_arc : CalV mL mX8_arc 22 8 3 := ⟨⟨tw_819, tw_76, tw_822, nhX8, pdX8_arc, by decide, by decide⟩, ⟨_, _, rfl⟩, by decide, tw_820, tw_821⟩
theorem cl_X7_change : CalV mL mX7_change 23 7 2 := ⟨⟨tw_373, tw_67, tw_376, nhX7, pdX7_change, by decide, by decide⟩, ⟨_, _, rfl⟩, by decide, tw_374, tw_375⟩
theorem cl_X8_change : CalV mL mX8_change 27 8 2 := ⟨⟨tw_827, tw_76, tw_830, nhX8, pdX8_change, by decide, by decide⟩, ⟨_, _, rfl⟩, by decide, tw_828, tw_829⟩
theorem cl_X7_choose : CalV mL mX7_choose 28 7 2 := ⟨⟨tw_382, tw_67, tw_385, nhX7, pdX7_choose, by decide, by decide⟩, ⟨_, _, rfl⟩, by decide, tw_383, tw_384⟩
theorem cl_X8_choose : CalV mL mX8_choose 32 8 2 := ⟨⟨tw_835, tw_76, tw_838, nhX8, pdX8_choose, by decide, by decide⟩, ⟨_, _, rfl⟩, by decide, tw_836, tw_837⟩
theorem cl_X7_far : CalV mL mX7_far 33 7 2 := ⟨⟨tw_387, tw_67, tw_390, nhX7, pdX7_far, by decide, by decide⟩, ⟨_, _, rfl⟩, by decide, tw_388, tw_389⟩
theorem cl_X8_far : CalV mL mX8_far 36 8 2 := ⟨⟨tw_843, tw_76, tw_846, nhX8, pdX8_far, by decide, by decide⟩, ⟨_, _, rfl⟩, by decide, tw_844, tw_845⟩
theorem cl_X7_ways : CalV mL mX7_ways 37 7 2 := ⟨⟨tw_410, tw_67, tw_413, nhX7, pdX7_ways, by decide, by decide⟩, ⟨_, _, rfl⟩, by decide, tw_411, tw_412⟩
theorem cl_X8_ways : CalV mL mX8_ways 40 8 2 := ⟨⟨tw_856, tw_76, tw_859, nhX8, pdX8_ways, by decide, by decide⟩, ⟨_, _, rfl⟩, by decide, tw_857, tw_858⟩
theorem cl_X7_stress : CalV mL mX7_stress 41 7 1 := ⟨⟨tw_414, tw_67, tw_417, nhX7, pdX7_stress, by decide, by decide⟩, ⟨_, _, rfl⟩, by decide, tw_415, tw_416⟩
theorem cl_X8_stress : CalV mL mX8_stress 45 8 1 := ⟨⟨tw_868, tw_76, tw_871, nhX8, pdX8_stress, by decide, by decide⟩, ⟨_, _, rfl⟩, by decide, tw_869, tw_870⟩
theorem cl_X7_between : CalV mL mX7_between 46 7 3 := ⟨⟨tw_427, tw_67, tw_430, nhX7, pdX7_between, by decide, by decide⟩, ⟨_, _, rfl⟩, by decide, tw_428, tw_429⟩
theorem cl_X8_between : CalV mL mX8_between 50 8 3 := ⟨⟨tw_881, tw_76, tw_884, nhX8, pdX8_between, by decide, by decide⟩, ⟨_, _, rfl⟩, by decide, tw_882, tw_883⟩
theorem cl_X7_arcBetween : CalV mL mX7_arcBetween 51 7 3 := ⟨⟨tw_495, tw_67, tw_498, nhX7, pdX7_arcBetween, by decide, by decide⟩, ⟨_, _, rfl⟩, by decide, tw_496, tw_497⟩
theorem cl_X8_arcBetween : CalV mL mX8_arcBetween 54 8 3 := ⟨⟨tw_939, tw_76, tw_942, nhX8, pdX8_arcBetween, by decide, by decide⟩, ⟨_, _, rfl⟩, by decide, tw_940, tw_941⟩
theorem cl_X7_group : CalV mL mX7_group 55 7 2 := ⟨⟨tw_511, tw_67, tw_514, nhX7, pdX7_group, by decide, by decide⟩, ⟨_, _, rfl⟩, by decide, tw_512, tw_513⟩
theorem cl_X8_group : CalV mL mX8_group 59 8 2 := ⟨⟨tw_943, tw_76, tw_946, nhX8, pdX8_group, by decide, by decide⟩, ⟨_, _, rfl⟩, by decide, tw_944, tw_945⟩
theorem cl_X7_harmonic : CalV mL mX7_harmonic 60 7 3 := ⟨⟨tw_523, tw_67, tw_526, nhX7, pdX7_harmonic, by decide, by decide⟩, ⟨_, _, rfl⟩, by decide, tw_524, tw_525⟩
theorem cl_X8_harmonic : CalV mL mX8_harmonic 63 8 3 := ⟨⟨tw_947, tw_76, tw_950, nhX8, pdX8_harmonic, by decide, by decide⟩, ⟨_, _, rfl⟩, by decide, tw_948, tw_949⟩
theorem cl_X7_close : CalV mL mX7_close 64 7 3 := ⟨⟨tw_531, tw_67, tw_534, nhX7, pdX7_close, by decide, by decide⟩, ⟨_, _, rfl⟩, by decide, tw_532, tw_533⟩
theorem cl_X8_close : CalV mL mX8_close 67 8 3 := ⟨⟨tw_951, tw_76, tw_954, nhX8, pdX8_close, by decide, by decide⟩, ⟨_, _, rfl⟩, by decide, tw_952, tw_953⟩
theorem cl_X7_top : CalV mL mX7_top 68 7 1 := ⟨⟨tw_539, tw_67, tw_542, nhX7, pdX7_top, by decide, by decide⟩, ⟨_, _, rfl⟩, by decide, tw_540, tw_541⟩
theorem cl_X8_top : CalV mL mX8_top 72 8 1 := ⟨⟨tw_955, tw_76, tw_958, nhX8, pdX8_top, by decide, by decide⟩, ⟨_, _, rfl⟩, by decide, tw_956, tw_957⟩
theorem cl_X7_resistance : CalV mL mX7_resistance 73 7 4 := ⟨⟨tw_568, tw_67, tw_571, nhX7, pdX7_resistance, by decide, by decide⟩, ⟨_, _, rfl⟩, by decide, tw_569, tw_570⟩
theorem cl_X8_resistance : CalV mL mX8_resistance 77 8 4 := ⟨⟨tw_967, tw_76, tw_970, nhX8, pdX8_resistance, by decide, by decide⟩, ⟨_, _, rfl⟩, by decide, tw_968, tw_969⟩
theorem cl_X7_carried : CalV mL mX7_carried 78 7 3 := ⟨⟨tw_666, tw_67, tw_669, nhX7, pdX7_carried, by decide, by decide⟩, ⟨_, _, rfl⟩, by decide, tw_667, tw_668⟩
theorem cl_X8_carried : CalV mL mX8_carried 81 8 3 := ⟨⟨tw_1019, tw_76, tw_1022, nhX8, pdX8_carried, by decide, by decide⟩, ⟨_, _, rfl⟩, by decide, tw_1020, tw_1021⟩
theorem cl_X7_told : CalV mL mX7_told 82 7 1 := ⟨⟨tw_687, tw_67, tw_690, nhX7, pdX7_told, by decide, by decide⟩, ⟨_, _, rfl⟩, by decide, tw_688, tw_689⟩
theorem cl_X8_told_ : CalV mL mX8_told_ 85 8 1 := ⟨⟨tw_1027, tw_76, tw_1030, nhX8, pdX8_told_, by decide, by decide⟩, ⟨_, _, rfl⟩, by decide, tw_1028, tw_1029⟩
def IV (M : Mem) : Prop := ∃ (G : Gr) (tn : Nat → Nat → Bool), InvC G tn M ∧ InvM G tn M
def Rdy (s : State) (D : va_G) (aC : Nat → ClassId) (b i : Nat) (ls : Array Slot) (H : Heap) (locs : List Loc) (M : Mem) : Prop := va_P D vwCl (wld s.heap.size aC M) H ∧ va_S (fun q => s.heap.size ≤ q) s.heap H locs ∧ lv_has ls 4 [(0, .ref b), (1, .ref (s.heap.size + 0)), (2, .ref (s.heap.size + 261)), (3, .int (nI i))]
section Cases
variable {p : Program} {l : Launch} {e : Env} {s : State} {m : MethodId} {below : List Frame} {meth : Method} {c : Code} {b L : Nat} {xs : Nat → Int32} {D : va_G} {aC : Nat → ClassId} {H : Heap} {locs : List Loc} {ls : Array Slot} {cells slots : Nat} {M : Mem} {G : Gr} {tn : Nat → Nat → Bool} {i : Nat}
theorem lc_0 (X : LX p s m meth c b L xs D aC) (hi : i + 5 ≤ L) (hC : InvC G tn M) (hM : InvM G tn M) (R : Rdy s D aC b i ls H locs M) (hcs : cells ≤ 600000) (hss : slots ≤ 7302250) (k : ∀ (M' : Mem) (H1 : Heap) (locs1 : List Loc), IV M' → Rdy s D aC b i ls H1 locs1 M' → W p l e room_1 s m #[Value.ref b] below meth c H1 locs1 cells slots (lw_Z below #[Value.ref b] s) (F0 m 678 ls [])) : W p l e room_1 s m #[Value.ref b] below meth c H locs cells slots (lw_Z below #[Value.ref b] s) (F0 m 112 ls []) := by
  obtain ⟨hx, hb, hr, hml, -⟩ := X.1
  obtain ⟨hP, hS, hl⟩ := R
  have hsz := hl.1
  have h0 := lv_at hl 0 rfl
  have h1 := lv_at hl 1 rfl
  have h2 := lv_at hl 2 rfl
  have h3 := lv_at hl 3 rfl
  obtain ⟨r, M1, M2, G', tn', a1, a2, a3, a4⟩ := st_node  hC hM
  refine lv_aload_n hx hb dL_law_112 rfl h1 ?_
  refine la_call X [] (a := 0) (rest := []) hP hS hsz dL_law_113 cl_X7_node tg0 (Nat.le_of_ble_eq_true rfl) (tX7_node tg0 a1) hcs hss rfl (fun r0 M0 H1 locs1 hq hP hS => ?_)
  obtain ⟨rfl, rfl⟩ := hq
  refine lv_aload_n hx hb dL_law_116 rfl h2 ?_
  refine la_call X [] (a := 261) (rest := [.int r]) hP hS hsz dL_law_117 cl_X8_node tg261 (Nat.le_of_ble_eq_true rfl) (tX8_node tg261 a2) hcs hss rfl (fun r0 M0 H1 locs1 hq hP hS => ?_)
  obtain ⟨rfl, rfl⟩ := hq
  refine lv_icmp_eq (tgt := 678) hx hb dL_law_120 (by decide) (fun _ => ?_) (fun z => absurd rfl z)
  exact k _ _ _ ⟨G', tn', a3, a4⟩ ⟨hP, hS, hl⟩
theorem lc_1 (X : LX p s m meth c b L xs D aC) (hi : i + 5 ≤ L) (hC : InvC G tn M) (hM : InvM G tn M) (R : Rdy s D aC b i ls H locs M) (hcs : cells ≤ 600000) (hss : slots ≤ 7302250) (k : ∀ (M' : Mem) (H1 : Heap) (locs1 : List Loc), IV M' → Rdy s D aC b i ls H1 locs1 M' → W p l e room_1 s m #[Value.ref b] below meth c H1 locs1 cells slots (lw_Z below #[Value.ref b] s) (F0 m 678 ls [])) : W p l e room_1 s m #[Value.ref b] below meth c H locs cells slots (lw_Z below #[Value.ref b] s) (F0 m 125 ls []) := by
  obtain ⟨hx, hb, hr, hml, -⟩ := X.1
  obtain ⟨hP, hS, hl⟩ := R
  have hsz := hl.1
  have h0 := lv_at hl 0 rfl
  have h1 := lv_at hl 1 rfl
  have h2 := lv_at hl 2 rfl
  have h3 := lv_at hl 3 rfl
  obtain ⟨r, M1, M2, G', tn', a1, a2, a3, a4⟩ := st_arc (xs (i + 1)) (xs (i + 2)) (xs (i + 3)) hC hM
  refine lv_aload_n hx hb dL_law_125 rfl h1 ?_
  refine la_arg X hS h0 h3 dL_law_126 dL_law_127 dL_law_128 dL_law_129 dL_law_130 (j := 1) rfl (by omega) ?_
  refine la_arg X hS h0 h3 dL_law_131 dL_law_132 dL_law_133 dL_law_134 dL_law_135 (j := 2) rfl (by omega) ?_
  refine la_arg X hS h0 h3 dL_law_136 dL_law_137 dL_law_138 dL_law_139 dL_law_140 (j := 3) rfl (by omega) ?_
  refine la_call X [xs (i + 1), xs (i + 2), xs (i + 3)] (a := 0) (rest := []) hP hS hsz dL_law_141 cl_X7_arc tg0 (Nat.le_of_ble_eq_true rfl) (tX7_arc tg0 a1) hcs hss rfl (fun r0 M0 H1 locs1 hq hP hS => ?_)
  obtain ⟨rfl, rfl⟩ := hq
  refine lv_aload_n hx hb dL_law_144 rfl h2 ?_
  refine la_arg X hS h0 h3 dL_law_145 dL_law_146 dL_law_147 dL_law_148 dL_law_149 (j := 1) rfl (by omega) ?_
  refine la_arg X hS h0 h3 dL_law_150 dL_law_151 dL_law_152 dL_law_153 dL_law_154 (j := 2) rfl (by omega) ?_
  refine la_arg X hS h0 h3 dL_law_155 dL_law_156 dL_law_157 dL_law_158 dL_law_159 (j := 3) rfl (by omega) ?_
  refine la_call X [xs (i + 1), xs (i + 2), xs (i + 3)] (a := 261) (rest := [.int r]) hP hS hsz dL_law_160 cl_X8_arc tg261 (Nat.le_of_ble_eq_true rfl) (tX8_arc tg261 a2) hcs hss rfl (fun r0 M0 H1 locs1 hq hP hS => ?_)
  obtain ⟨rfl, rfl⟩ := hq
  refine lv_icmp_eq (tgt := 678) hx hb dL_law_163 (by decide) (fun _ => ?_) (fun z => absurd rfl z)
  exact k _ _ _ ⟨G', tn', a3, a4⟩ ⟨hP, hS, hl⟩
theorem lc_2 (X : LX p s m meth c b L xs D aC) (hi : i + 5 ≤ L) (hC : InvC G tn M) (hM : InvM G tn M) (R : Rdy s D aC b i ls H locs M) (hcs : cells ≤ 600000) (hss : slots ≤ 7302250) (k : ∀ (M' : Mem) (H1 : Heap) (locs1 : List Loc), IV M' → Rdy s D aC b i ls H1 locs1 M' → W p l e room_1 s m #[Value.ref b] below meth c H1 locs1 cells slots (lw_Z below #[Value.ref b] s) (F0 m 678 ls [])) : W p l e room_1 s m #[Value.ref b] below meth c H locs cells slots (lw_Z below #[Value.ref b] s) (F0 m 168 ls []) := by
  obtain ⟨hx, hb, hr, hml, -⟩ := X.1
  obtain ⟨hP, hS, hl⟩ := R
  have hsz := hl.1
  have h0 := lv_at hl 0 rfl
  have h1 := lv_at hl 1 rfl
  have h2 := lv_at hl 2 rfl
  have h3 := lv_at hl 3 rfl
  obtain ⟨r, M1, M2, G', tn', a1, a2, a3, a4⟩ := st_change (xs (i + 1)) (xs (i + 2)) hC hM
  refine lv_aload_n hx hb dL_law_168 rfl h1 ?_
  refine la_arg X hS h0 h3 dL_law_169 dL_law_170 dL_law_171 dL_law_172 dL_law_173 (j := 1) rfl (by omega) ?_
  refine la_arg X hS h0 h3 dL_law_174 dL_law_175 dL_law_176 dL_law_177 dL_law_178 (j := 2) rfl (by omega) ?_
  refine la_call X [xs (i + 1), xs (i + 2)] (a := 0) (rest := []) hP hS hsz dL_law_179 cl_X7_change tg0 (Nat.le_of_ble_eq_true rfl) (tX7_change tg0 a1) hcs hss rfl (fun r0 M0 H1 locs1 hq hP hS => ?_)
  obtain ⟨rfl, rfl⟩ := hq
  refine lv_aload_n hx hb dL_law_182 rfl h2 ?_
  refine la_arg X hS h0 h3 dL_law_183 dL_law_184 dL_law_185 dL_law_186 dL_law_187 (j := 1) rfl (by omega) ?_
  refine la_arg X hS h0 h3 dL_law_188 dL_law_189 dL_law_190 dL_law_191 dL_law_192 (j := 2) rfl (by omega) ?_
  refine la_call X [xs (i + 1), xs (i + 2)] (a := 261) (rest := [.int r]) hP hS hsz dL_law_193 cl_X8_change tg261 (Nat.le_of_ble_eq_true rfl) (tX8_change tg261 a2) hcs hss rfl (fun r0 M0 H1 locs1 hq hP hS => ?_)
  obtain ⟨rfl, rfl⟩ := hq
  refine lv_icmp_eq (tgt := 678) hx hb dL_law_196 (by decide) (fun _ => ?_) (fun z => absurd rfl z)
  exact k _ _ _ ⟨G', tn', a3, a4⟩ ⟨hP, hS, hl⟩
theorem lc_3 (X : LX p s m meth c b L xs D aC) (hi : i + 5 ≤ L) (hC : InvC G tn M) (hM : InvM G tn M) (R : Rdy s D aC b i ls H locs M) (hcs : cells ≤ 600000) (hss : slots ≤ 7302250) (k : ∀ (M' : Mem) (H1 : Heap) (locs1 : List Loc), IV M' → Rdy s D aC b i ls H1 locs1 M' → W p l e room_1 s m #[Value.ref b] below meth c H1 locs1 cells slots (lw_Z below #[Value.ref b] s) (F0 m 678 ls [])) : W p l e room_1 s m #[Value.ref b] below meth c H locs cells slots (lw_Z below #[Value.ref b] s) (F0 m 201 ls []) := by
  obtain ⟨hx, hb, hr, hml, -⟩ := X.1
  obtain ⟨hP, hS, hl⟩ := R
  have hsz := hl.1
  have h0 := lv_at hl 0 rfl
  have h1 := lv_at hl 1 rfl
  have h2 := lv_at hl 2 rfl
  have h3 := lv_at hl 3 rfl
  obtain ⟨r, M1, M2, G', tn', a1, a2, a3, a4⟩ := st_choose (xs (i + 1)) (xs (i + 2)) hC hM
  refine lv_aload_n hx hb dL_law_201 rfl h1 ?_
  refine la_arg X hS h0 h3 dL_law_202 dL_law_203 dL_law_204 dL_law_205 dL_law_206 (j := 1) rfl (by omega) ?_
  refine la_arg X hS h0 h3 dL_law_207 dL_law_208 dL_law_209 dL_law_210 dL_law_211 (j := 2) rfl (by omega) ?_
  refine la_call X [xs (i + 1), xs (i + 2)] (a := 0) (rest := []) hP hS hsz dL_law_212 cl_X7_choose tg0 (Nat.le_of_ble_eq_true rfl) (tX7_choose tg0 a1) hcs hss rfl (fun r0 M0 H1 locs1 hq hP hS => ?_)
  obtain ⟨rfl, rfl⟩ := hq
  refine lv_aload_n hx hb dL_law_215 rfl h2 ?_
  refine la_arg X hS h0 h3 dL_law_216 dL_law_217 dL_law_218 dL_law_219 dL_law_220 (j := 1) rfl (by omega) ?_
  refine la_arg X hS h0 h3 dL_law_221 dL_law_222 dL_law_223 dL_law_224 dL_law_225 (j := 2) rfl (by omega) ?_
  refine la_call X [xs (i + 1), xs (i + 2)] (a := 261) (rest := [.int r]) hP hS hsz dL_law_226 cl_X8_choose tg261 (Nat.le_of_ble_eq_true rfl) (tX8_choose tg261 a2) hcs hss rfl (fun r0 M0 H1 locs1 hq hP hS => ?_)
  obtain ⟨rfl, rfl⟩ := hq
  refine lv_icmp_eq (tgt := 678) hx hb dL_law_229 (by decide) (fun _ => ?_) (fun z => absurd rfl z)
  exact k _ _ _ ⟨G', tn', a3, a4⟩ ⟨hP, hS, hl⟩
theorem lc_4 (X : LX p s m meth c b L xs D aC) (hi : i + 5 ≤ L) (hC : InvC G tn M) (hM : InvM G tn M) (R : Rdy s D aC b i ls H locs M) (hcs : cells ≤ 600000) (hss : slots ≤ 7302250) (k : ∀ (M' : Mem) (H1 : Heap) (locs1 : List Loc), IV M' → Rdy s D aC b i ls H1 locs1 M' → W p l e room_1 s m #[Value.ref b] below meth c H1 locs1 cells slots (lw_Z below #[Value.ref b] s) (F0 m 678 ls [])) : W p l e room_1 s m #[Value.ref b] below meth c H locs cells slots (lw_Z below #[Value.ref b] s) (F0 m 234 ls []) := by
  obtain ⟨hx, hb, hr, hml, -⟩ := X.1
  obtain ⟨hP, hS, hl⟩ := R
  have hsz := hl.1
  have h0 := lv_at hl 0 rfl
  have h1 := lv_at hl 1 rfl
  have h2 := lv_at hl 2 rfl
  have h3 := lv_at hl 3 rfl
  obtain ⟨r, M1, M2, G', tn', a1, a2, a3, a4⟩ := st_far (xs (i + 1)) (xs (i + 2)) hC hM
  refine lv_aload_n hx hb dL_law_234 rfl h1 ?_
  refine la_arg X hS h0 h3 dL_law_235 dL_law_236 dL_law_237 dL_law_238 dL_law_239 (j := 1) rfl (by omega) ?_
  refine la_arg X hS h0 h3 dL_law_240 dL_law_241 dL_law_242 dL_law_243 dL_law_244 (j := 2) rfl (by omega) ?_
  refine la_call X [xs (i + 1), xs (i + 2)] (a := 0) (rest := []) hP hS hsz dL_law_245 cl_X7_far tg0 (Nat.le_of_ble_eq_true rfl) (tX7_far tg0 a1) hcs hss rfl (fun r0 M0 H1 locs1 hq hP hS => ?_)
  obtain ⟨rfl, rfl⟩ := hq
  refine lv_aload_n hx hb dL_law_248 rfl h2 ?_
  refine la_arg X hS h0 h3 dL_law_249 dL_law_250 dL_law_251 dL_law_252 dL_law_253 (j := 1) rfl (by omega) ?_
  refine la_arg X hS h0 h3 dL_law_254 dL_law_255 dL_law_256 dL_law_257 dL_law_258 (j := 2) rfl (by omega) ?_
  refine la_call X [xs (i + 1), xs (i + 2)] (a := 261) (rest := [.int r]) hP hS hsz dL_law_259 cl_X8_far tg261 (Nat.le_of_ble_eq_true rfl) (tX8_far tg261 a2) hcs hss rfl (fun r0 M0 H1 locs1 hq hP hS => ?_)
  obtain ⟨rfl, rfl⟩ := hq
  refine lv_icmp_eq (tgt := 678) hx hb dL_law_262 (by decide) (fun _ => ?_) (fun z => absurd rfl z)
  exact k _ _ _ ⟨G', tn', a3, a4⟩ ⟨hP, hS, hl⟩
theorem lc_5 (X : LX p s m meth c b L xs D aC) (hi : i + 5 ≤ L) (hC : InvC G tn M) (hM : InvM G tn M) (R : Rdy s D aC b i ls H locs M) (hcs : cells ≤ 600000) (hss : slots ≤ 7302250) (k : ∀ (M' : Mem) (H1 : Heap) (locs1 : List Loc), IV M' → Rdy s D aC b i ls H1 locs1 M' → W p l e room_1 s m #[Value.ref b] below meth c H1 locs1 cells slots (lw_Z below #[Value.ref b] s) (F0 m 678 ls [])) : W p l e room_1 s m #[Value.ref b] below meth c H locs cells slots (lw_Z below #[Value.ref b] s) (F0 m 267 ls []) := by
  obtain ⟨hx, hb, hr, hml, -⟩ := X.1
  obtain ⟨hP, hS, hl⟩ := R
  have hsz := hl.1
  have h0 := lv_at hl 0 rfl
  have h1 := lv_at hl 1 rfl
  have h2 := lv_at hl 2 rfl
  have h3 := lv_at hl 3 rfl
  obtain ⟨r, M1, M2, G', tn', a1, a2, a3, a4⟩ := st_ways (xs (i + 1)) (xs (i + 2)) hC hM
  refine lv_aload_n hx hb dL_law_267 rfl h1 ?_
  refine la_arg X hS h0 h3 dL_law_268 dL_law_269 dL_law_270 dL_law_271 dL_law_272 (j := 1) rfl (by omega) ?_
  refine la_arg X hS h0 h3 dL_law_273 dL_law_274 dL_law_275 dL_law_276 dL_law_277 (j := 2) rfl (by omega) ?_
  refine la_call X [xs (i + 1), xs (i + 2)] (a := 0) (rest := []) hP hS hsz dL_law_278 cl_X7_ways tg0 (Nat.le_of_ble_eq_true rfl) (tX7_ways tg0 a1) hcs hss rfl (fun r0 M0 H1 locs1 hq hP hS => ?_)
  obtain ⟨rfl, rfl⟩ := hq
  refine lv_aload_n hx hb dL_law_281 rfl h2 ?_
  refine la_arg X hS h0 h3 dL_law_282 dL_law_283 dL_law_284 dL_law_285 dL_law_286 (j := 1) rfl (by omega) ?_
  refine la_arg X hS h0 h3 dL_law_287 dL_law_288 dL_law_289 dL_law_290 dL_law_291 (j := 2) rfl (by omega) ?_
  refine la_call X [xs (i + 1), xs (i + 2)] (a := 261) (rest := [.int r]) hP hS hsz dL_law_292 cl_X8_ways tg261 (Nat.le_of_ble_eq_true rfl) (tX8_ways tg261 a2) hcs hss rfl (fun r0 M0 H1 locs1 hq hP hS => ?_)
  obtain ⟨rfl, rfl⟩ := hq
  refine lv_icmp_eq (tgt := 678) hx hb dL_law_295 (by decide) (fun _ => ?_) (fun z => absurd rfl z)
  exact k _ _ _ ⟨G', tn', a3, a4⟩ ⟨hP, hS, hl⟩
theorem lc_6 (X : LX p s m meth c b L xs D aC) (hi : i + 5 ≤ L) (hC : InvC G tn M) (hM : InvM G tn M) (R : Rdy s D aC b i ls H locs M) (hcs : cells ≤ 600000) (hss : slots ≤ 7302250) (k : ∀ (M' : Mem) (H1 : Heap) (locs1 : List Loc), IV M' → Rdy s D aC b i ls H1 locs1 M' → W p l e room_1 s m #[Value.ref b] below meth c H1 locs1 cells slots (lw_Z below #[Value.ref b] s) (F0 m 678 ls [])) : W p l e room_1 s m #[Value.ref b] below meth c H locs cells slots (lw_Z below #[Value.ref b] s) (F0 m 300 ls []) := by
  obtain ⟨hx, hb, hr, hml, -⟩ := X.1
  obtain ⟨hP, hS, hl⟩ := R
  have hsz := hl.1
  have h0 := lv_at hl 0 rfl
  have h1 := lv_at hl 1 rfl
  have h2 := lv_at hl 2 rfl
  have h3 := lv_at hl 3 rfl
  obtain ⟨r, M1, M2, G', tn', a1, a2, a3, a4⟩ := st_stress (xs (i + 1)) hC hM
  refine lv_aload_n hx hb dL_law_300 rfl h1 ?_
  refine la_arg X hS h0 h3 dL_law_301 dL_law_302 dL_law_303 dL_law_304 dL_law_305 (j := 1) rfl (by omega) ?_
  refine la_call X [xs (i + 1)] (a := 0) (rest := []) hP hS hsz dL_law_306 cl_X7_stress tg0 (Nat.le_of_ble_eq_true rfl) (tX7_stress tg0 a1) hcs hss rfl (fun r0 M0 H1 locs1 hq hP hS => ?_)
  obtain ⟨rfl, rfl⟩ := hq
  refine lv_aload_n hx hb dL_law_309 rfl h2 ?_
  refine la_arg X hS h0 h3 dL_law_310 dL_law_311 dL_law_312 dL_law_313 dL_law_314 (j := 1) rfl (by omega) ?_
  refine la_call X [xs (i + 1)] (a := 261) (rest := [.long r]) hP hS hsz dL_law_315 cl_X8_stress tg261 (Nat.le_of_ble_eq_true rfl) (tX8_stress tg261 a2) hcs hss rfl (fun r0 M0 H1 locs1 hq hP hS => ?_)
  obtain ⟨rfl, rfl⟩ := hq
  refine W.lcmp hx hb dL_law_318 ?_
  refine lv_if_eq (tgt := 678) hx hb dL_law_319 (by decide) (fun _ => ?_) (fun z => absurd ((cmp_eq0 _ _).mpr rfl) z)
  exact k _ _ _ ⟨G', tn', a3, a4⟩ ⟨hP, hS, hl⟩
theorem lc_7 (X : LX p s m meth c b L xs D aC) (hi : i + 5 ≤ L) (hC : InvC G tn M) (hM : InvM G tn M) (R : Rdy s D aC b i ls H locs M) (hcs : cells ≤ 600000) (hss : slots ≤ 7302250) (k : ∀ (M' : Mem) (H1 : Heap) (locs1 : List Loc), IV M' → Rdy s D aC b i ls H1 locs1 M' → W p l e room_1 s m #[Value.ref b] below meth c H1 locs1 cells slots (lw_Z below #[Value.ref b] s) (F0 m 678 ls [])) : W p l e room_1 s m #[Value.ref b] below meth c H locs cells slots (lw_Z below #[Value.ref b] s) (F0 m 324 ls []) := by
  obtain ⟨hx, hb, hr, hml, -⟩ := X.1
  obtain ⟨hP, hS, hl⟩ := R
  have hsz := hl.1
  have h0 := lv_at hl 0 rfl
  have h1 := lv_at hl 1 rfl
  have h2 := lv_at hl 2 rfl
  have h3 := lv_at hl 3 rfl
  obtain ⟨r, M1, M2, G', tn', a1, a2, a3, a4⟩ := st_between (xs (i + 1)) (xs (i + 2)) (xs (i + 3)) hC hM
  refine lv_aload_n hx hb dL_law_324 rfl h1 ?_
  refine la_arg X hS h0 h3 dL_law_325 dL_law_326 dL_law_327 dL_law_328 dL_law_329 (j := 1) rfl (by omega) ?_
  refine la_arg X hS h0 h3 dL_law_330 dL_law_331 dL_law_332 dL_law_333 dL_law_334 (j := 2) rfl (by omega) ?_
  refine la_arg X hS h0 h3 dL_law_335 dL_law_336 dL_law_337 dL_law_338 dL_law_339 (j := 3) rfl (by omega) ?_
  refine la_call X [xs (i + 1), xs (i + 2), xs (i + 3)] (a := 0) (rest := []) hP hS hsz dL_law_340 cl_X7_between tg0 (Nat.le_of_ble_eq_true rfl) (tX7_between tg0 a1) hcs hss rfl (fun r0 M0 H1 locs1 hq hP hS => ?_)
  obtain ⟨rfl, rfl⟩ := hq
  refine lv_aload_n hx hb dL_law_343 rfl h2 ?_
  refine la_arg X hS h0 h3 dL_law_344 dL_law_345 dL_law_346 dL_law_347 dL_law_348 (j := 1) rfl (by omega) ?_
  refine la_arg X hS h0 h3 dL_law_349 dL_law_350 dL_law_351 dL_law_352 dL_law_353 (j := 2) rfl (by omega) ?_
  refine la_arg X hS h0 h3 dL_law_354 dL_law_355 dL_law_356 dL_law_357 dL_law_358 (j := 3) rfl (by omega) ?_
  refine la_call X [xs (i + 1), xs (i + 2), xs (i + 3)] (a := 261) (rest := [.long r]) hP hS hsz dL_law_359 cl_X8_between tg261 (Nat.le_of_ble_eq_true rfl) (tX8_between tg261 a2) hcs hss rfl (fun r0 M0 H1 locs1 hq hP hS => ?_)
  obtain ⟨rfl, rfl⟩ := hq
  refine W.lcmp hx hb dL_law_362 ?_
  refine lv_if_eq (tgt := 678) hx hb dL_law_363 (by decide) (fun _ => ?_) (fun z => absurd ((cmp_eq0 _ _).mpr rfl) z)
  exact k _ _ _ ⟨G', tn', a3, a4⟩ ⟨hP, hS, hl⟩
theorem lc_8 (X : LX p s m meth c b L xs D aC) (hi : i + 5 ≤ L) (hC : InvC G tn M) (hM : InvM G tn M) (R : Rdy s D aC b i ls H locs M) (hcs : cells ≤ 600000) (hss : slots ≤ 7302250) (k : ∀ (M' : Mem) (H1 : Heap) (locs1 : List Loc), IV M' → Rdy s D aC b i ls H1 locs1 M' → W p l e room_1 s m #[Value.ref b] below meth c H1 locs1 cells slots (lw_Z below #[Value.ref b] s) (F0 m 678 ls [])) : W p l e room_1 s m #[Value.ref b] below meth c H locs cells slots (lw_Z below #[Value.ref b] s) (F0 m 368 ls []) := by
  obtain ⟨hx, hb, hr, hml, -⟩ := X.1
  obtain ⟨hP, hS, hl⟩ := R
  have hsz := hl.1
  have h0 := lv_at hl 0 rfl
  have h1 := lv_at hl 1 rfl
  have h2 := lv_at hl 2 rfl
  have h3 := lv_at hl 3 rfl
  obtain ⟨r, M1, M2, G', tn', a1, a2, a3, a4⟩ := st_arcB (xs (i + 1)) (xs (i + 2)) (xs (i + 3)) hC hM
  refine lv_aload_n hx hb dL_law_368 rfl h1 ?_
  refine la_arg X hS h0 h3 dL_law_369 dL_law_370 dL_law_371 dL_law_372 dL_law_373 (j := 1) rfl (by omega) ?_
  refine la_arg X hS h0 h3 dL_law_374 dL_law_375 dL_law_376 dL_law_377 dL_law_378 (j := 2) rfl (by omega) ?_
  refine la_arg X hS h0 h3 dL_law_379 dL_law_380 dL_law_381 dL_law_382 dL_law_383 (j := 3) rfl (by omega) ?_
  refine la_call X [xs (i + 1), xs (i + 2), xs (i + 3)] (a := 0) (rest := []) hP hS hsz dL_law_384 cl_X7_arcBetween tg0 (Nat.le_of_ble_eq_true rfl) (tX7_arcBetween tg0 a1) hcs hss rfl (fun r0 M0 H1 locs1 hq hP hS => ?_)
  obtain ⟨rfl, rfl⟩ := hq
  refine lv_aload_n hx hb dL_law_387 rfl h2 ?_
  refine la_arg X hS h0 h3 dL_law_388 dL_law_389 dL_law_390 dL_law_391 dL_law_392 (j := 1) rfl (by omega) ?_
  refine la_arg X hS h0 h3 dL_law_393 dL_law_394 dL_law_395 dL_law_396 dL_law_397 (j := 2) rfl (by omega) ?_
  refine la_arg X hS h0 h3 dL_law_398 dL_law_399 dL_law_400 dL_law_401 dL_law_402 (j := 3) rfl (by omega) ?_
  refine la_call X [xs (i + 1), xs (i + 2), xs (i + 3)] (a := 261) (rest := [.long r]) hP hS hsz dL_law_403 cl_X8_arcBetween tg261 (Nat.le_of_ble_eq_true rfl) (tX8_arcBetween tg261 a2) hcs hss rfl (fun r0 M0 H1 locs1 hq hP hS => ?_)
  obtain ⟨rfl, rfl⟩ := hq
  refine W.lcmp hx hb dL_law_406 ?_
  refine lv_if_eq (tgt := 678) hx hb dL_law_407 (by decide) (fun _ => ?_) (fun z => absurd ((cmp_eq0 _ _).mpr rfl) z)
  exact k _ _ _ ⟨G', tn', a3, a4⟩ ⟨hP, hS, hl⟩
theorem lc_9 (X : LX p s m meth c b L xs D aC) (hi : i + 5 ≤ L) (hC : InvC G tn M) (hM : InvM G tn M) (R : Rdy s D aC b i ls H locs M) (hcs : cells ≤ 600000) (hss : slots ≤ 7302250) (k : ∀ (M' : Mem) (H1 : Heap) (locs1 : List Loc), IV M' → Rdy s D aC b i ls H1 locs1 M' → W p l e room_1 s m #[Value.ref b] below meth c H1 locs1 cells slots (lw_Z below #[Value.ref b] s) (F0 m 678 ls [])) : W p l e room_1 s m #[Value.ref b] below meth c H locs cells slots (lw_Z below #[Value.ref b] s) (F0 m 412 ls []) := by
  obtain ⟨hx, hb, hr, hml, -⟩ := X.1
  obtain ⟨hP, hS, hl⟩ := R
  have hsz := hl.1
  have h0 := lv_at hl 0 rfl
  have h1 := lv_at hl 1 rfl
  have h2 := lv_at hl 2 rfl
  have h3 := lv_at hl 3 rfl
  obtain ⟨r, M1, M2, G', tn', a1, a2, a3, a4⟩ := st_group (xs (i + 1)) (xs (i + 2)) hC hM
  refine lv_aload_n hx hb dL_law_412 rfl h1 ?_
  refine la_arg X hS h0 h3 dL_law_413 dL_law_414 dL_law_415 dL_law_416 dL_law_417 (j := 1) rfl (by omega) ?_
  refine la_arg X hS h0 h3 dL_law_418 dL_law_419 dL_law_420 dL_law_421 dL_law_422 (j := 2) rfl (by omega) ?_
  refine la_call X [xs (i + 1), xs (i + 2)] (a := 0) (rest := []) hP hS hsz dL_law_423 cl_X7_group tg0 (Nat.le_of_ble_eq_true rfl) (tX7_group tg0 a1) hcs hss rfl (fun r0 M0 H1 locs1 hq hP hS => ?_)
  obtain ⟨rfl, rfl⟩ := hq
  refine lv_aload_n hx hb dL_law_426 rfl h2 ?_
  refine la_arg X hS h0 h3 dL_law_427 dL_law_428 dL_law_429 dL_law_430 dL_law_431 (j := 1) rfl (by omega) ?_
  refine la_arg X hS h0 h3 dL_law_432 dL_law_433 dL_law_434 dL_law_435 dL_law_436 (j := 2) rfl (by omega) ?_
  refine la_call X [xs (i + 1), xs (i + 2)] (a := 261) (rest := [.long r]) hP hS hsz dL_law_437 cl_X8_group tg261 (Nat.le_of_ble_eq_true rfl) (tX8_group tg261 a2) hcs hss rfl (fun r0 M0 H1 locs1 hq hP hS => ?_)
  obtain ⟨rfl, rfl⟩ := hq
  refine W.lcmp hx hb dL_law_440 ?_
  refine lv_if_eq (tgt := 678) hx hb dL_law_441 (by decide) (fun _ => ?_) (fun z => absurd ((cmp_eq0 _ _).mpr rfl) z)
  exact k _ _ _ ⟨G', tn', a3, a4⟩ ⟨hP, hS, hl⟩
theorem lc_10 (X : LX p s m meth c b L xs D aC) (hi : i + 5 ≤ L) (hC : InvC G tn M) (hM : InvM G tn M) (R : Rdy s D aC b i ls H locs M) (hcs : cells ≤ 600000) (hss : slots ≤ 7302250) (k : ∀ (M' : Mem) (H1 : Heap) (locs1 : List Loc), IV M' → Rdy s D aC b i ls H1 locs1 M' → W p l e room_1 s m #[Value.ref b] below meth c H1 locs1 cells slots (lw_Z below #[Value.ref b] s) (F0 m 678 ls [])) : W p l e room_1 s m #[Value.ref b] below meth c H locs cells slots (lw_Z below #[Value.ref b] s) (F0 m 446 ls []) := by
  obtain ⟨hx, hb, hr, hml, -⟩ := X.1
  obtain ⟨hP, hS, hl⟩ := R
  have hsz := hl.1
  have h0 := lv_at hl 0 rfl
  have h1 := lv_at hl 1 rfl
  have h2 := lv_at hl 2 rfl
  have h3 := lv_at hl 3 rfl
  obtain ⟨r, M1, M2, G', tn', a1, a2, a3, a4⟩ := st_harm (xs (i + 1)) (xs (i + 2)) (xs (i + 3)) hC hM
  refine lv_aload_n hx hb dL_law_446 rfl h1 ?_
  refine la_arg X hS h0 h3 dL_law_447 dL_law_448 dL_law_449 dL_law_450 dL_law_451 (j := 1) rfl (by omega) ?_
  refine la_arg X hS h0 h3 dL_law_452 dL_law_453 dL_law_454 dL_law_455 dL_law_456 (j := 2) rfl (by omega) ?_
  refine la_arg X hS h0 h3 dL_law_457 dL_law_458 dL_law_459 dL_law_460 dL_law_461 (j := 3) rfl (by omega) ?_
  refine la_call X [xs (i + 1), xs (i + 2), xs (i + 3)] (a := 0) (rest := []) hP hS hsz dL_law_462 cl_X7_harmonic tg0 (Nat.le_of_ble_eq_true rfl) (tX7_harmonic tg0 a1) hcs hss rfl (fun r0 M0 H1 locs1 hq hP hS => ?_)
  obtain ⟨rfl, rfl⟩ := hq
  refine lv_aload_n hx hb dL_law_465 rfl h2 ?_
  refine la_arg X hS h0 h3 dL_law_466 dL_law_467 dL_law_468 dL_law_469 dL_law_470 (j := 1) rfl (by omega) ?_
  refine la_arg X hS h0 h3 dL_law_471 dL_law_472 dL_law_473 dL_law_474 dL_law_475 (j := 2) rfl (by omega) ?_
  refine la_arg X hS h0 h3 dL_law_476 dL_law_477 dL_law_478 dL_law_479 dL_law_480 (j := 3) rfl (by omega) ?_
  refine la_call X [xs (i + 1), xs (i + 2), xs (i + 3)] (a := 261) (rest := [.long r]) hP hS hsz dL_law_481 cl_X8_harmonic tg261 (Nat.le_of_ble_eq_true rfl) (tX8_harmonic tg261 a2) hcs hss rfl (fun r0 M0 H1 locs1 hq hP hS => ?_)
  obtain ⟨rfl, rfl⟩ := hq
  refine W.lcmp hx hb dL_law_484 ?_
  refine lv_if_eq (tgt := 678) hx hb dL_law_485 (by decide) (fun _ => ?_) (fun z => absurd ((cmp_eq0 _ _).mpr rfl) z)
  exact k _ _ _ ⟨G', tn', a3, a4⟩ ⟨hP, hS, hl⟩
theorem lc_11 (X : LX p s m meth c b L xs D aC) (hi : i + 5 ≤ L) (hC : InvC G tn M) (hM : InvM G tn M) (R : Rdy s D aC b i ls H locs M) (hcs : cells ≤ 600000) (hss : slots ≤ 7302250) (k : ∀ (M' : Mem) (H1 : Heap) (locs1 : List Loc), IV M' → Rdy s D aC b i ls H1 locs1 M' → W p l e room_1 s m #[Value.ref b] below meth c H1 locs1 cells slots (lw_Z below #[Value.ref b] s) (F0 m 678 ls [])) : W p l e room_1 s m #[Value.ref b] below meth c H locs cells slots (lw_Z below #[Value.ref b] s) (F0 m 490 ls []) := by
  obtain ⟨hx, hb, hr, hml, -⟩ := X.1
  obtain ⟨hP, hS, hl⟩ := R
  have hsz := hl.1
  have h0 := lv_at hl 0 rfl
  have h1 := lv_at hl 1 rfl
  have h2 := lv_at hl 2 rfl
  have h3 := lv_at hl 3 rfl
  obtain ⟨r, M1, M2, G', tn', a1, a2, a3, a4⟩ := st_close (xs (i + 1)) (xs (i + 2)) (xs (i + 3)) hC hM
  refine lv_aload_n hx hb dL_law_490 rfl h1 ?_
  refine la_arg X hS h0 h3 dL_law_491 dL_law_492 dL_law_493 dL_law_494 dL_law_495 (j := 1) rfl (by omega) ?_
  refine la_arg X hS h0 h3 dL_law_496 dL_law_497 dL_law_498 dL_law_499 dL_law_500 (j := 2) rfl (by omega) ?_
  refine la_arg X hS h0 h3 dL_law_501 dL_law_502 dL_law_503 dL_law_504 dL_law_505 (j := 3) rfl (by omega) ?_
  refine la_call X [xs (i + 1), xs (i + 2), xs (i + 3)] (a := 0) (rest := []) hP hS hsz dL_law_506 cl_X7_close tg0 (Nat.le_of_ble_eq_true rfl) (tX7_close tg0 a1) hcs hss rfl (fun r0 M0 H1 locs1 hq hP hS => ?_)
  obtain ⟨rfl, rfl⟩ := hq
  refine lv_aload_n hx hb dL_law_509 rfl h2 ?_
  refine la_arg X hS h0 h3 dL_law_510 dL_law_511 dL_law_512 dL_law_513 dL_law_514 (j := 1) rfl (by omega) ?_
  refine la_arg X hS h0 h3 dL_law_515 dL_law_516 dL_law_517 dL_law_518 dL_law_519 (j := 2) rfl (by omega) ?_
  refine la_arg X hS h0 h3 dL_law_520 dL_law_521 dL_law_522 dL_law_523 dL_law_524 (j := 3) rfl (by omega) ?_
  refine la_call X [xs (i + 1), xs (i + 2), xs (i + 3)] (a := 261) (rest := [.long r]) hP hS hsz dL_law_525 cl_X8_close tg261 (Nat.le_of_ble_eq_true rfl) (tX8_close tg261 a2) hcs hss rfl (fun r0 M0 H1 locs1 hq hP hS => ?_)
  obtain ⟨rfl, rfl⟩ := hq
  refine W.lcmp hx hb dL_law_528 ?_
  refine lv_if_eq (tgt := 678) hx hb dL_law_529 (by decide) (fun _ => ?_) (fun z => absurd ((cmp_eq0 _ _).mpr rfl) z)
  exact k _ _ _ ⟨G', tn', a3, a4⟩ ⟨hP, hS, hl⟩
theorem lc_12 (X : LX p s m meth c b L xs D aC) (hi : i + 5 ≤ L) (hC : InvC G tn M) (hM : InvM G tn M) (R : Rdy s D aC b i ls H locs M) (hcs : cells ≤ 600000) (hss : slots ≤ 7302250) (k : ∀ (M' : Mem) (H1 : Heap) (locs1 : List Loc), IV M' → Rdy s D aC b i ls H1 locs1 M' → W p l e room_1 s m #[Value.ref b] below meth c H1 locs1 cells slots (lw_Z below #[Value.ref b] s) (F0 m 678 ls [])) : W p l e room_1 s m #[Value.ref b] below meth c H locs cells slots (lw_Z below #[Value.ref b] s) (F0 m 534 ls []) := by
  obtain ⟨hx, hb, hr, hml, -⟩ := X.1
  obtain ⟨hP, hS, hl⟩ := R
  have hsz := hl.1
  have h0 := lv_at hl 0 rfl
  have h1 := lv_at hl 1 rfl
  have h2 := lv_at hl 2 rfl
  have h3 := lv_at hl 3 rfl
  obtain ⟨r, M1, M2, G', tn', a1, a2, a3, a4⟩ := st_top (xs (i + 1)) hC hM
  refine lv_aload_n hx hb dL_law_534 rfl h1 ?_
  refine la_arg X hS h0 h3 dL_law_535 dL_law_536 dL_law_537 dL_law_538 dL_law_539 (j := 1) rfl (by omega) ?_
  refine la_call X [xs (i + 1)] (a := 0) (rest := []) hP hS hsz dL_law_540 cl_X7_top tg0 (Nat.le_of_ble_eq_true rfl) (tX7_top tg0 a1) hcs hss rfl (fun r0 M0 H1 locs1 hq hP hS => ?_)
  obtain ⟨rfl, rfl⟩ := hq
  refine lv_aload_n hx hb dL_law_543 rfl h2 ?_
  refine la_arg X hS h0 h3 dL_law_544 dL_law_545 dL_law_546 dL_law_547 dL_law_548 (j := 1) rfl (by omega) ?_
  refine la_call X [xs (i + 1)] (a := 261) (rest := [.int r]) hP hS hsz dL_law_549 cl_X8_top tg261 (Nat.le_of_ble_eq_true rfl) (tX8_top tg261 a2) hcs hss rfl (fun r0 M0 H1 locs1 hq hP hS => ?_)
  obtain ⟨rfl, rfl⟩ := hq
  refine lv_icmp_eq (tgt := 678) hx hb dL_law_552 (by decide) (fun _ => ?_) (fun z => absurd rfl z)
  exact k _ _ _ ⟨G', tn', a3, a4⟩ ⟨hP, hS, hl⟩
theorem lc_13 (X : LX p s m meth c b L xs D aC) (hi : i + 5 ≤ L) (hC : InvC G tn M) (hM : InvM G tn M) (R : Rdy s D aC b i ls H locs M) (hcs : cells ≤ 600000) (hss : slots ≤ 7302250) (k : ∀ (M' : Mem) (H1 : Heap) (locs1 : List Loc), IV M' → Rdy s D aC b i ls H1 locs1 M' → W p l e room_1 s m #[Value.ref b] below meth c H1 locs1 cells slots (lw_Z below #[Value.ref b] s) (F0 m 678 ls [])) : W p l e room_1 s m #[Value.ref b] below meth c H locs cells slots (lw_Z below #[Value.ref b] s) (F0 m 557 ls []) := by
  obtain ⟨hx, hb, hr, hml, -⟩ := X.1
  obtain ⟨hP, hS, hl⟩ := R
  have hsz := hl.1
  have h0 := lv_at hl 0 rfl
  have h1 := lv_at hl 1 rfl
  have h2 := lv_at hl 2 rfl
  have h3 := lv_at hl 3 rfl
  obtain ⟨r, M1, M2, G', tn', a1, a2, a3, a4⟩ := st_resist (xs (i + 1)) (xs (i + 2)) (xs (i + 3)) (xs (i + 4)) hC hM
  refine lv_aload_n hx hb dL_law_557 rfl h1 ?_
  refine la_arg X hS h0 h3 dL_law_558 dL_law_559 dL_law_560 dL_law_561 dL_law_562 (j := 1) rfl (by omega) ?_
  refine la_arg X hS h0 h3 dL_law_563 dL_law_564 dL_law_565 dL_law_566 dL_law_567 (j := 2) rfl (by omega) ?_
  refine la_arg X hS h0 h3 dL_law_568 dL_law_569 dL_law_570 dL_law_571 dL_law_572 (j := 3) rfl (by omega) ?_
  refine la_arg X hS h0 h3 dL_law_573 dL_law_574 dL_law_575 dL_law_576 dL_law_577 (j := 4) rfl (by omega) ?_
  refine la_call X [xs (i + 1), xs (i + 2), xs (i + 3), xs (i + 4)] (a := 0) (rest := []) hP hS hsz dL_law_578 cl_X7_resistance tg0 (Nat.le_of_ble_eq_true rfl) (tX7_resistance tg0 a1) hcs hss rfl (fun r0 M0 H1 locs1 hq hP hS => ?_)
  obtain ⟨rfl, rfl⟩ := hq
  refine lv_aload_n hx hb dL_law_581 rfl h2 ?_
  refine la_arg X hS h0 h3 dL_law_582 dL_law_583 dL_law_584 dL_law_585 dL_law_586 (j := 1) rfl (by omega) ?_
  refine la_arg X hS h0 h3 dL_law_587 dL_law_588 dL_law_589 dL_law_590 dL_law_591 (j := 2) rfl (by omega) ?_
  refine la_arg X hS h0 h3 dL_law_592 dL_law_593 dL_law_594 dL_law_595 dL_law_596 (j := 3) rfl (by omega) ?_
  refine la_arg X hS h0 h3 dL_law_597 dL_law_598 dL_law_599 dL_law_600 dL_law_601 (j := 4) rfl (by omega) ?_
  refine la_call X [xs (i + 1), xs (i + 2), xs (i + 3), xs (i + 4)] (a := 261) (rest := [.long r]) hP hS hsz dL_law_602 cl_X8_resistance tg261 (Nat.le_of_ble_eq_true rfl) (tX8_resistance tg261 a2) hcs hss rfl (fun r0 M0 H1 locs1 hq hP hS => ?_)
  obtain ⟨rfl, rfl⟩ := hq
  refine W.lcmp hx hb dL_law_605 ?_
  refine lv_if_eq (tgt := 678) hx hb dL_law_606 (by decide) (fun _ => ?_) (fun z => absurd ((cmp_eq0 _ _).mpr rfl) z)
  exact k _ _ _ ⟨G', tn', a3, a4⟩ ⟨hP, hS, hl⟩
theorem lc_14 (X : LX p s m meth c b L xs D aC) (hi : i + 5 ≤ L) (hC : InvC G tn M) (hM : InvM G tn M) (R : Rdy s D aC b i ls H locs M) (hcs : cells ≤ 600000) (hss : slots ≤ 7302250) (k : ∀ (M' : Mem) (H1 : Heap) (locs1 : List Loc), IV M' → Rdy s D aC b i ls H1 locs1 M' → W p l e room_1 s m #[Value.ref b] below meth c H1 locs1 cells slots (lw_Z below #[Value.ref b] s) (F0 m 678 ls [])) : W p l e room_1 s m #[Value.ref b] below meth c H locs cells slots (lw_Z below #[Value.ref b] s) (F0 m 611 ls []) := by
  obtain ⟨hx, hb, hr, hml, -⟩ := X.1
  obtain ⟨hP, hS, hl⟩ := R
  have hsz := hl.1
  have h0 := lv_at hl 0 rfl
  have h1 := lv_at hl 1 rfl
  have h2 := lv_at hl 2 rfl
  have h3 := lv_at hl 3 rfl
  obtain ⟨r, M1, M2, G', tn', a1, a2, a3, a4⟩ := st_carried (xs (i + 1)) (xs (i + 2)) (xs (i + 3)) hC hM
  refine lv_aload_n hx hb dL_law_611 rfl h1 ?_
  refine la_arg X hS h0 h3 dL_law_612 dL_law_613 dL_law_614 dL_law_615 dL_law_616 (j := 1) rfl (by omega) ?_
  refine la_arg X hS h0 h3 dL_law_617 dL_law_618 dL_law_619 dL_law_620 dL_law_621 (j := 2) rfl (by omega) ?_
  refine la_arg X hS h0 h3 dL_law_622 dL_law_623 dL_law_624 dL_law_625 dL_law_626 (j := 3) rfl (by omega) ?_
  refine la_call X [xs (i + 1), xs (i + 2), xs (i + 3)] (a := 0) (rest := []) hP hS hsz dL_law_627 cl_X7_carried tg0 (Nat.le_of_ble_eq_true rfl) (tX7_carried tg0 a1) hcs hss rfl (fun r0 M0 H1 locs1 hq hP hS => ?_)
  obtain ⟨rfl, rfl⟩ := hq
  refine lv_aload_n hx hb dL_law_630 rfl h2 ?_
  refine la_arg X hS h0 h3 dL_law_631 dL_law_632 dL_law_633 dL_law_634 dL_law_635 (j := 1) rfl (by omega) ?_
  refine la_arg X hS h0 h3 dL_law_636 dL_law_637 dL_law_638 dL_law_639 dL_law_640 (j := 2) rfl (by omega) ?_
  refine la_arg X hS h0 h3 dL_law_641 dL_law_642 dL_law_643 dL_law_644 dL_law_645 (j := 3) rfl (by omega) ?_
  refine la_call X [xs (i + 1), xs (i + 2), xs (i + 3)] (a := 261) (rest := [.long r]) hP hS hsz dL_law_646 cl_X8_carried tg261 (Nat.le_of_ble_eq_true rfl) (tX8_carried tg261 a2) hcs hss rfl (fun r0 M0 H1 locs1 hq hP hS => ?_)
  obtain ⟨rfl, rfl⟩ := hq
  refine W.lcmp hx hb dL_law_649 ?_
  refine lv_if_eq (tgt := 678) hx hb dL_law_650 (by decide) (fun _ => ?_) (fun z => absurd ((cmp_eq0 _ _).mpr rfl) z)
  exact k _ _ _ ⟨G', tn', a3, a4⟩ ⟨hP, hS, hl⟩
theorem lc_15 (X : LX p s m meth c b L xs D aC) (hi : i + 5 ≤ L) (hC : InvC G tn M) (hM : InvM G tn M) (R : Rdy s D aC b i ls H locs M) (hcs : cells ≤ 600000) (hss : slots ≤ 7302250) (k : ∀ (M' : Mem) (H1 : Heap) (locs1 : List Loc), IV M' → Rdy s D aC b i ls H1 locs1 M' → W p l e room_1 s m #[Value.ref b] below meth c H1 locs1 cells slots (lw_Z below #[Value.ref b] s) (F0 m 678 ls [])) : W p l e room_1 s m #[Value.ref b] below meth c H locs cells slots (lw_Z below #[Value.ref b] s) (F0 m 655 ls []) := by
  obtain ⟨hx, hb, hr, hml, -⟩ := X.1
  obtain ⟨hP, hS, hl⟩ := R
  have hsz := hl.1
  have h0 := lv_at hl 0 rfl
  have h1 := lv_at hl 1 rfl
  have h2 := lv_at hl 2 rfl
  have h3 := lv_at hl 3 rfl
  obtain ⟨r, M1, M2, G', tn', a1, a2, a3, a4⟩ := st_told (xs (i + 1)) hC hM
  refine lv_aload_n hx hb dL_law_655 rfl h1 ?_
  refine la_arg X hS h0 h3 dL_law_656 dL_law_657 dL_law_658 dL_law_659 dL_law_660 (j := 1) rfl (by omega) ?_
  refine la_call X [xs (i + 1)] (a := 0) (rest := []) hP hS hsz dL_law_661 cl_X7_told tg0 (Nat.le_of_ble_eq_true rfl) (tX7_told tg0 a1) hcs hss rfl (fun r0 M0 H1 locs1 hq hP hS => ?_)
  obtain ⟨rfl, rfl⟩ := hq
  refine lv_aload_n hx hb dL_law_664 rfl h2 ?_
  refine la_arg X hS h0 h3 dL_law_665 dL_law_666 dL_law_667 dL_law_668 dL_law_669 (j := 1) rfl (by omega) ?_
  refine la_call X [xs (i + 1)] (a := 261) (rest := [.int r]) hP hS hsz dL_law_670 cl_X8_told_ tg261 (Nat.le_of_ble_eq_true rfl) (tX8_told_ tg261 a2) hcs hss rfl (fun r0 M0 H1 locs1 hq hP hS => ?_)
  obtain ⟨rfl, rfl⟩ := hq
  refine lv_icmp_eq (tgt := 678) hx hb dL_law_673 (by decide) (fun _ => ?_) (fun z => absurd rfl z)
  exact k _ _ _ ⟨G', tn', a3, a4⟩ ⟨hP, hS, hl⟩
end Cases
