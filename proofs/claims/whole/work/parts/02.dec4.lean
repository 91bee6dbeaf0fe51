theorem dX8_arcBetween_168 : decode cX8_arcBetween 168 = .ok (.invokevirtual 130, 3) := by decide +kernel
theorem dX8_arcBetween_171 : decode cX8_arcBetween 171 = .ok (.laload, 1) := by decide +kernel
theorem dX8_arcBetween_172 : decode cX8_arcBetween 172 = .ok (.aload_n 0, 1) := by decide +kernel
theorem dX8_arcBetween_173 : decode cX8_arcBetween 173 = .ok (.getfield 26, 3) := by decide +kernel
theorem dX8_arcBetween_176 : decode cX8_arcBetween 176 = .ok (.aload_n 0, 1) := by decide +kernel
theorem dX8_arcBetween_177 : decode cX8_arcBetween 177 = .ok (.aload_n 0, 1) := by decide +kernel
theorem dX8_arcBetween_178 : decode cX8_arcBetween 178 = .ok (.getfield 13, 3) := by decide +kernel
theorem dX8_arcBetween_181 : decode cX8_arcBetween 181 = .ok (.iload_n 1, 1) := by decide +kernel
theorem dX8_arcBetween_182 : decode cX8_arcBetween 182 = .ok (.iaload, 1) := by decide +kernel
theorem dX8_arcBetween_183 : decode cX8_arcBetween 183 = .ok (.iload 5, 2) := by decide +kernel
theorem dX8_arcBetween_185 : decode cX8_arcBetween 185 = .ok (.invokevirtual 130, 3) := by decide +kernel
theorem dX8_arcBetween_188 : decode cX8_arcBetween 188 = .ok (.laload, 1) := by decide +kernel
theorem dX8_arcBetween_189 : decode cX8_arcBetween 189 = .ok (.lmul, 1) := by decide +kernel
theorem dX8_arcBetween_190 : decode cX8_arcBetween 190 = .ok (.aload_n 0, 1) := by decide +kernel
theorem dX8_arcBetween_191 : decode cX8_arcBetween 191 = .ok (.getfield 26, 3) := by decide +kernel
theorem dX8_arcBetween_194 : decode cX8_arcBetween 194 = .ok (.aload_n 0, 1) := by decide +kernel
theorem dX8_arcBetween_195 : decode cX8_arcBetween 195 = .ok (.iload 4, 2) := by decide +kernel
theorem dX8_arcBetween_197 : decode cX8_arcBetween 197 = .ok (.iload 5, 2) := by decide +kernel
theorem dX8_arcBetween_199 : decode cX8_arcBetween 199 = .ok (.invokevirtual 130, 3) := by decide +kernel
theorem dX8_arcBetween_202 : decode cX8_arcBetween 202 = .ok (.laload, 1) := by decide +kernel
theorem dX8_arcBetween_203 : decode cX8_arcBetween 203 = .ok (.invokevirtual 204, 3) := by decide +kernel
theorem dX8_arcBetween_206 : decode cX8_arcBetween 206 = .ok (.iinc 5 1, 3) := by decide +kernel
theorem dX8_arcBetween_209 : decode cX8_arcBetween 209 = .ok (.goto (-148), 3) := by decide +kernel
theorem dX8_arcBetween_212 : decode cX8_arcBetween 212 = .ok (.iinc 4 1, 3) := by decide +kernel
theorem dX8_arcBetween_215 : decode cX8_arcBetween 215 = .ok (.goto (-166), 3) := by decide +kernel
theorem dX8_arcBetween_218 : decode cX8_arcBetween 218 = .ok (.aload_n 0, 1) := by decide +kernel
theorem dX8_arcBetween_219 : decode cX8_arcBetween 219 = .ok (.iload_n 2, 1) := by decide +kernel
theorem dX8_arcBetween_220 : decode cX8_arcBetween 220 = .ok (.iload_n 3, 1) := by decide +kernel
theorem dX8_arcBetween_221 : decode cX8_arcBetween 221 = .ok (.invokevirtual 219, 3) := by decide +kernel
theorem dX8_arcBetween_224 : decode cX8_arcBetween 224 = .ok (.lreturn, 1) := by decide +kernel
theorem dX8_group_0 : decode cX8_group 0 = .ok (.iload_n 1, 1) := by decide +kernel
theorem dX8_group_1 : decode cX8_group 1 = .ok (.iload_n 2, 1) := by decide +kernel
theorem dX8_group_2 : decode cX8_group 2 = .ok (.invokestatic 208, 3) := by decide +kernel
theorem dX8_group_5 : decode cX8_group 5 = .ok (.ifCond .ne 7, 3) := by decide +kernel
theorem dX8_group_8 : decode cX8_group 8 = .ok (.ldc2_w 146, 3) := by decide +kernel
theorem dX8_group_11 : decode cX8_group 11 = .ok (.lreturn, 1) := by decide +kernel
theorem dX8_group_12 : decode cX8_group 12 = .ok (.aload_n 0, 1) := by decide +kernel
theorem dX8_group_13 : decode cX8_group 13 = .ok (.iconst 3, 1) := by decide +kernel
theorem dX8_group_14 : decode cX8_group 14 = .ok (.iconst 0, 1) := by decide +kernel
theorem dX8_group_15 : decode cX8_group 15 = .ok (.iconst 0, 1) := by decide +kernel
theorem dX8_group_16 : decode cX8_group 16 = .ok (.invokevirtual 211, 3) := by decide +kernel
theorem dX8_group_19 : decode cX8_group 19 = .ok (.ifCond .ne 10, 3) := by decide +kernel
theorem dX8_group_22 : decode cX8_group 22 = .ok (.aload_n 0, 1) := by decide +kernel
theorem dX8_group_23 : decode cX8_group 23 = .ok (.iload_n 1, 1) := by decide +kernel
theorem dX8_group_24 : decode cX8_group 24 = .ok (.iload_n 2, 1) := by decide +kernel
theorem dX8_group_25 : decode cX8_group 25 = .ok (.invokevirtual 219, 3) := by decide +kernel
theorem dX8_group_28 : decode cX8_group 28 = .ok (.lreturn, 1) := by decide +kernel
theorem dX8_group_29 : decode cX8_group 29 = .ok (.aload_n 0, 1) := by decide +kernel
theorem dX8_group_30 : decode cX8_group 30 = .ok (.invokevirtual 201, 3) := by decide +kernel
theorem dX8_group_33 : decode cX8_group 33 = .ok (.aload_n 0, 1) := by decide +kernel
theorem dX8_group_34 : decode cX8_group 34 = .ok (.iconst 1, 1) := by decide +kernel
theorem dX8_group_35 : decode cX8_group 35 = .ok (.invokevirtual 142, 3) := by decide +kernel
theorem dX8_group_38 : decode cX8_group 38 = .ok (.iconst 0, 1) := by decide +kernel
theorem dX8_group_39 : decode cX8_group 39 = .ok (.istore_n 3, 1) := by decide +kernel
theorem dX8_group_40 : decode cX8_group 40 = .ok (.iload_n 3, 1) := by decide +kernel
theorem dX8_group_41 : decode cX8_group 41 = .ok (.bipush 100, 2) := by decide +kernel
theorem dX8_group_43 : decode cX8_group 43 = .ok (.if_icmp .ge 21, 3) := by decide +kernel
theorem dX8_group_46 : decode cX8_group 46 = .ok (.aload_n 0, 1) := by decide +kernel
theorem dX8_group_47 : decode cX8_group 47 = .ok (.getfield 30, 3) := by decide +kernel
theorem dX8_group_50 : decode cX8_group 50 = .ok (.iload_n 3, 1) := by decide +kernel
theorem dX8_group_51 : decode cX8_group 51 = .ok (.aload_n 0, 1) := by decide +kernel
theorem dX8_group_52 : decode cX8_group 52 = .ok (.getfield 26, 3) := by decide +kernel
theorem dX8_group_55 : decode cX8_group 55 = .ok (.iload_n 3, 1) := by decide +kernel
theorem dX8_group_56 : decode cX8_group 56 = .ok (.laload, 1) := by decide +kernel
theorem dX8_group_57 : decode cX8_group 57 = .ok (.lastore, 1) := by decide +kernel
theorem dX8_group_58 : decode cX8_group 58 = .ok (.iinc 3 1, 3) := by decide +kernel
theorem dX8_group_61 : decode cX8_group 61 = .ok (.goto (-21), 3) := by decide +kernel
theorem dX8_group_64 : decode cX8_group 64 = .ok (.aload_n 0, 1) := by decide +kernel
theorem dX8_group_65 : decode cX8_group 65 = .ok (.iconst 0, 1) := by decide +kernel
theorem dX8_group_66 : decode cX8_group 66 = .ok (.invokevirtual 142, 3) := by decide +kernel
theorem dX8_group_69 : decode cX8_group 69 = .ok (.iconst 0, 1) := by decide +kernel
theorem dX8_group_70 : decode cX8_group 70 = .ok (.istore_n 3, 1) := by decide +kernel
theorem dX8_group_71 : decode cX8_group 71 = .ok (.iload_n 3, 1) := by decide +kernel
theorem dX8_group_72 : decode cX8_group 72 = .ok (.aload_n 0, 1) := by decide +kernel
theorem dX8_group_73 : decode cX8_group 73 = .ok (.getfield 110, 3) := by decide +kernel
theorem dX8_group_76 : decode cX8_group 76 = .ok (.if_icmp .ge 111, 3) := by decide +kernel
theorem dX8_group_79 : decode cX8_group 79 = .ok (.iconst 0, 1) := by decide +kernel
theorem dX8_group_80 : decode cX8_group 80 = .ok (.istore 4, 2) := by decide +kernel
theorem dX8_group_82 : decode cX8_group 82 = .ok (.iload 4, 2) := by decide +kernel
theorem dX8_group_84 : decode cX8_group 84 = .ok (.aload_n 0, 1) := by decide +kernel
theorem dX8_group_85 : decode cX8_group 85 = .ok (.getfield 110, 3) := by decide +kernel
theorem dX8_group_88 : decode cX8_group 88 = .ok (.if_icmp .ge 93, 3) := by decide +kernel
theorem dX8_group_91 : decode cX8_group 91 = .ok (.aload_n 0, 1) := by decide +kernel
theorem dX8_group_92 : decode cX8_group 92 = .ok (.iload_n 3, 1) := by decide +kernel
theorem dX8_group_93 : decode cX8_group 93 = .ok (.iload 4, 2) := by decide +kernel
theorem dX8_group_95 : decode cX8_group 95 = .ok (.invokevirtual 148, 3) := by decide +kernel
theorem dX8_group_98 : decode cX8_group 98 = .ok (.ifCond .eq 77, 3) := by decide +kernel
theorem dX8_group_101 : decode cX8_group 101 = .ok (.aload_n 0, 1) := by decide +kernel
theorem dX8_group_102 : decode cX8_group 102 = .ok (.iload_n 3, 1) := by decide +kernel
theorem dX8_group_103 : decode cX8_group 103 = .ok (.iconst 0, 1) := by decide +kernel
theorem dX8_group_104 : decode cX8_group 104 = .ok (.invokevirtual 126, 3) := by decide +kernel
theorem dX8_group_107 : decode cX8_group 107 = .ok (.ifCond .ne 68, 3) := by decide +kernel
theorem dX8_group_110 : decode cX8_group 110 = .ok (.aload_n 0, 1) := by decide +kernel
theorem dX8_group_111 : decode cX8_group 111 = .ok (.iload 4, 2) := by decide +kernel
theorem dX8_group_113 : decode cX8_group 113 = .ok (.iconst 0, 1) := by decide +kernel
theorem dX8_group_114 : decode cX8_group 114 = .ok (.invokevirtual 126, 3) := by decide +kernel
theorem dX8_group_117 : decode cX8_group 117 = .ok (.ifCond .eq 6, 3) := by decide +kernel
theorem dX8_group_120 : decode cX8_group 120 = .ok (.goto 55, 3) := by decide +kernel
theorem dX8_group_123 : decode cX8_group 123 = .ok (.aload_n 0, 1) := by decide +kernel
theorem dX8_group_124 : decode cX8_group 124 = .ok (.getfield 26, 3) := by decide +kernel
theorem dX8_group_127 : decode cX8_group 127 = .ok (.aload_n 0, 1) := by decide +kernel
theorem dX8_group_128 : decode cX8_group 128 = .ok (.iload_n 3, 1) := by decide +kernel
theorem dX8_group_129 : decode cX8_group 129 = .ok (.iload 4, 2) := by decide +kernel
theorem dX8_group_131 : decode cX8_group 131 = .ok (.invokevirtual 130, 3) := by decide +kernel
theorem dX8_group_134 : decode cX8_group 134 = .ok (.laload, 1) := by decide +kernel
theorem dX8_group_135 : decode cX8_group 135 = .ok (.aload_n 0, 1) := by decide +kernel
theorem dX8_group_136 : decode cX8_group 136 = .ok (.getfield 30, 3) := by decide +kernel
theorem dX8_group_139 : decode cX8_group 139 = .ok (.aload_n 0, 1) := by decide +kernel
theorem dX8_group_140 : decode cX8_group 140 = .ok (.iload_n 3, 1) := by decide +kernel
theorem dX8_group_141 : decode cX8_group 141 = .ok (.iload 4, 2) := by decide +kernel
theorem dX8_group_143 : decode cX8_group 143 = .ok (.invokevirtual 130, 3) := by decide +kernel
theorem dX8_group_146 : decode cX8_group 146 = .ok (.laload, 1) := by decide +kernel
theorem dX8_group_147 : decode cX8_group 147 = .ok (.lsub, 1) := by decide +kernel
theorem dX8_group_148 : decode cX8_group 148 = .ok (.lstore 5, 2) := by decide +kernel
theorem dX8_group_150 : decode cX8_group 150 = .ok (.lload 5, 2) := by decide +kernel
theorem dX8_group_152 : decode cX8_group 152 = .ok (.lconst 0, 1) := by decide +kernel
theorem dX8_group_153 : decode cX8_group 153 = .ok (.lcmp, 1) := by decide +kernel
theorem dX8_group_154 : decode cX8_group 154 = .ok (.ifCond .le 21, 3) := by decide +kernel
theorem dX8_group_157 : decode cX8_group 157 = .ok (.aload_n 0, 1) := by decide +kernel
theorem dX8_group_158 : decode cX8_group 158 = .ok (.lload 5, 2) := by decide +kernel
theorem dX8_group_160 : decode cX8_group 160 = .ok (.aload_n 0, 1) := by decide +kernel
theorem dX8_group_161 : decode cX8_group 161 = .ok (.getfield 26, 3) := by decide +kernel
theorem dX8_group_164 : decode cX8_group 164 = .ok (.aload_n 0, 1) := by decide +kernel
theorem dX8_group_165 : decode cX8_group 165 = .ok (.iload_n 3, 1) := by decide +kernel
theorem dX8_group_166 : decode cX8_group 166 = .ok (.iload 4, 2) := by decide +kernel
theorem dX8_group_168 : decode cX8_group 168 = .ok (.invokevirtual 130, 3) := by decide +kernel
theorem dX8_group_171 : decode cX8_group 171 = .ok (.laload, 1) := by decide +kernel
theorem dX8_group_172 : decode cX8_group 172 = .ok (.invokevirtual 204, 3) := by decide +kernel
theorem dX8_group_175 : decode cX8_group 175 = .ok (.iinc 4 1, 3) := by decide +kernel
theorem dX8_group_178 : decode cX8_group 178 = .ok (.goto (-96), 3) := by decide +kernel
theorem dX8_group_181 : decode cX8_group 181 = .ok (.iinc 3 1, 3) := by decide +kernel
theorem dX8_group_184 : decode cX8_group 184 = .ok (.goto (-113), 3) := by decide +kernel
theorem dX8_group_187 : decode cX8_group 187 = .ok (.aload_n 0, 1) := by decide +kernel
theorem dX8_group_188 : decode cX8_group 188 = .ok (.iload_n 1, 1) := by decide +kernel
theorem dX8_group_189 : decode cX8_group 189 = .ok (.iload_n 2, 1) := by decide +kernel
theorem dX8_group_190 : decode cX8_group 190 = .ok (.invokevirtual 219, 3) := by decide +kernel
theorem dX8_group_193 : decode cX8_group 193 = .ok (.lreturn, 1) := by decide +kernel
theorem dX8_harmonic_0 : decode cX8_harmonic 0 = .ok (.aload_n 0, 1) := by decide +kernel
theorem dX8_harmonic_1 : decode cX8_harmonic 1 = .ok (.iload_n 1, 1) := by decide +kernel
theorem dX8_harmonic_2 : decode cX8_harmonic 2 = .ok (.invokevirtual 119, 3) := by decide +kernel
theorem dX8_harmonic_5 : decode cX8_harmonic 5 = .ok (.ifCond .eq 11, 3) := by decide +kernel
theorem dX8_harmonic_8 : decode cX8_harmonic 8 = .ok (.iload_n 2, 1) := by decide +kernel
theorem dX8_harmonic_9 : decode cX8_harmonic 9 = .ok (.iload_n 3, 1) := by decide +kernel
theorem dX8_harmonic_10 : decode cX8_harmonic 10 = .ok (.invokestatic 208, 3) := by decide +kernel
theorem dX8_harmonic_13 : decode cX8_harmonic 13 = .ok (.ifCond .ne 7, 3) := by decide +kernel
theorem dX8_harmonic_16 : decode cX8_harmonic 16 = .ok (.ldc2_w 146, 3) := by decide +kernel
theorem dX8_harmonic_19 : decode cX8_harmonic 19 = .ok (.lreturn, 1) := by decide +kernel
theorem dX8_harmonic_20 : decode cX8_harmonic 20 = .ok (.aload_n 0, 1) := by decide +kernel
theorem dX8_harmonic_21 : decode cX8_harmonic 21 = .ok (.iconst 4, 1) := by decide +kernel
theorem dX8_harmonic_22 : decode cX8_harmonic 22 = .ok (.iload_n 1, 1) := by decide +kernel
theorem dX8_harmonic_23 : decode cX8_harmonic 23 = .ok (.iconst 0, 1) := by decide +kernel
theorem dX8_harmonic_24 : decode cX8_harmonic 24 = .ok (.invokevirtual 211, 3) := by decide +kernel
theorem dX8_harmonic_27 : decode cX8_harmonic 27 = .ok (.ifCond .ne 10, 3) := by decide +kernel
theorem dX8_harmonic_30 : decode cX8_harmonic 30 = .ok (.aload_n 0, 1) := by decide +kernel
theorem dX8_harmonic_31 : decode cX8_harmonic 31 = .ok (.iload_n 2, 1) := by decide +kernel
theorem dX8_harmonic_32 : decode cX8_harmonic 32 = .ok (.iload_n 3, 1) := by decide +kernel
theorem dX8_harmonic_33 : decode cX8_harmonic 33 = .ok (.invokevirtual 219, 3) := by decide +kernel
theorem dX8_harmonic_36 : decode cX8_harmonic 36 = .ok (.lreturn, 1) := by decide +kernel
theorem dX8_harmonic_37 : decode cX8_harmonic 37 = .ok (.aload_n 0, 1) := by decide +kernel
theorem dX8_harmonic_38 : decode cX8_harmonic 38 = .ok (.invokevirtual 135, 3) := by decide +kernel
theorem dX8_harmonic_41 : decode cX8_harmonic 41 = .ok (.aload_n 0, 1) := by decide +kernel
theorem dX8_harmonic_42 : decode cX8_harmonic 42 = .ok (.invokevirtual 201, 3) := by decide +kernel
theorem dX8_harmonic_45 : decode cX8_harmonic 45 = .ok (.iconst 0, 1) := by decide +kernel
theorem dX8_harmonic_46 : decode cX8_harmonic 46 = .ok (.istore 4, 2) := by decide +kernel
theorem dX8_harmonic_48 : decode cX8_harmonic 48 = .ok (.iload 4, 2) := by decide +kernel
theorem dX8_harmonic_50 : decode cX8_harmonic 50 = .ok (.aload_n 0, 1) := by decide +kernel
theorem dX8_harmonic_51 : decode cX8_harmonic 51 = .ok (.getfield 110, 3) := by decide +kernel
theorem dX8_harmonic_54 : decode cX8_harmonic 54 = .ok (.if_icmp .ge 60, 3) := by decide +kernel
theorem dX8_harmonic_57 : decode cX8_harmonic 57 = .ok (.iload 4, 2) := by decide +kernel
theorem dX8_harmonic_59 : decode cX8_harmonic 59 = .ok (.iload_n 1, 1) := by decide +kernel
theorem dX8_harmonic_60 : decode cX8_harmonic 60 = .ok (.if_icmp .eq 48, 3) := by decide +kernel
theorem dX8_harmonic_63 : decode cX8_harmonic 63 = .ok (.aload_n 0, 1) := by decide +kernel
theorem dX8_harmonic_64 : decode cX8_harmonic 64 = .ok (.iload 4, 2) := by decide +kernel
theorem dX8_harmonic_66 : decode cX8_harmonic 66 = .ok (.iconst 2, 1) := by decide +kernel
theorem dX8_harmonic_67 : decode cX8_harmonic 67 = .ok (.invokevirtual 126, 3) := by decide +kernel
theorem dX8_harmonic_70 : decode cX8_harmonic 70 = .ok (.ifCond .eq 38, 3) := by decide +kernel
theorem dX8_harmonic_73 : decode cX8_harmonic 73 = .ok (.aload_n 0, 1) := by decide +kernel
theorem dX8_harmonic_74 : decode cX8_harmonic 74 = .ok (.getfield 23, 3) := by decide +kernel
theorem dX8_harmonic_77 : decode cX8_harmonic 77 = .ok (.aload_n 0, 1) := by decide +kernel
theorem dX8_harmonic_78 : decode cX8_harmonic 78 = .ok (.iload_n 1, 1) := by decide +kernel
theorem dX8_harmonic_79 : decode cX8_harmonic 79 = .ok (.iload 4, 2) := by decide +kernel
theorem dX8_harmonic_81 : decode cX8_harmonic 81 = .ok (.invokevirtual 130, 3) := by decide +kernel
theorem dX8_harmonic_84 : decode cX8_harmonic 84 = .ok (.iaload, 1) := by decide +kernel
theorem dX8_harmonic_85 : decode cX8_harmonic 85 = .ok (.ldc 134, 2) := by decide +kernel
theorem dX8_harmonic_87 : decode cX8_harmonic 87 = .ok (.if_icmp .ge 21, 3) := by decide +kernel
theorem dX8_harmonic_90 : decode cX8_harmonic 90 = .ok (.aload_n 0, 1) := by decide +kernel
theorem dX8_harmonic_91 : decode cX8_harmonic 91 = .ok (.lconst 1, 1) := by decide +kernel
theorem dX8_harmonic_92 : decode cX8_harmonic 92 = .ok (.aload_n 0, 1) := by decide +kernel
theorem dX8_harmonic_93 : decode cX8_harmonic 93 = .ok (.getfield 23, 3) := by decide +kernel
theorem dX8_harmonic_96 : decode cX8_harmonic 96 = .ok (.aload_n 0, 1) := by decide +kernel
theorem dX8_harmonic_97 : decode cX8_harmonic 97 = .ok (.iload_n 1, 1) := by decide +kernel
theorem dX8_harmonic_98 : decode cX8_harmonic 98 = .ok (.iload 4, 2) := by decide +kernel
theorem dX8_harmonic_100 : decode cX8_harmonic 100 = .ok (.invokevirtual 130, 3) := by decide +kernel
theorem dX8_harmonic_103 : decode cX8_harmonic 103 = .ok (.iaload, 1) := by decide +kernel
theorem dX8_harmonic_104 : decode cX8_harmonic 104 = .ok (.i2l, 1) := by decide +kernel
theorem dX8_harmonic_105 : decode cX8_harmonic 105 = .ok (.invokevirtual 204, 3) := by decide +kernel
theorem dX8_harmonic_108 : decode cX8_harmonic 108 = .ok (.iinc 4 1, 3) := by decide +kernel
theorem dX8_harmonic_111 : decode cX8_harmonic 111 = .ok (.goto (-63), 3) := by decide +kernel
theorem dX8_harmonic_114 : decode cX8_harmonic 114 = .ok (.aload_n 0, 1) := by decide +kernel
theorem dX8_harmonic_115 : decode cX8_harmonic 115 = .ok (.iload_n 2, 1) := by decide +kernel
theorem dX8_harmonic_116 : decode cX8_harmonic 116 = .ok (.iload_n 3, 1) := by decide +kernel
theorem dX8_harmonic_117 : decode cX8_harmonic 117 = .ok (.invokevirtual 219, 3) := by decide +kernel
theorem dX8_harmonic_120 : decode cX8_harmonic 120 = .ok (.lreturn, 1) := by decide +kernel
theorem dX8_close_0 : decode cX8_close 0 = .ok (.aload_n 0, 1) := by decide +kernel
theorem dX8_close_1 : decode cX8_close 1 = .ok (.iload_n 1, 1) := by decide +kernel
theorem dX8_close_2 : decode cX8_close 2 = .ok (.invokevirtual 119, 3) := by decide +kernel
theorem dX8_close_5 : decode cX8_close 5 = .ok (.ifCond .eq 11, 3) := by decide +kernel
theorem dX8_close_8 : decode cX8_close 8 = .ok (.iload_n 2, 1) := by decide +kernel
theorem dX8_close_9 : decode cX8_close 9 = .ok (.iload_n 3, 1) := by decide +kernel
theorem dX8_close_10 : decode cX8_close 10 = .ok (.invokestatic 208, 3) := by decide +kernel
theorem dX8_close_13 : decode cX8_close 13 = .ok (.ifCond .ne 7, 3) := by decide +kernel
theorem dX8_close_16 : decode cX8_close 16 = .ok (.ldc2_w 146, 3) := by decide +kernel
theorem dX8_close_19 : decode cX8_close 19 = .ok (.lreturn, 1) := by decide +kernel
theorem dX8_close_20 : decode cX8_close 20 = .ok (.aload_n 0, 1) := by decide +kernel
theorem dX8_close_21 : decode cX8_close 21 = .ok (.iconst 5, 1) := by decide +kernel
theorem dX8_close_22 : decode cX8_close 22 = .ok (.iload_n 1, 1) := by decide +kernel
theorem dX8_close_23 : decode cX8_close 23 = .ok (.iconst 0, 1) := by decide +kernel
theorem dX8_close_24 : decode cX8_close 24 = .ok (.invokevirtual 211, 3) := by decide +kernel
theorem dX8_close_27 : decode cX8_close 27 = .ok (.ifCond .ne 10, 3) := by decide +kernel
theorem dX8_close_30 : decode cX8_close 30 = .ok (.aload_n 0, 1) := by decide +kernel
theorem dX8_close_31 : decode cX8_close 31 = .ok (.iload_n 2, 1) := by decide +kernel
theorem dX8_close_32 : decode cX8_close 32 = .ok (.iload_n 3, 1) := by decide +kernel
theorem dX8_close_33 : decode cX8_close 33 = .ok (.invokevirtual 219, 3) := by decide +kernel
theorem dX8_close_36 : decode cX8_close 36 = .ok (.lreturn, 1) := by decide +kernel
theorem dX8_close_37 : decode cX8_close 37 = .ok (.aload_n 0, 1) := by decide +kernel
theorem dX8_close_38 : decode cX8_close 38 = .ok (.invokevirtual 135, 3) := by decide +kernel
theorem dX8_close_41 : decode cX8_close 41 = .ok (.aload_n 0, 1) := by decide +kernel
theorem dX8_close_42 : decode cX8_close 42 = .ok (.invokevirtual 201, 3) := by decide +kernel
theorem dX8_close_45 : decode cX8_close 45 = .ok (.lconst 0, 1) := by decide +kernel
theorem dX8_close_46 : decode cX8_close 46 = .ok (.lstore 4, 2) := by decide +kernel
theorem dX8_close_48 : decode cX8_close 48 = .ok (.lconst 0, 1) := by decide +kernel
theorem dX8_close_49 : decode cX8_close 49 = .ok (.lstore 6, 2) := by decide +kernel
theorem dX8_close_51 : decode cX8_close 51 = .ok (.iconst 0, 1) := by decide +kernel
theorem dX8_close_52 : decode cX8_close 52 = .ok (.istore 8, 2) := by decide +kernel
theorem dX8_close_54 : decode cX8_close 54 = .ok (.iload 8, 2) := by decide +kernel
theorem dX8_close_56 : decode cX8_close 56 = .ok (.aload_n 0, 1) := by decide +kernel
theorem dX8_close_57 : decode cX8_close 57 = .ok (.getfield 110, 3) := by decide +kernel
theorem dX8_close_60 : decode cX8_close 60 = .ok (.if_icmp .ge 69, 3) := by decide +kernel
theorem dX8_close_63 : decode cX8_close 63 = .ok (.iload 8, 2) := by decide +kernel
theorem dX8_close_65 : decode cX8_close 65 = .ok (.iload_n 1, 1) := by decide +kernel
theorem dX8_close_66 : decode cX8_close 66 = .ok (.if_icmp .eq 57, 3) := by decide +kernel
theorem dX8_close_69 : decode cX8_close 69 = .ok (.aload_n 0, 1) := by decide +kernel
theorem dX8_close_70 : decode cX8_close 70 = .ok (.iload 8, 2) := by decide +kernel
theorem dX8_close_72 : decode cX8_close 72 = .ok (.iconst 2, 1) := by decide +kernel
theorem dX8_close_73 : decode cX8_close 73 = .ok (.invokevirtual 126, 3) := by decide +kernel
theorem dX8_close_76 : decode cX8_close 76 = .ok (.ifCond .eq 47, 3) := by decide +kernel
theorem dX8_close_79 : decode cX8_close 79 = .ok (.aload_n 0, 1) := by decide +kernel
theorem dX8_close_80 : decode cX8_close 80 = .ok (.getfield 23, 3) := by decide +kernel
theorem dX8_close_83 : decode cX8_close 83 = .ok (.aload_n 0, 1) := by decide +kernel
theorem dX8_close_84 : decode cX8_close 84 = .ok (.iload_n 1, 1) := by decide +kernel
theorem dX8_close_85 : decode cX8_close 85 = .ok (.iload 8, 2) := by decide +kernel
theorem dX8_close_87 : decode cX8_close 87 = .ok (.invokevirtual 130, 3) := by decide +kernel
theorem dX8_close_90 : decode cX8_close 90 = .ok (.iaload, 1) := by decide +kernel
theorem dX8_close_91 : decode cX8_close 91 = .ok (.ldc 134, 2) := by decide +kernel
theorem dX8_close_93 : decode cX8_close 93 = .ok (.if_icmp .lt 6, 3) := by decide +kernel
theorem dX8_close_96 : decode cX8_close 96 = .ok (.goto 27, 3) := by decide +kernel
theorem dX8_close_99 : decode cX8_close 99 = .ok (.lload 4, 2) := by decide +kernel
theorem dX8_close_101 : decode cX8_close 101 = .ok (.lconst 1, 1) := by decide +kernel
theorem dX8_close_102 : decode cX8_close 102 = .ok (.ladd, 1) := by decide +kernel
theorem dX8_close_103 : decode cX8_close 103 = .ok (.lstore 4, 2) := by decide +kernel
theorem dX8_close_105 : decode cX8_close 105 = .ok (.lload 6, 2) := by decide +kernel
theorem dX8_close_107 : decode cX8_close 107 = .ok (.aload_n 0, 1) := by decide +kernel
theorem dX8_close_108 : decode cX8_close 108 = .ok (.getfield 23, 3) := by decide +kernel
theorem dX8_close_111 : decode cX8_close 111 = .ok (.aload_n 0, 1) := by decide +kernel
theorem dX8_close_112 : decode cX8_close 112 = .ok (.iload_n 1, 1) := by decide +kernel
theorem dX8_close_113 : decode cX8_close 113 = .ok (.iload 8, 2) := by decide +kernel
theorem dX8_close_115 : decode cX8_close 115 = .ok (.invokevirtual 130, 3) := by decide +kernel
theorem dX8_close_118 : decode cX8_close 118 = .ok (.iaload, 1) := by decide +kernel
theorem dX8_close_119 : decode cX8_close 119 = .ok (.i2l, 1) := by decide +kernel
theorem dX8_close_120 : decode cX8_close 120 = .ok (.ladd, 1) := by decide +kernel
theorem dX8_close_121 : decode cX8_close 121 = .ok (.lstore 6, 2) := by decide +kernel
theorem dX8_close_123 : decode cX8_close 123 = .ok (.iinc 8 1, 3) := by decide +kernel
theorem dX8_close_126 : decode cX8_close 126 = .ok (.goto (-72), 3) := by decide +kernel
theorem dX8_close_129 : decode cX8_close 129 = .ok (.lload 4, 2) := by decide +kernel
theorem dX8_close_131 : decode cX8_close 131 = .ok (.lconst 0, 1) := by decide +kernel
theorem dX8_close_132 : decode cX8_close 132 = .ok (.lcmp, 1) := by decide +kernel
theorem dX8_close_133 : decode cX8_close 133 = .ok (.ifCond .le 11, 3) := by decide +kernel
theorem dX8_close_136 : decode cX8_close 136 = .ok (.aload_n 0, 1) := by decide +kernel
theorem dX8_close_137 : decode cX8_close 137 = .ok (.lload 4, 2) := by decide +kernel
theorem dX8_close_139 : decode cX8_close 139 = .ok (.lload 6, 2) := by decide +kernel
theorem dX8_close_141 : decode cX8_close 141 = .ok (.invokevirtual 204, 3) := by decide +kernel
theorem dX8_close_144 : decode cX8_close 144 = .ok (.aload_n 0, 1) := by decide +kernel
theorem dX8_close_145 : decode cX8_close 145 = .ok (.iload_n 2, 1) := by decide +kernel
theorem dX8_close_146 : decode cX8_close 146 = .ok (.iload_n 3, 1) := by decide +kernel
theorem dX8_close_147 : decode cX8_close 147 = .ok (.invokevirtual 219, 3) := by decide +kernel
theorem dX8_close_150 : decode cX8_close 150 = .ok (.lreturn, 1) := by decide +kernel
theorem dX8_product_0 : decode cX8_product 0 = .ok (.iconst 0, 1) := by decide +kernel
theorem dX8_product_1 : decode cX8_product 1 = .ok (.istore 6, 2) := by decide +kernel
theorem dX8_product_3 : decode cX8_product 3 = .ok (.iload 6, 2) := by decide +kernel
theorem dX8_product_5 : decode cX8_product 5 = .ok (.sipush 128, 3) := by decide +kernel
theorem dX8_product_8 : decode cX8_product 8 = .ok (.if_icmp .ge 14, 3) := by decide +kernel
theorem dX8_product_11 : decode cX8_product 11 = .ok (.aload_n 1, 1) := by decide +kernel
theorem dX8_product_12 : decode cX8_product 12 = .ok (.iload 6, 2) := by decide +kernel
theorem dX8_product_14 : decode cX8_product 14 = .ok (.lconst 0, 1) := by decide +kernel
theorem dX8_product_15 : decode cX8_product 15 = .ok (.lastore, 1) := by decide +kernel
theorem dX8_product_16 : decode cX8_product 16 = .ok (.iinc 6 1, 3) := by decide +kernel
theorem dX8_product_19 : decode cX8_product 19 = .ok (.goto (-16), 3) := by decide +kernel
theorem dX8_product_22 : decode cX8_product 22 = .ok (.iconst 0, 1) := by decide +kernel
theorem dX8_product_23 : decode cX8_product 23 = .ok (.istore 6, 2) := by decide +kernel
theorem dX8_product_25 : decode cX8_product 25 = .ok (.iload 6, 2) := by decide +kernel
theorem dX8_product_27 : decode cX8_product 27 = .ok (.bipush 64, 2) := by decide +kernel
theorem dX8_product_29 : decode cX8_product 29 = .ok (.if_icmp .ge 91, 3) := by decide +kernel
theorem dX8_product_32 : decode cX8_product 32 = .ok (.lconst 0, 1) := by decide +kernel
theorem dX8_product_33 : decode cX8_product 33 = .ok (.lstore 7, 2) := by decide +kernel
theorem dX8_product_35 : decode cX8_product 35 = .ok (.iconst 0, 1) := by decide +kernel
theorem dX8_product_36 : decode cX8_product 36 = .ok (.istore 9, 2) := by decide +kernel
theorem dX8_product_38 : decode cX8_product 38 = .ok (.iload 9, 2) := by decide +kernel
theorem dX8_product_40 : decode cX8_product 40 = .ok (.bipush 64, 2) := by decide +kernel
theorem dX8_product_42 : decode cX8_product 42 = .ok (.if_icmp .ge 63, 3) := by decide +kernel
theorem dX8_product_45 : decode cX8_product 45 = .ok (.aload_n 2, 1) := by decide +kernel
theorem dX8_product_46 : decode cX8_product 46 = .ok (.bipush 64, 2) := by decide +kernel
theorem dX8_product_48 : decode cX8_product 48 = .ok (.iload_n 3, 1) := by decide +kernel
theorem dX8_product_49 : decode cX8_product 49 = .ok (.imul, 1) := by decide +kernel
theorem dX8_product_50 : decode cX8_product 50 = .ok (.iload 6, 2) := by decide +kernel
theorem dX8_product_52 : decode cX8_product 52 = .ok (.iadd, 1) := by decide +kernel
theorem dX8_product_53 : decode cX8_product 53 = .ok (.laload, 1) := by decide +kernel
theorem dX8_product_54 : decode cX8_product 54 = .ok (.aload 4, 2) := by decide +kernel
theorem dX8_product_56 : decode cX8_product 56 = .ok (.bipush 64, 2) := by decide +kernel
theorem dX8_product_58 : decode cX8_product 58 = .ok (.iload 5, 2) := by decide +kernel
theorem dX8_product_60 : decode cX8_product 60 = .ok (.imul, 1) := by decide +kernel
theorem dX8_product_61 : decode cX8_product 61 = .ok (.iload 9, 2) := by decide +kernel
theorem dX8_product_63 : decode cX8_product 63 = .ok (.iadd, 1) := by decide +kernel
theorem dX8_product_64 : decode cX8_product 64 = .ok (.laload, 1) := by decide +kernel
theorem dX8_product_65 : decode cX8_product 65 = .ok (.lmul, 1) := by decide +kernel
theorem dX8_product_66 : decode cX8_product 66 = .ok (.aload_n 1, 1) := by decide +kernel
theorem dX8_product_67 : decode cX8_product 67 = .ok (.iload 6, 2) := by decide +kernel
theorem dX8_product_69 : decode cX8_product 69 = .ok (.iload 9, 2) := by decide +kernel
theorem dX8_product_71 : decode cX8_product 71 = .ok (.iadd, 1) := by decide +kernel
theorem dX8_product_72 : decode cX8_product 72 = .ok (.laload, 1) := by decide +kernel
theorem dX8_product_73 : decode cX8_product 73 = .ok (.ladd, 1) := by decide +kernel
theorem dX8_product_74 : decode cX8_product 74 = .ok (.lload 7, 2) := by decide +kernel
theorem dX8_product_76 : decode cX8_product 76 = .ok (.ladd, 1) := by decide +kernel
theorem dX8_product_77 : decode cX8_product 77 = .ok (.lstore 10, 2) := by decide +kernel
theorem dX8_product_79 : decode cX8_product 79 = .ok (.aload_n 1, 1) := by decide +kernel
theorem dX8_product_80 : decode cX8_product 80 = .ok (.iload 6, 2) := by decide +kernel
theorem dX8_product_82 : decode cX8_product 82 = .ok (.iload 9, 2) := by decide +kernel
theorem dX8_product_84 : decode cX8_product 84 = .ok (.iadd, 1) := by decide +kernel
theorem dX8_product_85 : decode cX8_product 85 = .ok (.lload 10, 2) := by decide +kernel
theorem dX8_product_87 : decode cX8_product 87 = .ok (.ldc2_w 155, 3) := by decide +kernel
theorem dX8_product_90 : decode cX8_product 90 = .ok (.land, 1) := by decide +kernel
theorem dX8_product_91 : decode cX8_product 91 = .ok (.lastore, 1) := by decide +kernel
theorem dX8_product_92 : decode cX8_product 92 = .ok (.lload 10, 2) := by decide +kernel
theorem dX8_product_94 : decode cX8_product 94 = .ok (.bipush 32, 2) := by decide +kernel
theorem dX8_product_96 : decode cX8_product 96 = .ok (.lushr, 1) := by decide +kernel
theorem dX8_product_97 : decode cX8_product 97 = .ok (.lstore 7, 2) := by decide +kernel
theorem dX8_product_99 : decode cX8_product 99 = .ok (.iinc 9 1, 3) := by decide +kernel
theorem dX8_product_102 : decode cX8_product 102 = .ok (.goto (-64), 3) := by decide +kernel
theorem dX8_product_105 : decode cX8_product 105 = .ok (.aload_n 1, 1) := by decide +kernel
theorem dX8_product_106 : decode cX8_product 106 = .ok (.iload 6, 2) := by decide +kernel
theorem dX8_product_108 : decode cX8_product 108 = .ok (.bipush 64, 2) := by decide +kernel
theorem dX8_product_110 : decode cX8_product 110 = .ok (.iadd, 1) := by decide +kernel
theorem dX8_product_111 : decode cX8_product 111 = .ok (.lload 7, 2) := by decide +kernel
theorem dX8_product_113 : decode cX8_product 113 = .ok (.lastore, 1) := by decide +kernel
theorem dX8_product_114 : decode cX8_product 114 = .ok (.iinc 6 1, 3) := by decide +kernel
theorem dX8_product_117 : decode cX8_product 117 = .ok (.goto (-92), 3) := by decide +kernel
theorem dX8_product_120 : decode cX8_product 120 = .ok (.return_, 1) := by decide +kernel
theorem dX8_isGreater_0 : decode cX8_isGreater 0 = .ok (.aload_n 0, 1) := by decide +kernel
theorem dX8_isGreater_1 : decode cX8_isGreater 1 = .ok (.aload_n 0, 1) := by decide +kernel
theorem dX8_isGreater_2 : decode cX8_isGreater 2 = .ok (.getfield 61, 3) := by decide +kernel
theorem dX8_isGreater_5 : decode cX8_isGreater 5 = .ok (.aload_n 0, 1) := by decide +kernel
theorem dX8_isGreater_6 : decode cX8_isGreater 6 = .ok (.getfield 55, 3) := by decide +kernel
theorem dX8_isGreater_9 : decode cX8_isGreater 9 = .ok (.iload_n 1, 1) := by decide +kernel
theorem dX8_isGreater_10 : decode cX8_isGreater 10 = .ok (.aload_n 0, 1) := by decide +kernel
theorem dX8_isGreater_11 : decode cX8_isGreater 11 = .ok (.getfield 58, 3) := by decide +kernel
theorem dX8_isGreater_14 : decode cX8_isGreater 14 = .ok (.iload_n 2, 1) := by decide +kernel
theorem dX8_isGreater_15 : decode cX8_isGreater 15 = .ok (.invokevirtual 223, 3) := by decide +kernel
theorem dX8_isGreater_18 : decode cX8_isGreater 18 = .ok (.aload_n 0, 1) := by decide +kernel
theorem dX8_isGreater_19 : decode cX8_isGreater 19 = .ok (.aload_n 0, 1) := by decide +kernel
theorem dX8_isGreater_20 : decode cX8_isGreater 20 = .ok (.getfield 64, 3) := by decide +kernel
theorem dX8_isGreater_23 : decode cX8_isGreater 23 = .ok (.aload_n 0, 1) := by decide +kernel
theorem dX8_isGreater_24 : decode cX8_isGreater 24 = .ok (.getfield 55, 3) := by decide +kernel
theorem dX8_isGreater_27 : decode cX8_isGreater 27 = .ok (.iload_n 2, 1) := by decide +kernel
theorem dX8_isGreater_28 : decode cX8_isGreater 28 = .ok (.aload_n 0, 1) := by decide +kernel
theorem dX8_isGreater_29 : decode cX8_isGreater 29 = .ok (.getfield 58, 3) := by decide +kernel
theorem dX8_isGreater_32 : decode cX8_isGreater 32 = .ok (.iload_n 1, 1) := by decide +kernel
theorem dX8_isGreater_33 : decode cX8_isGreater 33 = .ok (.invokevirtual 223, 3) := by decide +kernel
theorem dX8_isGreater_36 : decode cX8_isGreater 36 = .ok (.bipush 127, 2) := by decide +kernel
theorem dX8_isGreater_38 : decode cX8_isGreater 38 = .ok (.istore_n 3, 1) := by decide +kernel
theorem dX8_isGreater_39 : decode cX8_isGreater 39 = .ok (.iload_n 3, 1) := by decide +kernel
theorem dX8_isGreater_40 : decode cX8_isGreater 40 = .ok (.ifCond .lt 47, 3) := by decide +kernel
theorem dX8_isGreater_43 : decode cX8_isGreater 43 = .ok (.aload_n 0, 1) := by decide +kernel
theorem dX8_isGreater_44 : decode cX8_isGreater 44 = .ok (.getfield 61, 3) := by decide +kernel
theorem dX8_isGreater_47 : decode cX8_isGreater 47 = .ok (.iload_n 3, 1) := by decide +kernel
theorem dX8_isGreater_48 : decode cX8_isGreater 48 = .ok (.laload, 1) := by decide +kernel
theorem dX8_isGreater_49 : decode cX8_isGreater 49 = .ok (.aload_n 0, 1) := by decide +kernel
theorem dX8_isGreater_50 : decode cX8_isGreater 50 = .ok (.getfield 64, 3) := by decide +kernel
theorem dX8_isGreater_53 : decode cX8_isGreater 53 = .ok (.iload_n 3, 1) := by decide +kernel
theorem dX8_isGreater_54 : decode cX8_isGreater 54 = .ok (.laload, 1) := by decide +kernel
theorem dX8_isGreater_55 : decode cX8_isGreater 55 = .ok (.lcmp, 1) := by decide +kernel
theorem dX8_isGreater_56 : decode cX8_isGreater 56 = .ok (.ifCond .eq 25, 3) := by decide +kernel
theorem dX8_isGreater_59 : decode cX8_isGreater 59 = .ok (.aload_n 0, 1) := by decide +kernel
theorem dX8_isGreater_60 : decode cX8_isGreater 60 = .ok (.getfield 61, 3) := by decide +kernel
theorem dX8_isGreater_63 : decode cX8_isGreater 63 = .ok (.iload_n 3, 1) := by decide +kernel
theorem dX8_isGreater_64 : decode cX8_isGreater 64 = .ok (.laload, 1) := by decide +kernel
theorem dX8_isGreater_65 : decode cX8_isGreater 65 = .ok (.aload_n 0, 1) := by decide +kernel
theorem dX8_isGreater_66 : decode cX8_isGreater 66 = .ok (.getfield 64, 3) := by decide +kernel
theorem dX8_isGreater_69 : decode cX8_isGreater 69 = .ok (.iload_n 3, 1) := by decide +kernel
theorem dX8_isGreater_70 : decode cX8_isGreater 70 = .ok (.laload, 1) := by decide +kernel
theorem dX8_isGreater_71 : decode cX8_isGreater 71 = .ok (.lcmp, 1) := by decide +kernel
theorem dX8_isGreater_72 : decode cX8_isGreater 72 = .ok (.ifCond .le 7, 3) := by decide +kernel
theorem dX8_isGreater_75 : decode cX8_isGreater 75 = .ok (.iconst 1, 1) := by decide +kernel
theorem dX8_isGreater_76 : decode cX8_isGreater 76 = .ok (.goto 4, 3) := by decide +kernel
theorem dX8_isGreater_79 : decode cX8_isGreater 79 = .ok (.iconst 0, 1) := by decide +kernel
theorem dX8_isGreater_80 : decode cX8_isGreater 80 = .ok (.ireturn, 1) := by decide +kernel
theorem dX8_isGreater_81 : decode cX8_isGreater 81 = .ok (.iinc 3 (-1), 3) := by decide +kernel
theorem dX8_isGreater_84 : decode cX8_isGreater 84 = .ok (.goto (-45), 3) := by decide +kernel
theorem dX8_isGreater_87 : decode cX8_isGreater 87 = .ok (.iconst 0, 1) := by decide +kernel
theorem dX8_isGreater_88 : decode cX8_isGreater 88 = .ok (.ireturn, 1) := by decide +kernel
theorem dX8_top_0 : decode cX8_top 0 = .ok (.iload_n 1, 1) := by decide +kernel
theorem dX8_top_1 : decode cX8_top 1 = .ok (.ifCond .lt 11, 3) := by decide +kernel
theorem dX8_top_4 : decode cX8_top 4 = .ok (.iload_n 1, 1) := by decide +kernel
theorem dX8_top_5 : decode cX8_top 5 = .ok (.aload_n 0, 1) := by decide +kernel
theorem dX8_top_6 : decode cX8_top 6 = .ok (.getfield 110, 3) := by decide +kernel
theorem dX8_top_9 : decode cX8_top 9 = .ok (.if_icmp .lt 5, 3) := by decide +kernel
theorem dX8_top_12 : decode cX8_top 12 = .ok (.iconst (-1), 1) := by decide +kernel
theorem dX8_top_13 : decode cX8_top 13 = .ok (.ireturn, 1) := by decide +kernel
theorem dX8_top_14 : decode cX8_top 14 = .ok (.aload_n 0, 1) := by decide +kernel
theorem dX8_top_15 : decode cX8_top 15 = .ok (.iconst 0, 1) := by decide +kernel
theorem dX8_top_16 : decode cX8_top 16 = .ok (.putfield 116, 3) := by decide +kernel
theorem dX8_top_19 : decode cX8_top 19 = .ok (.aload_n 0, 1) := by decide +kernel
theorem dX8_top_20 : decode cX8_top 20 = .ok (.iconst 0, 1) := by decide +kernel
theorem dX8_top_21 : decode cX8_top 21 = .ok (.invokevirtual 142, 3) := by decide +kernel
theorem dX8_top_24 : decode cX8_top 24 = .ok (.iconst 0, 1) := by decide +kernel
theorem dX8_top_25 : decode cX8_top 25 = .ok (.istore_n 2, 1) := by decide +kernel
theorem dX8_top_26 : decode cX8_top 26 = .ok (.iload_n 2, 1) := by decide +kernel
theorem dX8_top_27 : decode cX8_top 27 = .ok (.aload_n 0, 1) := by decide +kernel
theorem dX8_top_28 : decode cX8_top 28 = .ok (.getfield 110, 3) := by decide +kernel
theorem dX8_top_31 : decode cX8_top 31 = .ok (.if_icmp .ge 62, 3) := by decide +kernel
theorem dX8_top_34 : decode cX8_top 34 = .ok (.aload_n 0, 1) := by decide +kernel
theorem dX8_top_35 : decode cX8_top 35 = .ok (.iload_n 2, 1) := by decide +kernel
theorem dX8_top_36 : decode cX8_top 36 = .ok (.invokevirtual 215, 3) := by decide +kernel
theorem dX8_top_39 : decode cX8_top 39 = .ok (.iconst 0, 1) := by decide +kernel
theorem dX8_top_40 : decode cX8_top 40 = .ok (.istore_n 3, 1) := by decide +kernel
theorem dX8_top_41 : decode cX8_top 41 = .ok (.iload_n 3, 1) := by decide +kernel
theorem dX8_top_42 : decode cX8_top 42 = .ok (.bipush 64, 2) := by decide +kernel
theorem dX8_top_44 : decode cX8_top 44 = .ok (.if_icmp .ge 43, 3) := by decide +kernel
theorem dX8_top_47 : decode cX8_top 47 = .ok (.aload_n 0, 1) := by decide +kernel
theorem dX8_top_48 : decode cX8_top 48 = .ok (.getfield 55, 3) := by decide +kernel
theorem dX8_top_51 : decode cX8_top 51 = .ok (.bipush 64, 2) := by decide +kernel
theorem dX8_top_53 : decode cX8_top 53 = .ok (.iload_n 2, 1) := by decide +kernel
theorem dX8_top_54 : decode cX8_top 54 = .ok (.imul, 1) := by decide +kernel
theorem dX8_top_55 : decode cX8_top 55 = .ok (.iload_n 3, 1) := by decide +kernel
theorem dX8_top_56 : decode cX8_top 56 = .ok (.iadd, 1) := by decide +kernel
theorem dX8_top_57 : decode cX8_top 57 = .ok (.aload_n 0, 1) := by decide +kernel
theorem dX8_top_58 : decode cX8_top 58 = .ok (.getfield 37, 3) := by decide +kernel
theorem dX8_top_61 : decode cX8_top 61 = .ok (.iload_n 3, 1) := by decide +kernel
theorem dX8_top_62 : decode cX8_top 62 = .ok (.laload, 1) := by decide +kernel
theorem dX8_top_63 : decode cX8_top 63 = .ok (.lastore, 1) := by decide +kernel
theorem dX8_top_64 : decode cX8_top 64 = .ok (.aload_n 0, 1) := by decide +kernel
theorem dX8_top_65 : decode cX8_top 65 = .ok (.getfield 58, 3) := by decide +kernel
theorem dX8_top_68 : decode cX8_top 68 = .ok (.bipush 64, 2) := by decide +kernel
theorem dX8_top_70 : decode cX8_top 70 = .ok (.iload_n 2, 1) := by decide +kernel
theorem dX8_top_71 : decode cX8_top 71 = .ok (.imul, 1) := by decide +kernel
theorem dX8_top_72 : decode cX8_top 72 = .ok (.iload_n 3, 1) := by decide +kernel
theorem dX8_top_73 : decode cX8_top 73 = .ok (.iadd, 1) := by decide +kernel
theorem dX8_top_74 : decode cX8_top 74 = .ok (.aload_n 0, 1) := by decide +kernel
theorem dX8_top_75 : decode cX8_top 75 = .ok (.getfield 40, 3) := by decide +kernel
theorem dX8_top_78 : decode cX8_top 78 = .ok (.iload_n 3, 1) := by decide +kernel
theorem dX8_top_79 : decode cX8_top 79 = .ok (.laload, 1) := by decide +kernel
theorem dX8_top_80 : decode cX8_top 80 = .ok (.lastore, 1) := by decide +kernel
theorem dX8_top_81 : decode cX8_top 81 = .ok (.iinc 3 1, 3) := by decide +kernel
theorem dX8_top_84 : decode cX8_top 84 = .ok (.goto (-43), 3) := by decide +kernel
theorem dX8_top_87 : decode cX8_top 87 = .ok (.iinc 2 1, 3) := by decide +kernel
theorem dX8_top_90 : decode cX8_top 90 = .ok (.goto (-64), 3) := by decide +kernel
theorem dX8_top_93 : decode cX8_top 93 = .ok (.iconst 0, 1) := by decide +kernel
theorem dX8_top_94 : decode cX8_top 94 = .ok (.istore_n 2, 1) := by decide +kernel
theorem dX8_top_95 : decode cX8_top 95 = .ok (.iload_n 2, 1) := by decide +kernel
theorem dX8_top_96 : decode cX8_top 96 = .ok (.aload_n 0, 1) := by decide +kernel
theorem dX8_top_97 : decode cX8_top 97 = .ok (.getfield 110, 3) := by decide +kernel
theorem dX8_top_100 : decode cX8_top 100 = .ok (.if_icmp .ge 76, 3) := by decide +kernel
theorem dX8_top_103 : decode cX8_top 103 = .ok (.iconst 0, 1) := by decide +kernel
theorem dX8_top_104 : decode cX8_top 104 = .ok (.istore_n 3, 1) := by decide +kernel
theorem dX8_top_105 : decode cX8_top 105 = .ok (.iconst 0, 1) := by decide +kernel
theorem dX8_top_106 : decode cX8_top 106 = .ok (.istore 4, 2) := by decide +kernel
theorem dX8_top_108 : decode cX8_top 108 = .ok (.iload 4, 2) := by decide +kernel
theorem dX8_top_110 : decode cX8_top 110 = .ok (.aload_n 0, 1) := by decide +kernel
theorem dX8_top_111 : decode cX8_top 111 = .ok (.getfield 110, 3) := by decide +kernel
theorem dX8_top_114 : decode cX8_top 114 = .ok (.if_icmp .ge 49, 3) := by decide +kernel
theorem dX8_top_117 : decode cX8_top 117 = .ok (.iload_n 3, 1) := by decide +kernel
theorem dX8_top_118 : decode cX8_top 118 = .ok (.iload 4, 2) := by decide +kernel
theorem dX8_top_120 : decode cX8_top 120 = .ok (.iload_n 2, 1) := by decide +kernel
theorem dX8_top_121 : decode cX8_top 121 = .ok (.if_icmp .eq 33, 3) := by decide +kernel
theorem dX8_top_124 : decode cX8_top 124 = .ok (.aload_n 0, 1) := by decide +kernel
theorem dX8_top_125 : decode cX8_top 125 = .ok (.iload 4, 2) := by decide +kernel
theorem dX8_top_127 : decode cX8_top 127 = .ok (.iload_n 2, 1) := by decide +kernel
theorem dX8_top_128 : decode cX8_top 128 = .ok (.invokevirtual 227, 3) := by decide +kernel
theorem dX8_top_131 : decode cX8_top 131 = .ok (.ifCond .ne 19, 3) := by decide +kernel
theorem dX8_top_134 : decode cX8_top 134 = .ok (.iload 4, 2) := by decide +kernel
theorem dX8_top_136 : decode cX8_top 136 = .ok (.iload_n 2, 1) := by decide +kernel
theorem dX8_top_137 : decode cX8_top 137 = .ok (.if_icmp .ge 17, 3) := by decide +kernel
theorem dX8_top_140 : decode cX8_top 140 = .ok (.aload_n 0, 1) := by decide +kernel
theorem dX8_top_141 : decode cX8_top 141 = .ok (.iload_n 2, 1) := by decide +kernel
theorem dX8_top_142 : decode cX8_top 142 = .ok (.iload 4, 2) := by decide +kernel
theorem dX8_top_144 : decode cX8_top 144 = .ok (.invokevirtual 227, 3) := by decide +kernel
theorem dX8_top_147 : decode cX8_top 147 = .ok (.ifCond .ne 7, 3) := by decide +kernel
theorem dX8_top_150 : decode cX8_top 150 = .ok (.iconst 1, 1) := by decide +kernel
theorem dX8_top_151 : decode cX8_top 151 = .ok (.goto 4, 3) := by decide +kernel
theorem dX8_top_154 : decode cX8_top 154 = .ok (.iconst 0, 1) := by decide +kernel
theorem dX8_top_155 : decode cX8_top 155 = .ok (.iadd, 1) := by decide +kernel
theorem dX8_top_156 : decode cX8_top 156 = .ok (.istore_n 3, 1) := by decide +kernel
theorem dX8_top_157 : decode cX8_top 157 = .ok (.iinc 4 1, 3) := by decide +kernel
theorem dX8_top_160 : decode cX8_top 160 = .ok (.goto (-52), 3) := by decide +kernel
theorem dX8_top_163 : decode cX8_top 163 = .ok (.iload_n 3, 1) := by decide +kernel
theorem dX8_top_164 : decode cX8_top 164 = .ok (.iload_n 1, 1) := by decide +kernel
theorem dX8_top_165 : decode cX8_top 165 = .ok (.if_icmp .ne 5, 3) := by decide +kernel
theorem dX8_top_168 : decode cX8_top 168 = .ok (.iload_n 2, 1) := by decide +kernel
theorem dX8_top_169 : decode cX8_top 169 = .ok (.ireturn, 1) := by decide +kernel
theorem dX8_top_170 : decode cX8_top 170 = .ok (.iinc 2 1, 3) := by decide +kernel
theorem dX8_top_173 : decode cX8_top 173 = .ok (.goto (-78), 3) := by decide +kernel
theorem dX8_top_176 : decode cX8_top 176 = .ok (.iconst (-1), 1) := by decide +kernel
theorem dX8_top_177 : decode cX8_top 177 = .ok (.ireturn, 1) := by decide +kernel
theorem dX8_lookAtPiece_0 : decode cX8_lookAtPiece 0 = .ok (.iconst 0, 1) := by decide +kernel
theorem dX8_lookAtPiece_1 : decode cX8_lookAtPiece 1 = .ok (.istore_n 2, 1) := by decide +kernel
theorem dX8_lookAtPiece_2 : decode cX8_lookAtPiece 2 = .ok (.iload_n 2, 1) := by decide +kernel
theorem dX8_lookAtPiece_3 : decode cX8_lookAtPiece 3 = .ok (.bipush 10, 2) := by decide +kernel
theorem dX8_lookAtPiece_5 : decode cX8_lookAtPiece 5 = .ok (.if_icmp .ge 25, 3) := by decide +kernel
theorem dX8_lookAtPiece_8 : decode cX8_lookAtPiece 8 = .ok (.aload_n 0, 1) := by decide +kernel
theorem dX8_lookAtPiece_9 : decode cX8_lookAtPiece 9 = .ok (.getfield 92, 3) := by decide +kernel
theorem dX8_lookAtPiece_12 : decode cX8_lookAtPiece 12 = .ok (.iload_n 2, 1) := by decide +kernel
theorem dX8_lookAtPiece_13 : decode cX8_lookAtPiece 13 = .ok (.iload_n 2, 1) := by decide +kernel
theorem dX8_lookAtPiece_14 : decode cX8_lookAtPiece 14 = .ok (.iload_n 1, 1) := by decide +kernel
theorem dX8_lookAtPiece_15 : decode cX8_lookAtPiece 15 = .ok (.if_icmp .ne 7, 3) := by decide +kernel
theorem dX8_lookAtPiece_18 : decode cX8_lookAtPiece 18 = .ok (.iconst 1, 1) := by decide +kernel
theorem dX8_lookAtPiece_19 : decode cX8_lookAtPiece 19 = .ok (.goto 4, 3) := by decide +kernel
theorem dX8_lookAtPiece_22 : decode cX8_lookAtPiece 22 = .ok (.iconst 0, 1) := by decide +kernel
theorem dX8_lookAtPiece_23 : decode cX8_lookAtPiece 23 = .ok (.bastore, 1) := by decide +kernel
theorem dX8_lookAtPiece_24 : decode cX8_lookAtPiece 24 = .ok (.iinc 2 1, 3) := by decide +kernel
theorem dX8_lookAtPiece_27 : decode cX8_lookAtPiece 27 = .ok (.goto (-25), 3) := by decide +kernel
theorem dX8_lookAtPiece_30 : decode cX8_lookAtPiece 30 = .ok (.iconst 0, 1) := by decide +kernel
theorem dX8_lookAtPiece_31 : decode cX8_lookAtPiece 31 = .ok (.istore_n 2, 1) := by decide +kernel
theorem dX8_lookAtPiece_32 : decode cX8_lookAtPiece 32 = .ok (.iload_n 2, 1) := by decide +kernel
theorem dX8_lookAtPiece_33 : decode cX8_lookAtPiece 33 = .ok (.aload_n 0, 1) := by decide +kernel
theorem dX8_lookAtPiece_34 : decode cX8_lookAtPiece 34 = .ok (.getfield 110, 3) := by decide +kernel
theorem dX8_lookAtPiece_37 : decode cX8_lookAtPiece 37 = .ok (.if_icmp .ge 98, 3) := by decide +kernel
theorem dX8_lookAtPiece_40 : decode cX8_lookAtPiece 40 = .ok (.iconst 0, 1) := by decide +kernel
theorem dX8_lookAtPiece_41 : decode cX8_lookAtPiece 41 = .ok (.istore_n 3, 1) := by decide +kernel
theorem dX8_lookAtPiece_42 : decode cX8_lookAtPiece 42 = .ok (.iload_n 3, 1) := by decide +kernel
theorem dX8_lookAtPiece_43 : decode cX8_lookAtPiece 43 = .ok (.aload_n 0, 1) := by decide +kernel
theorem dX8_lookAtPiece_44 : decode cX8_lookAtPiece 44 = .ok (.getfield 113, 3) := by decide +kernel
theorem dX8_lookAtPiece_47 : decode cX8_lookAtPiece 47 = .ok (.if_icmp .ge 82, 3) := by decide +kernel
theorem dX8_lookAtPiece_50 : decode cX8_lookAtPiece 50 = .ok (.aload_n 0, 1) := by decide +kernel
theorem dX8_lookAtPiece_51 : decode cX8_lookAtPiece 51 = .ok (.getfield 16, 3) := by decide +kernel
theorem dX8_lookAtPiece_54 : decode cX8_lookAtPiece 54 = .ok (.iload_n 3, 1) := by decide +kernel
theorem dX8_lookAtPiece_55 : decode cX8_lookAtPiece 55 = .ok (.iaload, 1) := by decide +kernel
theorem dX8_lookAtPiece_56 : decode cX8_lookAtPiece 56 = .ok (.ifCond .ne 6, 3) := by decide +kernel
theorem dX8_lookAtPiece_59 : decode cX8_lookAtPiece 59 = .ok (.goto 64, 3) := by decide +kernel
theorem dX8_lookAtPiece_62 : decode cX8_lookAtPiece 62 = .ok (.aload_n 0, 1) := by decide +kernel
theorem dX8_lookAtPiece_63 : decode cX8_lookAtPiece 63 = .ok (.getfield 92, 3) := by decide +kernel
theorem dX8_lookAtPiece_66 : decode cX8_lookAtPiece 66 = .ok (.aload_n 0, 1) := by decide +kernel
theorem dX8_lookAtPiece_67 : decode cX8_lookAtPiece 67 = .ok (.getfield 7, 3) := by decide +kernel
theorem dX8_lookAtPiece_70 : decode cX8_lookAtPiece 70 = .ok (.iload_n 3, 1) := by decide +kernel
theorem dX8_lookAtPiece_71 : decode cX8_lookAtPiece 71 = .ok (.iaload, 1) := by decide +kernel
theorem dX8_lookAtPiece_72 : decode cX8_lookAtPiece 72 = .ok (.baload, 1) := by decide +kernel
theorem dX8_lookAtPiece_73 : decode cX8_lookAtPiece 73 = .ok (.ifCond .ne 17, 3) := by decide +kernel
theorem dX8_lookAtPiece_76 : decode cX8_lookAtPiece 76 = .ok (.aload_n 0, 1) := by decide +kernel
theorem dX8_lookAtPiece_77 : decode cX8_lookAtPiece 77 = .ok (.getfield 92, 3) := by decide +kernel
theorem dX8_lookAtPiece_80 : decode cX8_lookAtPiece 80 = .ok (.aload_n 0, 1) := by decide +kernel
theorem dX8_lookAtPiece_81 : decode cX8_lookAtPiece 81 = .ok (.getfield 13, 3) := by decide +kernel
theorem dX8_lookAtPiece_84 : decode cX8_lookAtPiece 84 = .ok (.iload_n 3, 1) := by decide +kernel
theorem dX8_lookAtPiece_85 : decode cX8_lookAtPiece 85 = .ok (.iaload, 1) := by decide +kernel
theorem dX8_lookAtPiece_86 : decode cX8_lookAtPiece 86 = .ok (.baload, 1) := by decide +kernel
theorem dX8_lookAtPiece_87 : decode cX8_lookAtPiece 87 = .ok (.ifCond .eq 7, 3) := by decide +kernel
theorem dX8_lookAtPiece_90 : decode cX8_lookAtPiece 90 = .ok (.iconst 1, 1) := by decide +kernel
theorem dX8_lookAtPiece_91 : decode cX8_lookAtPiece 91 = .ok (.goto 4, 3) := by decide +kernel
theorem dX8_lookAtPiece_94 : decode cX8_lookAtPiece 94 = .ok (.iconst 0, 1) := by decide +kernel
theorem dX8_lookAtPiece_95 : decode cX8_lookAtPiece 95 = .ok (.istore 4, 2) := by decide +kernel
theorem dX8_lookAtPiece_97 : decode cX8_lookAtPiece 97 = .ok (.aload_n 0, 1) := by decide +kernel
theorem dX8_lookAtPiece_98 : decode cX8_lookAtPiece 98 = .ok (.getfield 92, 3) := by decide +kernel
theorem dX8_lookAtPiece_101 : decode cX8_lookAtPiece 101 = .ok (.aload_n 0, 1) := by decide +kernel
theorem dX8_lookAtPiece_102 : decode cX8_lookAtPiece 102 = .ok (.getfield 7, 3) := by decide +kernel
theorem dX8_lookAtPiece_105 : decode cX8_lookAtPiece 105 = .ok (.iload_n 3, 1) := by decide +kernel
theorem dX8_lookAtPiece_106 : decode cX8_lookAtPiece 106 = .ok (.iaload, 1) := by decide +kernel
theorem dX8_lookAtPiece_107 : decode cX8_lookAtPiece 107 = .ok (.iload 4, 2) := by decide +kernel
theorem dX8_lookAtPiece_109 : decode cX8_lookAtPiece 109 = .ok (.bastore, 1) := by decide +kernel
theorem dX8_lookAtPiece_110 : decode cX8_lookAtPiece 110 = .ok (.aload_n 0, 1) := by decide +kernel
theorem dX8_lookAtPiece_111 : decode cX8_lookAtPiece 111 = .ok (.getfield 92, 3) := by decide +kernel
theorem dX8_lookAtPiece_114 : decode cX8_lookAtPiece 114 = .ok (.aload_n 0, 1) := by decide +kernel
theorem dX8_lookAtPiece_115 : decode cX8_lookAtPiece 115 = .ok (.getfield 13, 3) := by decide +kernel
theorem dX8_lookAtPiece_118 : decode cX8_lookAtPiece 118 = .ok (.iload_n 3, 1) := by decide +kernel
theorem dX8_lookAtPiece_119 : decode cX8_lookAtPiece 119 = .ok (.iaload, 1) := by decide +kernel
theorem dX8_lookAtPiece_120 : decode cX8_lookAtPiece 120 = .ok (.iload 4, 2) := by decide +kernel
theorem dX8_lookAtPiece_122 : decode cX8_lookAtPiece 122 = .ok (.bastore, 1) := by decide +kernel
theorem dX8_lookAtPiece_123 : decode cX8_lookAtPiece 123 = .ok (.iinc 3 1, 3) := by decide +kernel
theorem dX8_lookAtPiece_126 : decode cX8_lookAtPiece 126 = .ok (.goto (-84), 3) := by decide +kernel
theorem dX8_lookAtPiece_129 : decode cX8_lookAtPiece 129 = .ok (.iinc 2 1, 3) := by decide +kernel
theorem dX8_lookAtPiece_132 : decode cX8_lookAtPiece 132 = .ok (.goto (-100), 3) := by decide +kernel
theorem dX8_lookAtPiece_135 : decode cX8_lookAtPiece 135 = .ok (.aload_n 0, 1) := by decide +kernel
theorem dX8_lookAtPiece_136 : decode cX8_lookAtPiece 136 = .ok (.iconst 0, 1) := by decide +kernel
theorem dX8_lookAtPiece_137 : decode cX8_lookAtPiece 137 = .ok (.putfield 230, 3) := by decide +kernel
theorem dX8_lookAtPiece_140 : decode cX8_lookAtPiece 140 = .ok (.iconst 0, 1) := by decide +kernel
theorem dX8_lookAtPiece_141 : decode cX8_lookAtPiece 141 = .ok (.istore_n 2, 1) := by decide +kernel
theorem dX8_lookAtPiece_142 : decode cX8_lookAtPiece 142 = .ok (.iload_n 2, 1) := by decide +kernel
theorem dX8_lookAtPiece_143 : decode cX8_lookAtPiece 143 = .ok (.aload_n 0, 1) := by decide +kernel
theorem dX8_lookAtPiece_144 : decode cX8_lookAtPiece 144 = .ok (.getfield 110, 3) := by decide +kernel
theorem dX8_lookAtPiece_147 : decode cX8_lookAtPiece 147 = .ok (.if_icmp .ge 58, 3) := by decide +kernel
theorem dX8_lookAtPiece_150 : decode cX8_lookAtPiece 150 = .ok (.aload_n 0, 1) := by decide +kernel
theorem dX8_lookAtPiece_151 : decode cX8_lookAtPiece 151 = .ok (.getfield 89, 3) := by decide +kernel
theorem dX8_lookAtPiece_154 : decode cX8_lookAtPiece 154 = .ok (.iload_n 2, 1) := by decide +kernel
theorem dX8_lookAtPiece_155 : decode cX8_lookAtPiece 155 = .ok (.aload_n 0, 1) := by decide +kernel
theorem dX8_lookAtPiece_156 : decode cX8_lookAtPiece 156 = .ok (.getfield 92, 3) := by decide +kernel
theorem dX8_lookAtPiece_159 : decode cX8_lookAtPiece 159 = .ok (.iload_n 2, 1) := by decide +kernel
theorem dX8_lookAtPiece_160 : decode cX8_lookAtPiece 160 = .ok (.baload, 1) := by decide +kernel
theorem dX8_lookAtPiece_161 : decode cX8_lookAtPiece 161 = .ok (.ifCond .eq 10, 3) := by decide +kernel
theorem dX8_lookAtPiece_164 : decode cX8_lookAtPiece 164 = .ok (.aload_n 0, 1) := by decide +kernel
theorem dX8_lookAtPiece_165 : decode cX8_lookAtPiece 165 = .ok (.getfield 230, 3) := by decide +kernel
theorem dX8_lookAtPiece_168 : decode cX8_lookAtPiece 168 = .ok (.goto 4, 3) := by decide +kernel
theorem dX8_lookAtPiece_171 : decode cX8_lookAtPiece 171 = .ok (.iconst (-1), 1) := by decide +kernel
theorem dX8_lookAtPiece_172 : decode cX8_lookAtPiece 172 = .ok (.iastore, 1) := by decide +kernel
theorem dX8_lookAtPiece_173 : decode cX8_lookAtPiece 173 = .ok (.aload_n 0, 1) := by decide +kernel
theorem dX8_lookAtPiece_174 : decode cX8_lookAtPiece 174 = .ok (.getfield 92, 3) := by decide +kernel
theorem dX8_lookAtPiece_177 : decode cX8_lookAtPiece 177 = .ok (.iload_n 2, 1) := by decide +kernel
theorem dX8_lookAtPiece_178 : decode cX8_lookAtPiece 178 = .ok (.baload, 1) := by decide +kernel
theorem dX8_lookAtPiece_179 : decode cX8_lookAtPiece 179 = .ok (.ifCond .eq 20, 3) := by decide +kernel
theorem dX8_lookAtPiece_182 : decode cX8_lookAtPiece 182 = .ok (.aload_n 0, 1) := by decide +kernel
theorem dX8_lookAtPiece_183 : decode cX8_lookAtPiece 183 = .ok (.getfield 86, 3) := by decide +kernel
theorem dX8_lookAtPiece_186 : decode cX8_lookAtPiece 186 = .ok (.aload_n 0, 1) := by decide +kernel
theorem dX8_lookAtPiece_187 : decode cX8_lookAtPiece 187 = .ok (.dup, 1) := by decide +kernel
theorem dX8_lookAtPiece_188 : decode cX8_lookAtPiece 188 = .ok (.getfield 230, 3) := by decide +kernel
theorem dX8_lookAtPiece_191 : decode cX8_lookAtPiece 191 = .ok (.dup_x1, 1) := by decide +kernel
theorem dX8_lookAtPiece_192 : decode cX8_lookAtPiece 192 = .ok (.iconst 1, 1) := by decide +kernel
theorem dX8_lookAtPiece_193 : decode cX8_lookAtPiece 193 = .ok (.iadd, 1) := by decide +kernel
theorem dX8_lookAtPiece_194 : decode cX8_lookAtPiece 194 = .ok (.putfield 230, 3) := by decide +kernel
theorem dX8_lookAtPiece_197 : decode cX8_lookAtPiece 197 = .ok (.iload_n 2, 1) := by decide +kernel
theorem dX8_lookAtPiece_198 : decode cX8_lookAtPiece 198 = .ok (.iastore, 1) := by decide +kernel
theorem dX8_lookAtPiece_199 : decode cX8_lookAtPiece 199 = .ok (.iinc 2 1, 3) := by decide +kernel
theorem dX8_lookAtPiece_202 : decode cX8_lookAtPiece 202 = .ok (.goto (-60), 3) := by decide +kernel
theorem dX8_lookAtPiece_205 : decode cX8_lookAtPiece 205 = .ok (.iconst 0, 1) := by decide +kernel
theorem dX8_lookAtPiece_206 : decode cX8_lookAtPiece 206 = .ok (.istore_n 2, 1) := by decide +kernel
theorem dX8_lookAtPiece_207 : decode cX8_lookAtPiece 207 = .ok (.iconst 0, 1) := by decide +kernel
theorem dX8_lookAtPiece_208 : decode cX8_lookAtPiece 208 = .ok (.istore_n 3, 1) := by decide +kernel
theorem dX8_lookAtPiece_209 : decode cX8_lookAtPiece 209 = .ok (.iload_n 2, 1) := by decide +kernel
theorem dX8_lookAtPiece_210 : decode cX8_lookAtPiece 210 = .ok (.iconst 5, 1) := by decide +kernel
theorem dX8_lookAtPiece_211 : decode cX8_lookAtPiece 211 = .ok (.if_icmp .ge 31, 3) := by decide +kernel
theorem dX8_lookAtPiece_214 : decode cX8_lookAtPiece 214 = .ok (.iload_n 2, 1) := by decide +kernel
theorem dX8_lookAtPiece_215 : decode cX8_lookAtPiece 215 = .ok (.aload_n 0, 1) := by decide +kernel
theorem dX8_lookAtPiece_216 : decode cX8_lookAtPiece 216 = .ok (.iload_n 2, 1) := by decide +kernel
theorem dX8_lookAtPiece_217 : decode cX8_lookAtPiece 217 = .ok (.aload_n 0, 1) := by decide +kernel
theorem dX8_lookAtPiece_218 : decode cX8_lookAtPiece 218 = .ok (.getfield 83, 3) := by decide +kernel
theorem dX8_lookAtPiece_221 : decode cX8_lookAtPiece 221 = .ok (.iload_n 3, 1) := by decide +kernel
theorem dX8_lookAtPiece_222 : decode cX8_lookAtPiece 222 = .ok (.laload, 1) := by decide +kernel
theorem dX8_lookAtPiece_223 : decode cX8_lookAtPiece 223 = .ok (.invokevirtual 233, 3) := by decide +kernel
theorem dX8_lookAtPiece_226 : decode cX8_lookAtPiece 226 = .ok (.ifCond .eq 7, 3) := by decide +kernel
theorem dX8_lookAtPiece_229 : decode cX8_lookAtPiece 229 = .ok (.iconst 1, 1) := by decide +kernel
theorem dX8_lookAtPiece_230 : decode cX8_lookAtPiece 230 = .ok (.goto 4, 3) := by decide +kernel
theorem dX8_lookAtPiece_233 : decode cX8_lookAtPiece 233 = .ok (.iconst 0, 1) := by decide +kernel
theorem dX8_lookAtPiece_234 : decode cX8_lookAtPiece 234 = .ok (.iadd, 1) := by decide +kernel
theorem dX8_lookAtPiece_235 : decode cX8_lookAtPiece 235 = .ok (.istore_n 2, 1) := by decide +kernel
theorem dX8_lookAtPiece_236 : decode cX8_lookAtPiece 236 = .ok (.iinc 3 1, 3) := by decide +kernel
theorem dX8_lookAtPiece_239 : decode cX8_lookAtPiece 239 = .ok (.goto (-30), 3) := by decide +kernel
theorem dX8_lookAtPiece_242 : decode cX8_lookAtPiece 242 = .ok (.return_, 1) := by decide +kernel
theorem dX8_power_0 : decode cX8_power 0 = .ok (.lconst 1, 1) := by decide +kernel
theorem dX8_power_1 : decode cX8_power 1 = .ok (.lstore 6, 2) := by decide +kernel
theorem dX8_power_3 : decode cX8_power 3 = .ok (.lload_n 0, 1) := by decide +kernel
theorem dX8_power_4 : decode cX8_power 4 = .ok (.lstore 8, 2) := by decide +kernel
theorem dX8_power_6 : decode cX8_power 6 = .ok (.lload_n 2, 1) := by decide +kernel
theorem dX8_power_7 : decode cX8_power 7 = .ok (.lstore 10, 2) := by decide +kernel
theorem dX8_power_9 : decode cX8_power 9 = .ok (.lload 10, 2) := by decide +kernel
theorem dX8_power_11 : decode cX8_power 11 = .ok (.lconst 0, 1) := by decide +kernel
theorem dX8_power_12 : decode cX8_power 12 = .ok (.lcmp, 1) := by decide +kernel
theorem dX8_power_13 : decode cX8_power 13 = .ok (.ifCond .le 41, 3) := by decide +kernel
theorem dX8_power_16 : decode cX8_power 16 = .ok (.lload 10, 2) := by decide +kernel
theorem dX8_power_18 : decode cX8_power 18 = .ok (.lconst 1, 1) := by decide +kernel
theorem dX8_power_19 : decode cX8_power 19 = .ok (.land, 1) := by decide +kernel
theorem dX8_power_20 : decode cX8_power 20 = .ok (.lconst 1, 1) := by decide +kernel
theorem dX8_power_21 : decode cX8_power 21 = .ok (.lcmp, 1) := by decide +kernel
theorem dX8_power_22 : decode cX8_power 22 = .ok (.ifCond .ne 13, 3) := by decide +kernel
theorem dX8_power_25 : decode cX8_power 25 = .ok (.lload 6, 2) := by decide +kernel
theorem dX8_power_27 : decode cX8_power 27 = .ok (.lload 8, 2) := by decide +kernel
theorem dX8_power_29 : decode cX8_power 29 = .ok (.lmul, 1) := by decide +kernel
theorem dX8_power_30 : decode cX8_power 30 = .ok (.lload 4, 2) := by decide +kernel
theorem dX8_power_32 : decode cX8_power 32 = .ok (.lrem, 1) := by decide +kernel
theorem dX8_power_33 : decode cX8_power 33 = .ok (.lstore 6, 2) := by decide +kernel
theorem dX8_power_35 : decode cX8_power 35 = .ok (.lload 8, 2) := by decide +kernel
theorem dX8_power_37 : decode cX8_power 37 = .ok (.lload 8, 2) := by decide +kernel
theorem dX8_power_39 : decode cX8_power 39 = .ok (.lmul, 1) := by decide +kernel
theorem dX8_power_40 : decode cX8_power 40 = .ok (.lload 4, 2) := by decide +kernel
theorem dX8_power_42 : decode cX8_power 42 = .ok (.lrem, 1) := by decide +kernel
theorem dX8_power_43 : decode cX8_power 43 = .ok (.lstore 8, 2) := by decide +kernel
theorem dX8_power_45 : decode cX8_power 45 = .ok (.lload 10, 2) := by decide +kernel
theorem dX8_power_47 : decode cX8_power 47 = .ok (.iconst 1, 1) := by decide +kernel
theorem dX8_power_48 : decode cX8_power 48 = .ok (.lshr, 1) := by decide +kernel
theorem dX8_power_49 : decode cX8_power 49 = .ok (.lstore 10, 2) := by decide +kernel
theorem dX8_power_51 : decode cX8_power 51 = .ok (.goto (-42), 3) := by decide +kernel
theorem dX8_power_54 : decode cX8_power 54 = .ok (.lload 6, 2) := by decide +kernel
theorem dX8_power_56 : decode cX8_power 56 = .ok (.lreturn, 1) := by decide +kernel
theorem dX8_invert_0 : decode cX8_invert 0 = .ok (.aload_n 0, 1) := by decide +kernel
theorem dX8_invert_1 : decode cX8_invert 1 = .ok (.getfield 230, 3) := by decide +kernel
theorem dX8_invert_4 : decode cX8_invert 4 = .ok (.iconst 1, 1) := by decide +kernel
theorem dX8_invert_5 : decode cX8_invert 5 = .ok (.isub, 1) := by decide +kernel
theorem dX8_invert_6 : decode cX8_invert 6 = .ok (.istore 4, 2) := by decide +kernel
theorem dX8_invert_8 : decode cX8_invert 8 = .ok (.iconst 2, 1) := by decide +kernel
theorem dX8_invert_9 : decode cX8_invert 9 = .ok (.iload 4, 2) := by decide +kernel
theorem dX8_invert_11 : decode cX8_invert 11 = .ok (.imul, 1) := by decide +kernel
theorem dX8_invert_12 : decode cX8_invert 12 = .ok (.istore 5, 2) := by decide +kernel
theorem dX8_invert_14 : decode cX8_invert 14 = .ok (.iconst 0, 1) := by decide +kernel
theorem dX8_invert_15 : decode cX8_invert 15 = .ok (.istore 6, 2) := by decide +kernel
theorem dX8_invert_17 : decode cX8_invert 17 = .ok (.iload 6, 2) := by decide +kernel
theorem dX8_invert_19 : decode cX8_invert 19 = .ok (.iload 4, 2) := by decide +kernel
theorem dX8_invert_21 : decode cX8_invert 21 = .ok (.if_icmp .ge 53, 3) := by decide +kernel
theorem dX8_invert_24 : decode cX8_invert 24 = .ok (.iconst 0, 1) := by decide +kernel
theorem dX8_invert_25 : decode cX8_invert 25 = .ok (.istore 7, 2) := by decide +kernel
theorem dX8_invert_27 : decode cX8_invert 27 = .ok (.iload 7, 2) := by decide +kernel
theorem dX8_invert_29 : decode cX8_invert 29 = .ok (.iload 5, 2) := by decide +kernel
theorem dX8_invert_31 : decode cX8_invert 31 = .ok (.if_icmp .ge 37, 3) := by decide +kernel
theorem dX8_invert_34 : decode cX8_invert 34 = .ok (.aload_n 0, 1) := by decide +kernel
theorem dX8_invert_35 : decode cX8_invert 35 = .ok (.getfield 95, 3) := by decide +kernel
theorem dX8_invert_38 : decode cX8_invert 38 = .ok (.iload 5, 2) := by decide +kernel
theorem dX8_invert_40 : decode cX8_invert 40 = .ok (.iload 6, 2) := by decide +kernel
theorem dX8_invert_42 : decode cX8_invert 42 = .ok (.imul, 1) := by decide +kernel
theorem dX8_invert_43 : decode cX8_invert 43 = .ok (.iload 7, 2) := by decide +kernel
theorem dX8_invert_45 : decode cX8_invert 45 = .ok (.iadd, 1) := by decide +kernel
theorem dX8_invert_46 : decode cX8_invert 46 = .ok (.iload 7, 2) := by decide +kernel
theorem dX8_invert_48 : decode cX8_invert 48 = .ok (.iload 4, 2) := by decide +kernel
theorem dX8_invert_50 : decode cX8_invert 50 = .ok (.isub, 1) := by decide +kernel
theorem dX8_invert_51 : decode cX8_invert 51 = .ok (.iload 6, 2) := by decide +kernel
theorem dX8_invert_53 : decode cX8_invert 53 = .ok (.if_icmp .ne 7, 3) := by decide +kernel
theorem dX8_invert_56 : decode cX8_invert 56 = .ok (.lconst 1, 1) := by decide +kernel
theorem dX8_invert_57 : decode cX8_invert 57 = .ok (.goto 4, 3) := by decide +kernel
theorem dX8_invert_60 : decode cX8_invert 60 = .ok (.lconst 0, 1) := by decide +kernel
theorem dX8_invert_61 : decode cX8_invert 61 = .ok (.lastore, 1) := by decide +kernel
theorem dX8_invert_62 : decode cX8_invert 62 = .ok (.iinc 7 1, 3) := by decide +kernel
theorem dX8_invert_65 : decode cX8_invert 65 = .ok (.goto (-38), 3) := by decide +kernel
theorem dX8_invert_68 : decode cX8_invert 68 = .ok (.iinc 6 1, 3) := by decide +kernel
theorem dX8_invert_71 : decode cX8_invert 71 = .ok (.goto (-54), 3) := by decide +kernel
theorem dX8_invert_74 : decode cX8_invert 74 = .ok (.iconst 0, 1) := by decide +kernel
theorem dX8_invert_75 : decode cX8_invert 75 = .ok (.istore 6, 2) := by decide +kernel
theorem dX8_invert_77 : decode cX8_invert 77 = .ok (.iload 6, 2) := by decide +kernel
theorem dX8_invert_79 : decode cX8_invert 79 = .ok (.aload_n 0, 1) := by decide +kernel
theorem dX8_invert_80 : decode cX8_invert 80 = .ok (.getfield 113, 3) := by decide +kernel
theorem dX8_invert_83 : decode cX8_invert 83 = .ok (.if_icmp .ge 184, 3) := by decide +kernel
theorem dX8_invert_86 : decode cX8_invert 86 = .ok (.aload_n 0, 1) := by decide +kernel
theorem dX8_invert_87 : decode cX8_invert 87 = .ok (.getfield 89, 3) := by decide +kernel
theorem dX8_invert_90 : decode cX8_invert 90 = .ok (.aload_n 0, 1) := by decide +kernel
theorem dX8_invert_91 : decode cX8_invert 91 = .ok (.getfield 7, 3) := by decide +kernel
theorem dX8_invert_94 : decode cX8_invert 94 = .ok (.iload 6, 2) := by decide +kernel
theorem dX8_invert_96 : decode cX8_invert 96 = .ok (.iaload, 1) := by decide +kernel
theorem dX8_invert_97 : decode cX8_invert 97 = .ok (.iaload, 1) := by decide +kernel
theorem dX8_invert_98 : decode cX8_invert 98 = .ok (.istore 7, 2) := by decide +kernel
theorem dX8_invert_100 : decode cX8_invert 100 = .ok (.aload_n 0, 1) := by decide +kernel
theorem dX8_invert_101 : decode cX8_invert 101 = .ok (.getfield 89, 3) := by decide +kernel
theorem dX8_invert_104 : decode cX8_invert 104 = .ok (.aload_n 0, 1) := by decide +kernel
theorem dX8_invert_105 : decode cX8_invert 105 = .ok (.getfield 13, 3) := by decide +kernel
theorem dX8_invert_108 : decode cX8_invert 108 = .ok (.iload 6, 2) := by decide +kernel
theorem dX8_invert_110 : decode cX8_invert 110 = .ok (.iaload, 1) := by decide +kernel
theorem dX8_invert_111 : decode cX8_invert 111 = .ok (.iaload, 1) := by decide +kernel
theorem dX8_invert_112 : decode cX8_invert 112 = .ok (.istore 8, 2) := by decide +kernel
theorem dX8_invert_114 : decode cX8_invert 114 = .ok (.iload 7, 2) := by decide +kernel
theorem dX8_invert_116 : decode cX8_invert 116 = .ok (.iconst (-1), 1) := by decide +kernel
theorem dX8_invert_117 : decode cX8_invert 117 = .ok (.if_icmp .eq 144, 3) := by decide +kernel
theorem dX8_invert_120 : decode cX8_invert 120 = .ok (.aload_n 0, 1) := by decide +kernel
theorem dX8_invert_121 : decode cX8_invert 121 = .ok (.getfield 16, 3) := by decide +kernel
theorem dX8_invert_124 : decode cX8_invert 124 = .ok (.iload 6, 2) := by decide +kernel
theorem dX8_invert_126 : decode cX8_invert 126 = .ok (.iaload, 1) := by decide +kernel
theorem dX8_invert_127 : decode cX8_invert 127 = .ok (.ifCond .ne 6, 3) := by decide +kernel
theorem dX8_invert_130 : decode cX8_invert 130 = .ok (.goto 131, 3) := by decide +kernel
theorem dX8_invert_133 : decode cX8_invert 133 = .ok (.iload 7, 2) := by decide +kernel
theorem dX8_invert_135 : decode cX8_invert 135 = .ok (.iload 4, 2) := by decide +kernel
theorem dX8_invert_137 : decode cX8_invert 137 = .ok (.if_icmp .ge 27, 3) := by decide +kernel
theorem dX8_invert_140 : decode cX8_invert 140 = .ok (.aload_n 0, 1) := by decide +kernel
theorem dX8_invert_141 : decode cX8_invert 141 = .ok (.getfield 95, 3) := by decide +kernel
theorem dX8_invert_144 : decode cX8_invert 144 = .ok (.iload 5, 2) := by decide +kernel
theorem dX8_invert_146 : decode cX8_invert 146 = .ok (.iload 7, 2) := by decide +kernel
theorem dX8_invert_148 : decode cX8_invert 148 = .ok (.imul, 1) := by decide +kernel
theorem dX8_invert_149 : decode cX8_invert 149 = .ok (.iload 7, 2) := by decide +kernel
theorem dX8_invert_151 : decode cX8_invert 151 = .ok (.iadd, 1) := by decide +kernel
theorem dX8_invert_152 : decode cX8_invert 152 = .ok (.dup2, 1) := by decide +kernel
theorem dX8_invert_153 : decode cX8_invert 153 = .ok (.laload, 1) := by decide +kernel
theorem dX8_invert_154 : decode cX8_invert 154 = .ok (.aload_n 0, 1) := by decide +kernel
theorem dX8_invert_155 : decode cX8_invert 155 = .ok (.getfield 16, 3) := by decide +kernel
theorem dX8_invert_158 : decode cX8_invert 158 = .ok (.iload 6, 2) := by decide +kernel
theorem dX8_invert_160 : decode cX8_invert 160 = .ok (.iaload, 1) := by decide +kernel
theorem dX8_invert_161 : decode cX8_invert 161 = .ok (.i2l, 1) := by decide +kernel
theorem dX8_invert_162 : decode cX8_invert 162 = .ok (.ladd, 1) := by decide +kernel
theorem dX8_invert_163 : decode cX8_invert 163 = .ok (.lastore, 1) := by decide +kernel
theorem dX8_invert_164 : decode cX8_invert 164 = .ok (.iload 8, 2) := by decide +kernel
theorem dX8_invert_166 : decode cX8_invert 166 = .ok (.iload 4, 2) := by decide +kernel
theorem dX8_invert_168 : decode cX8_invert 168 = .ok (.if_icmp .ge 27, 3) := by decide +kernel
theorem dX8_invert_171 : decode cX8_invert 171 = .ok (.aload_n 0, 1) := by decide +kernel
theorem dX8_invert_172 : decode cX8_invert 172 = .ok (.getfield 95, 3) := by decide +kernel
theorem dX8_invert_175 : decode cX8_invert 175 = .ok (.iload 5, 2) := by decide +kernel
theorem dX8_invert_177 : decode cX8_invert 177 = .ok (.iload 8, 2) := by decide +kernel
theorem dX8_invert_179 : decode cX8_invert 179 = .ok (.imul, 1) := by decide +kernel
theorem dX8_invert_180 : decode cX8_invert 180 = .ok (.iload 8, 2) := by decide +kernel
theorem dX8_invert_182 : decode cX8_invert 182 = .ok (.iadd, 1) := by decide +kernel
theorem dX8_invert_183 : decode cX8_invert 183 = .ok (.dup2, 1) := by decide +kernel
theorem dX8_invert_184 : decode cX8_invert 184 = .ok (.laload, 1) := by decide +kernel
theorem dX8_invert_185 : decode cX8_invert 185 = .ok (.aload_n 0, 1) := by decide +kernel
theorem dX8_invert_186 : decode cX8_invert 186 = .ok (.getfield 16, 3) := by decide +kernel
theorem dX8_invert_189 : decode cX8_invert 189 = .ok (.iload 6, 2) := by decide +kernel
theorem dX8_invert_191 : decode cX8_invert 191 = .ok (.iaload, 1) := by decide +kernel
theorem dX8_invert_192 : decode cX8_invert 192 = .ok (.i2l, 1) := by decide +kernel
theorem dX8_invert_193 : decode cX8_invert 193 = .ok (.ladd, 1) := by decide +kernel
theorem dX8_invert_194 : decode cX8_invert 194 = .ok (.lastore, 1) := by decide +kernel
theorem dX8_invert_195 : decode cX8_invert 195 = .ok (.iload 7, 2) := by decide +kernel
theorem dX8_invert_197 : decode cX8_invert 197 = .ok (.iload 4, 2) := by decide +kernel
theorem dX8_invert_199 : decode cX8_invert 199 = .ok (.if_icmp .ge 62, 3) := by decide +kernel
theorem dX8_invert_202 : decode cX8_invert 202 = .ok (.iload 8, 2) := by decide +kernel
theorem dX8_invert_204 : decode cX8_invert 204 = .ok (.iload 4, 2) := by decide +kernel
theorem dX8_invert_206 : decode cX8_invert 206 = .ok (.if_icmp .ge 55, 3) := by decide +kernel
theorem dX8_invert_209 : decode cX8_invert 209 = .ok (.aload_n 0, 1) := by decide +kernel
theorem dX8_invert_210 : decode cX8_invert 210 = .ok (.getfield 95, 3) := by decide +kernel
theorem dX8_invert_213 : decode cX8_invert 213 = .ok (.iload 5, 2) := by decide +kernel
theorem dX8_invert_215 : decode cX8_invert 215 = .ok (.iload 7, 2) := by decide +kernel
theorem dX8_invert_217 : decode cX8_invert 217 = .ok (.imul, 1) := by decide +kernel
theorem dX8_invert_218 : decode cX8_invert 218 = .ok (.iload 8, 2) := by decide +kernel
theorem dX8_invert_220 : decode cX8_invert 220 = .ok (.iadd, 1) := by decide +kernel
theorem dX8_invert_221 : decode cX8_invert 221 = .ok (.dup2, 1) := by decide +kernel
theorem dX8_invert_222 : decode cX8_invert 222 = .ok (.laload, 1) := by decide +kernel
theorem dX8_invert_223 : decode cX8_invert 223 = .ok (.lload_n 2, 1) := by decide +kernel
theorem dX8_invert_224 : decode cX8_invert 224 = .ok (.aload_n 0, 1) := by decide +kernel
theorem dX8_invert_225 : decode cX8_invert 225 = .ok (.getfield 16, 3) := by decide +kernel
theorem dX8_invert_228 : decode cX8_invert 228 = .ok (.iload 6, 2) := by decide +kernel
theorem dX8_invert_230 : decode cX8_invert 230 = .ok (.iaload, 1) := by decide +kernel
theorem dX8_invert_231 : decode cX8_invert 231 = .ok (.i2l, 1) := by decide +kernel
theorem dX8_invert_232 : decode cX8_invert 232 = .ok (.lsub, 1) := by decide +kernel
theorem dX8_invert_233 : decode cX8_invert 233 = .ok (.ladd, 1) := by decide +kernel
theorem dX8_invert_234 : decode cX8_invert 234 = .ok (.lastore, 1) := by decide +kernel
theorem dX8_invert_235 : decode cX8_invert 235 = .ok (.aload_n 0, 1) := by decide +kernel
theorem dX8_invert_236 : decode cX8_invert 236 = .ok (.getfield 95, 3) := by decide +kernel
theorem dX8_invert_239 : decode cX8_invert 239 = .ok (.iload 5, 2) := by decide +kernel
theorem dX8_invert_241 : decode cX8_invert 241 = .ok (.iload 8, 2) := by decide +kernel
theorem dX8_invert_243 : decode cX8_invert 243 = .ok (.imul, 1) := by decide +kernel
theorem dX8_invert_244 : decode cX8_invert 244 = .ok (.iload 7, 2) := by decide +kernel
theorem dX8_invert_246 : decode cX8_invert 246 = .ok (.iadd, 1) := by decide +kernel
theorem dX8_invert_247 : decode cX8_invert 247 = .ok (.dup2, 1) := by decide +kernel
theorem dX8_invert_248 : decode cX8_invert 248 = .ok (.laload, 1) := by decide +kernel
theorem dX8_invert_249 : decode cX8_invert 249 = .ok (.lload_n 2, 1) := by decide +kernel
theorem dX8_invert_250 : decode cX8_invert 250 = .ok (.aload_n 0, 1) := by decide +kernel
theorem dX8_invert_251 : decode cX8_invert 251 = .ok (.getfield 16, 3) := by decide +kernel
theorem dX8_invert_254 : decode cX8_invert 254 = .ok (.iload 6, 2) := by decide +kernel
theorem dX8_invert_256 : decode cX8_invert 256 = .ok (.iaload, 1) := by decide +kernel
theorem dX8_invert_257 : decode cX8_invert 257 = .ok (.i2l, 1) := by decide +kernel
theorem dX8_invert_258 : decode cX8_invert 258 = .ok (.lsub, 1) := by decide +kernel
theorem dX8_invert_259 : decode cX8_invert 259 = .ok (.ladd, 1) := by decide +kernel
theorem dX8_invert_260 : decode cX8_invert 260 = .ok (.lastore, 1) := by decide +kernel
theorem dX8_invert_261 : decode cX8_invert 261 = .ok (.iinc 6 1, 3) := by decide +kernel
theorem dX8_invert_264 : decode cX8_invert 264 = .ok (.goto (-187), 3) := by decide +kernel
theorem dX8_invert_267 : decode cX8_invert 267 = .ok (.iconst 0, 1) := by decide +kernel
theorem dX8_invert_268 : decode cX8_invert 268 = .ok (.istore 6, 2) := by decide +kernel
theorem dX8_invert_270 : decode cX8_invert 270 = .ok (.iload 6, 2) := by decide +kernel
theorem dX8_invert_272 : decode cX8_invert 272 = .ok (.iload 5, 2) := by decide +kernel
theorem dX8_invert_274 : decode cX8_invert 274 = .ok (.iload 4, 2) := by decide +kernel
theorem dX8_invert_276 : decode cX8_invert 276 = .ok (.imul, 1) := by decide +kernel
theorem dX8_invert_277 : decode cX8_invert 277 = .ok (.if_icmp .ge 20, 3) := by decide +kernel
theorem dX8_invert_280 : decode cX8_invert 280 = .ok (.aload_n 0, 1) := by decide +kernel
theorem dX8_invert_281 : decode cX8_invert 281 = .ok (.getfield 95, 3) := by decide +kernel
theorem dX8_invert_284 : decode cX8_invert 284 = .ok (.iload 6, 2) := by decide +kernel
theorem dX8_invert_286 : decode cX8_invert 286 = .ok (.dup2, 1) := by decide +kernel
theorem dX8_invert_287 : decode cX8_invert 287 = .ok (.laload, 1) := by decide +kernel
theorem dX8_invert_288 : decode cX8_invert 288 = .ok (.lload_n 2, 1) := by decide +kernel
theorem dX8_invert_289 : decode cX8_invert 289 = .ok (.lrem, 1) := by decide +kernel
theorem dX8_invert_290 : decode cX8_invert 290 = .ok (.lastore, 1) := by decide +kernel
theorem dX8_invert_291 : decode cX8_invert 291 = .ok (.iinc 6 1, 3) := by decide +kernel
theorem dX8_invert_294 : decode cX8_invert 294 = .ok (.goto (-24), 3) := by decide +kernel
theorem dX8_invert_297 : decode cX8_invert 297 = .ok (.lconst 1, 1) := by decide +kernel
theorem dX8_invert_298 : decode cX8_invert 298 = .ok (.lstore 6, 2) := by decide +kernel
theorem dX8_invert_300 : decode cX8_invert 300 = .ok (.iconst 0, 1) := by decide +kernel
theorem dX8_invert_301 : decode cX8_invert 301 = .ok (.istore 8, 2) := by decide +kernel
theorem dX8_invert_303 : decode cX8_invert 303 = .ok (.iload 8, 2) := by decide +kernel
theorem dX8_invert_305 : decode cX8_invert 305 = .ok (.iload 4, 2) := by decide +kernel
theorem dX8_invert_307 : decode cX8_invert 307 = .ok (.if_icmp .ge 341, 3) := by decide +kernel
theorem dX8_invert_310 : decode cX8_invert 310 = .ok (.iload 8, 2) := by decide +kernel
theorem dX8_invert_312 : decode cX8_invert 312 = .ok (.istore 9, 2) := by decide +kernel
theorem dX8_invert_314 : decode cX8_invert 314 = .ok (.iload 9, 2) := by decide +kernel
theorem dX8_invert_316 : decode cX8_invert 316 = .ok (.iload 4, 2) := by decide +kernel
theorem dX8_invert_318 : decode cX8_invert 318 = .ok (.if_icmp .ge 27, 3) := by decide +kernel
theorem dX8_invert_321 : decode cX8_invert 321 = .ok (.aload_n 0, 1) := by decide +kernel
theorem dX8_invert_322 : decode cX8_invert 322 = .ok (.getfield 95, 3) := by decide +kernel
theorem dX8_invert_325 : decode cX8_invert 325 = .ok (.iload 5, 2) := by decide +kernel
theorem dX8_invert_327 : decode cX8_invert 327 = .ok (.iload 9, 2) := by decide +kernel
theorem dX8_invert_329 : decode cX8_invert 329 = .ok (.imul, 1) := by decide +kernel
theorem dX8_invert_330 : decode cX8_invert 330 = .ok (.iload 8, 2) := by decide +kernel
theorem dX8_invert_332 : decode cX8_invert 332 = .ok (.iadd, 1) := by decide +kernel
theorem dX8_invert_333 : decode cX8_invert 333 = .ok (.laload, 1) := by decide +kernel
theorem dX8_invert_334 : decode cX8_invert 334 = .ok (.lconst 0, 1) := by decide +kernel
theorem dX8_invert_335 : decode cX8_invert 335 = .ok (.lcmp, 1) := by decide +kernel
theorem dX8_invert_336 : decode cX8_invert 336 = .ok (.ifCond .ne 9, 3) := by decide +kernel
theorem dX8_invert_339 : decode cX8_invert 339 = .ok (.iinc 9 1, 3) := by decide +kernel
theorem dX8_invert_342 : decode cX8_invert 342 = .ok (.goto (-28), 3) := by decide +kernel
theorem dX8_invert_345 : decode cX8_invert 345 = .ok (.iload 9, 2) := by decide +kernel
theorem dX8_invert_347 : decode cX8_invert 347 = .ok (.iload 4, 2) := by decide +kernel
theorem dX8_invert_349 : decode cX8_invert 349 = .ok (.if_icmp .ne 5, 3) := by decide +kernel
theorem dX8_invert_352 : decode cX8_invert 352 = .ok (.iconst 0, 1) := by decide +kernel
theorem dX8_invert_353 : decode cX8_invert 353 = .ok (.ireturn, 1) := by decide +kernel
theorem dX8_invert_354 : decode cX8_invert 354 = .ok (.iconst 0, 1) := by decide +kernel
theorem dX8_invert_355 : decode cX8_invert 355 = .ok (.istore 10, 2) := by decide +kernel
theorem dX8_invert_357 : decode cX8_invert 357 = .ok (.iload 10, 2) := by decide +kernel
theorem dX8_invert_359 : decode cX8_invert 359 = .ok (.iload 5, 2) := by decide +kernel
theorem dX8_invert_361 : decode cX8_invert 361 = .ok (.if_icmp .ge 72, 3) := by decide +kernel
theorem dX8_invert_364 : decode cX8_invert 364 = .ok (.iload 9, 2) := by decide +kernel
theorem dX8_invert_366 : decode cX8_invert 366 = .ok (.iload 8, 2) := by decide +kernel
theorem dX8_invert_368 : decode cX8_invert 368 = .ok (.if_icmp .eq 65, 3) := by decide +kernel
theorem dX8_invert_371 : decode cX8_invert 371 = .ok (.aload_n 0, 1) := by decide +kernel
theorem dX8_invert_372 : decode cX8_invert 372 = .ok (.getfield 95, 3) := by decide +kernel
theorem dX8_invert_375 : decode cX8_invert 375 = .ok (.iload 5, 2) := by decide +kernel
theorem dX8_invert_377 : decode cX8_invert 377 = .ok (.iload 9, 2) := by decide +kernel
theorem dX8_invert_379 : decode cX8_invert 379 = .ok (.imul, 1) := by decide +kernel
theorem dX8_invert_380 : decode cX8_invert 380 = .ok (.iload 10, 2) := by decide +kernel
theorem dX8_invert_382 : decode cX8_invert 382 = .ok (.iadd, 1) := by decide +kernel
theorem dX8_invert_383 : decode cX8_invert 383 = .ok (.laload, 1) := by decide +kernel
theorem dX8_invert_384 : decode cX8_invert 384 = .ok (.lstore 11, 2) := by decide +kernel
theorem dX8_invert_386 : decode cX8_invert 386 = .ok (.aload_n 0, 1) := by decide +kernel
theorem dX8_invert_387 : decode cX8_invert 387 = .ok (.getfield 95, 3) := by decide +kernel
theorem dX8_invert_390 : decode cX8_invert 390 = .ok (.iload 5, 2) := by decide +kernel
theorem dX8_invert_392 : decode cX8_invert 392 = .ok (.iload 9, 2) := by decide +kernel
theorem dX8_invert_394 : decode cX8_invert 394 = .ok (.imul, 1) := by decide +kernel
theorem dX8_invert_395 : decode cX8_invert 395 = .ok (.iload 10, 2) := by decide +kernel
theorem dX8_invert_397 : decode cX8_invert 397 = .ok (.iadd, 1) := by decide +kernel
theorem dX8_invert_398 : decode cX8_invert 398 = .ok (.aload_n 0, 1) := by decide +kernel
theorem dX8_invert_399 : decode cX8_invert 399 = .ok (.getfield 95, 3) := by decide +kernel
theorem dX8_invert_402 : decode cX8_invert 402 = .ok (.iload 5, 2) := by decide +kernel
theorem dX8_invert_404 : decode cX8_invert 404 = .ok (.iload 8, 2) := by decide +kernel
theorem dX8_invert_406 : decode cX8_invert 406 = .ok (.imul, 1) := by decide +kernel
theorem dX8_invert_407 : decode cX8_invert 407 = .ok (.iload 10, 2) := by decide +kernel
theorem dX8_invert_409 : decode cX8_invert 409 = .ok (.iadd, 1) := by decide +kernel
theorem dX8_invert_410 : decode cX8_invert 410 = .ok (.laload, 1) := by decide +kernel
theorem dX8_invert_411 : decode cX8_invert 411 = .ok (.lastore, 1) := by decide +kernel
theorem dX8_invert_412 : decode cX8_invert 412 = .ok (.aload_n 0, 1) := by decide +kernel
theorem dX8_invert_413 : decode cX8_invert 413 = .ok (.getfield 95, 3) := by decide +kernel
theorem dX8_invert_416 : decode cX8_invert 416 = .ok (.iload 5, 2) := by decide +kernel
theorem dX8_invert_418 : decode cX8_invert 418 = .ok (.iload 8, 2) := by decide +kernel
theorem dX8_invert_420 : decode cX8_invert 420 = .ok (.imul, 1) := by decide +kernel
theorem dX8_invert_421 : decode cX8_invert 421 = .ok (.iload 10, 2) := by decide +kernel
theorem dX8_invert_423 : decode cX8_invert 423 = .ok (.iadd, 1) := by decide +kernel
theorem dX8_invert_424 : decode cX8_invert 424 = .ok (.lload 11, 2) := by decide +kernel
theorem dX8_invert_426 : decode cX8_invert 426 = .ok (.lastore, 1) := by decide +kernel
theorem dX8_invert_427 : decode cX8_invert 427 = .ok (.iinc 10 1, 3) := by decide +kernel
theorem dX8_invert_430 : decode cX8_invert 430 = .ok (.goto (-73), 3) := by decide +kernel
theorem dX8_invert_433 : decode cX8_invert 433 = .ok (.aload_n 0, 1) := by decide +kernel
theorem dX8_invert_434 : decode cX8_invert 434 = .ok (.getfield 95, 3) := by decide +kernel
theorem dX8_invert_437 : decode cX8_invert 437 = .ok (.iload 5, 2) := by decide +kernel
theorem dX8_invert_439 : decode cX8_invert 439 = .ok (.iload 8, 2) := by decide +kernel
theorem dX8_invert_441 : decode cX8_invert 441 = .ok (.imul, 1) := by decide +kernel
theorem dX8_invert_442 : decode cX8_invert 442 = .ok (.iload 8, 2) := by decide +kernel
theorem dX8_invert_444 : decode cX8_invert 444 = .ok (.iadd, 1) := by decide +kernel
theorem dX8_invert_445 : decode cX8_invert 445 = .ok (.laload, 1) := by decide +kernel
theorem dX8_invert_446 : decode cX8_invert 446 = .ok (.lstore 10, 2) := by decide +kernel
theorem dX8_invert_448 : decode cX8_invert 448 = .ok (.iload 9, 2) := by decide +kernel
theorem dX8_invert_450 : decode cX8_invert 450 = .ok (.iload 8, 2) := by decide +kernel
theorem dX8_invert_452 : decode cX8_invert 452 = .ok (.if_icmp .ne 8, 3) := by decide +kernel
theorem dX8_invert_455 : decode cX8_invert 455 = .ok (.lload 6, 2) := by decide +kernel
theorem dX8_invert_457 : decode cX8_invert 457 = .ok (.goto 7, 3) := by decide +kernel
theorem dX8_invert_460 : decode cX8_invert 460 = .ok (.lload_n 2, 1) := by decide +kernel
theorem dX8_invert_461 : decode cX8_invert 461 = .ok (.lload 6, 2) := by decide +kernel
theorem dX8_invert_463 : decode cX8_invert 463 = .ok (.lsub, 1) := by decide +kernel
theorem dX8_invert_464 : decode cX8_invert 464 = .ok (.lload 10, 2) := by decide +kernel
theorem dX8_invert_466 : decode cX8_invert 466 = .ok (.lmul, 1) := by decide +kernel
theorem dX8_invert_467 : decode cX8_invert 467 = .ok (.lload_n 2, 1) := by decide +kernel
theorem dX8_invert_468 : decode cX8_invert 468 = .ok (.lrem, 1) := by decide +kernel
theorem dX8_invert_469 : decode cX8_invert 469 = .ok (.lstore 6, 2) := by decide +kernel
theorem dX8_invert_471 : decode cX8_invert 471 = .ok (.lload 10, 2) := by decide +kernel
theorem dX8_invert_473 : decode cX8_invert 473 = .ok (.lload_n 2, 1) := by decide +kernel
theorem dX8_invert_474 : decode cX8_invert 474 = .ok (.ldc2_w 196, 3) := by decide +kernel
theorem dX8_invert_477 : decode cX8_invert 477 = .ok (.lsub, 1) := by decide +kernel
theorem dX8_invert_478 : decode cX8_invert 478 = .ok (.lload_n 2, 1) := by decide +kernel
theorem dX8_invert_479 : decode cX8_invert 479 = .ok (.invokestatic 237, 3) := by decide +kernel
theorem dX8_invert_482 : decode cX8_invert 482 = .ok (.lstore 12, 2) := by decide +kernel
theorem dX8_invert_484 : decode cX8_invert 484 = .ok (.iconst 0, 1) := by decide +kernel
theorem dX8_invert_485 : decode cX8_invert 485 = .ok (.istore 14, 2) := by decide +kernel
theorem dX8_invert_487 : decode cX8_invert 487 = .ok (.iload 14, 2) := by decide +kernel
theorem dX8_invert_489 : decode cX8_invert 489 = .ok (.iload 5, 2) := by decide +kernel
theorem dX8_invert_491 : decode cX8_invert 491 = .ok (.if_icmp .ge 40, 3) := by decide +kernel
theorem dX8_invert_494 : decode cX8_invert 494 = .ok (.aload_n 0, 1) := by decide +kernel
theorem dX8_invert_495 : decode cX8_invert 495 = .ok (.getfield 95, 3) := by decide +kernel
theorem dX8_invert_498 : decode cX8_invert 498 = .ok (.iload 5, 2) := by decide +kernel
theorem dX8_invert_500 : decode cX8_invert 500 = .ok (.iload 8, 2) := by decide +kernel
theorem dX8_invert_502 : decode cX8_invert 502 = .ok (.imul, 1) := by decide +kernel
theorem dX8_invert_503 : decode cX8_invert 503 = .ok (.iload 14, 2) := by decide +kernel
theorem dX8_invert_505 : decode cX8_invert 505 = .ok (.iadd, 1) := by decide +kernel
theorem dX8_invert_506 : decode cX8_invert 506 = .ok (.aload_n 0, 1) := by decide +kernel
theorem dX8_invert_507 : decode cX8_invert 507 = .ok (.getfield 95, 3) := by decide +kernel
theorem dX8_invert_510 : decode cX8_invert 510 = .ok (.iload 5, 2) := by decide +kernel
theorem dX8_invert_512 : decode cX8_invert 512 = .ok (.iload 8, 2) := by decide +kernel
theorem dX8_invert_514 : decode cX8_invert 514 = .ok (.imul, 1) := by decide +kernel
theorem dX8_invert_515 : decode cX8_invert 515 = .ok (.iload 14, 2) := by decide +kernel
theorem dX8_invert_517 : decode cX8_invert 517 = .ok (.iadd, 1) := by decide +kernel
theorem dX8_invert_518 : decode cX8_invert 518 = .ok (.laload, 1) := by decide +kernel
theorem dX8_invert_519 : decode cX8_invert 519 = .ok (.lload 12, 2) := by decide +kernel
theorem dX8_invert_521 : decode cX8_invert 521 = .ok (.lmul, 1) := by decide +kernel
theorem dX8_invert_522 : decode cX8_invert 522 = .ok (.lload_n 2, 1) := by decide +kernel
theorem dX8_invert_523 : decode cX8_invert 523 = .ok (.lrem, 1) := by decide +kernel
theorem dX8_invert_524 : decode cX8_invert 524 = .ok (.lastore, 1) := by decide +kernel
theorem dX8_invert_525 : decode cX8_invert 525 = .ok (.iinc 14 1, 3) := by decide +kernel
theorem dX8_invert_528 : decode cX8_invert 528 = .ok (.goto (-41), 3) := by decide +kernel
theorem dX8_invert_531 : decode cX8_invert 531 = .ok (.iconst 0, 1) := by decide +kernel
theorem dX8_invert_532 : decode cX8_invert 532 = .ok (.istore 14, 2) := by decide +kernel
theorem dX8_invert_534 : decode cX8_invert 534 = .ok (.iload 14, 2) := by decide +kernel
theorem dX8_invert_536 : decode cX8_invert 536 = .ok (.iload 4, 2) := by decide +kernel
theorem dX8_invert_538 : decode cX8_invert 538 = .ok (.if_icmp .ge 104, 3) := by decide +kernel
theorem dX8_invert_541 : decode cX8_invert 541 = .ok (.aload_n 0, 1) := by decide +kernel
theorem dX8_invert_542 : decode cX8_invert 542 = .ok (.getfield 95, 3) := by decide +kernel
theorem dX8_invert_545 : decode cX8_invert 545 = .ok (.iload 5, 2) := by decide +kernel
theorem dX8_invert_547 : decode cX8_invert 547 = .ok (.iload 14, 2) := by decide +kernel
theorem dX8_invert_549 : decode cX8_invert 549 = .ok (.imul, 1) := by decide +kernel
theorem dX8_invert_550 : decode cX8_invert 550 = .ok (.iload 8, 2) := by decide +kernel
theorem dX8_invert_552 : decode cX8_invert 552 = .ok (.iadd, 1) := by decide +kernel
theorem dX8_invert_553 : decode cX8_invert 553 = .ok (.laload, 1) := by decide +kernel
theorem dX8_invert_554 : decode cX8_invert 554 = .ok (.lstore 15, 2) := by decide +kernel
theorem dX8_invert_556 : decode cX8_invert 556 = .ok (.iload 14, 2) := by decide +kernel
theorem dX8_invert_558 : decode cX8_invert 558 = .ok (.iload 8, 2) := by decide +kernel
theorem dX8_invert_560 : decode cX8_invert 560 = .ok (.if_icmp .eq 76, 3) := by decide +kernel
theorem dX8_invert_563 : decode cX8_invert 563 = .ok (.lload 15, 2) := by decide +kernel
theorem dX8_invert_565 : decode cX8_invert 565 = .ok (.lconst 0, 1) := by decide +kernel
theorem dX8_invert_566 : decode cX8_invert 566 = .ok (.lcmp, 1) := by decide +kernel
theorem dX8_invert_567 : decode cX8_invert 567 = .ok (.ifCond .ne 6, 3) := by decide +kernel
theorem dX8_invert_570 : decode cX8_invert 570 = .ok (.goto 66, 3) := by decide +kernel
theorem dX8_invert_573 : decode cX8_invert 573 = .ok (.iconst 0, 1) := by decide +kernel
theorem dX8_invert_574 : decode cX8_invert 574 = .ok (.istore 17, 2) := by decide +kernel
theorem dX8_invert_576 : decode cX8_invert 576 = .ok (.iload 17, 2) := by decide +kernel
theorem dX8_invert_578 : decode cX8_invert 578 = .ok (.iload 5, 2) := by decide +kernel
theorem dX8_invert_580 : decode cX8_invert 580 = .ok (.if_icmp .ge 56, 3) := by decide +kernel
theorem dX8_invert_583 : decode cX8_invert 583 = .ok (.aload_n 0, 1) := by decide +kernel
theorem dX8_invert_584 : decode cX8_invert 584 = .ok (.getfield 95, 3) := by decide +kernel
theorem dX8_invert_587 : decode cX8_invert 587 = .ok (.iload 5, 2) := by decide +kernel
theorem dX8_invert_589 : decode cX8_invert 589 = .ok (.iload 14, 2) := by decide +kernel
theorem dX8_invert_591 : decode cX8_invert 591 = .ok (.imul, 1) := by decide +kernel
theorem dX8_invert_592 : decode cX8_invert 592 = .ok (.iload 17, 2) := by decide +kernel
theorem dX8_invert_594 : decode cX8_invert 594 = .ok (.iadd, 1) := by decide +kernel
theorem dX8_invert_595 : decode cX8_invert 595 = .ok (.aload_n 0, 1) := by decide +kernel
theorem dX8_invert_596 : decode cX8_invert 596 = .ok (.getfield 95, 3) := by decide +kernel
theorem dX8_invert_599 : decode cX8_invert 599 = .ok (.iload 5, 2) := by decide +kernel
theorem dX8_invert_601 : decode cX8_invert 601 = .ok (.iload 14, 2) := by decide +kernel
theorem dX8_invert_603 : decode cX8_invert 603 = .ok (.imul, 1) := by decide +kernel
theorem dX8_invert_604 : decode cX8_invert 604 = .ok (.iload 17, 2) := by decide +kernel
theorem dX8_invert_606 : decode cX8_invert 606 = .ok (.iadd, 1) := by decide +kernel
theorem dX8_invert_607 : decode cX8_invert 607 = .ok (.laload, 1) := by decide +kernel
theorem dX8_invert_608 : decode cX8_invert 608 = .ok (.lload_n 2, 1) := by decide +kernel
theorem dX8_invert_609 : decode cX8_invert 609 = .ok (.lload 15, 2) := by decide +kernel
theorem dX8_invert_611 : decode cX8_invert 611 = .ok (.lsub, 1) := by decide +kernel
theorem dX8_invert_612 : decode cX8_invert 612 = .ok (.aload_n 0, 1) := by decide +kernel
theorem dX8_invert_613 : decode cX8_invert 613 = .ok (.getfield 95, 3) := by decide +kernel
theorem dX8_invert_616 : decode cX8_invert 616 = .ok (.iload 5, 2) := by decide +kernel
theorem dX8_invert_618 : decode cX8_invert 618 = .ok (.iload 8, 2) := by decide +kernel
theorem dX8_invert_620 : decode cX8_invert 620 = .ok (.imul, 1) := by decide +kernel
theorem dX8_invert_621 : decode cX8_invert 621 = .ok (.iload 17, 2) := by decide +kernel
theorem dX8_invert_623 : decode cX8_invert 623 = .ok (.iadd, 1) := by decide +kernel
theorem dX8_invert_624 : decode cX8_invert 624 = .ok (.laload, 1) := by decide +kernel
theorem dX8_invert_625 : decode cX8_invert 625 = .ok (.lmul, 1) := by decide +kernel
theorem dX8_invert_626 : decode cX8_invert 626 = .ok (.ladd, 1) := by decide +kernel
theorem dX8_invert_627 : decode cX8_invert 627 = .ok (.lload_n 2, 1) := by decide +kernel
theorem dX8_invert_628 : decode cX8_invert 628 = .ok (.lrem, 1) := by decide +kernel
theorem dX8_invert_629 : decode cX8_invert 629 = .ok (.lastore, 1) := by decide +kernel
theorem dX8_invert_630 : decode cX8_invert 630 = .ok (.iinc 17 1, 3) := by decide +kernel
theorem dX8_invert_633 : decode cX8_invert 633 = .ok (.goto (-57), 3) := by decide +kernel
theorem dX8_invert_636 : decode cX8_invert 636 = .ok (.iinc 14 1, 3) := by decide +kernel
theorem dX8_invert_639 : decode cX8_invert 639 = .ok (.goto (-105), 3) := by decide +kernel
theorem dX8_invert_642 : decode cX8_invert 642 = .ok (.iinc 8 1, 3) := by decide +kernel
theorem dX8_invert_645 : decode cX8_invert 645 = .ok (.goto (-342), 3) := by decide +kernel
theorem dX8_invert_648 : decode cX8_invert 648 = .ok (.aload_n 0, 1) := by decide +kernel
theorem dX8_invert_649 : decode cX8_invert 649 = .ok (.getfield 98, 3) := by decide +kernel
theorem dX8_invert_652 : decode cX8_invert 652 = .ok (.iload_n 1, 1) := by decide +kernel
theorem dX8_invert_653 : decode cX8_invert 653 = .ok (.lload_n 2, 1) := by decide +kernel
theorem dX8_invert_654 : decode cX8_invert 654 = .ok (.lastore, 1) := by decide +kernel
theorem dX8_invert_655 : decode cX8_invert 655 = .ok (.aload_n 0, 1) := by decide +kernel
theorem dX8_invert_656 : decode cX8_invert 656 = .ok (.getfield 101, 3) := by decide +kernel
theorem dX8_invert_659 : decode cX8_invert 659 = .ok (.iload_n 1, 1) := by decide +kernel
theorem dX8_invert_660 : decode cX8_invert 660 = .ok (.lload 6, 2) := by decide +kernel
theorem dX8_invert_662 : decode cX8_invert 662 = .ok (.lastore, 1) := by decide +kernel
theorem dX8_invert_663 : decode cX8_invert 663 = .ok (.iconst 0, 1) := by decide +kernel
theorem dX8_invert_664 : decode cX8_invert 664 = .ok (.istore 8, 2) := by decide +kernel
theorem dX8_invert_666 : decode cX8_invert 666 = .ok (.iload 8, 2) := by decide +kernel
theorem dX8_invert_668 : decode cX8_invert 668 = .ok (.aload_n 0, 1) := by decide +kernel
theorem dX8_invert_669 : decode cX8_invert 669 = .ok (.getfield 230, 3) := by decide +kernel
theorem dX8_invert_672 : decode cX8_invert 672 = .ok (.if_icmp .ge 84, 3) := by decide +kernel
theorem dX8_invert_675 : decode cX8_invert 675 = .ok (.iconst 0, 1) := by decide +kernel
theorem dX8_invert_676 : decode cX8_invert 676 = .ok (.istore 9, 2) := by decide +kernel
theorem dX8_invert_678 : decode cX8_invert 678 = .ok (.iload 9, 2) := by decide +kernel
theorem dX8_invert_680 : decode cX8_invert 680 = .ok (.aload_n 0, 1) := by decide +kernel
theorem dX8_invert_681 : decode cX8_invert 681 = .ok (.getfield 230, 3) := by decide +kernel
theorem dX8_invert_684 : decode cX8_invert 684 = .ok (.if_icmp .ge 66, 3) := by decide +kernel
theorem dX8_invert_687 : decode cX8_invert 687 = .ok (.aload_n 0, 1) := by decide +kernel
theorem dX8_invert_688 : decode cX8_invert 688 = .ok (.getfield 104, 3) := by decide +kernel
theorem dX8_invert_691 : decode cX8_invert 691 = .ok (.bipush 100, 2) := by decide +kernel
theorem dX8_invert_693 : decode cX8_invert 693 = .ok (.iload_n 1, 1) := by decide +kernel
theorem dX8_invert_694 : decode cX8_invert 694 = .ok (.imul, 1) := by decide +kernel
theorem dX8_invert_695 : decode cX8_invert 695 = .ok (.aload_n 0, 1) := by decide +kernel
theorem dX8_invert_696 : decode cX8_invert 696 = .ok (.iload 8, 2) := by decide +kernel
theorem dX8_invert_698 : decode cX8_invert 698 = .ok (.iload 9, 2) := by decide +kernel
theorem dX8_invert_700 : decode cX8_invert 700 = .ok (.invokevirtual 130, 3) := by decide +kernel
theorem dX8_invert_703 : decode cX8_invert 703 = .ok (.iadd, 1) := by decide +kernel
theorem dX8_invert_704 : decode cX8_invert 704 = .ok (.iload 8, 2) := by decide +kernel
theorem dX8_invert_706 : decode cX8_invert 706 = .ok (.iload 4, 2) := by decide +kernel
theorem dX8_invert_708 : decode cX8_invert 708 = .ok (.if_icmp .ge 34, 3) := by decide +kernel
theorem dX8_invert_711 : decode cX8_invert 711 = .ok (.iload 9, 2) := by decide +kernel
theorem dX8_invert_713 : decode cX8_invert 713 = .ok (.iload 4, 2) := by decide +kernel
theorem dX8_invert_715 : decode cX8_invert 715 = .ok (.if_icmp .ge 27, 3) := by decide +kernel
theorem dX8_invert_718 : decode cX8_invert 718 = .ok (.aload_n 0, 1) := by decide +kernel
theorem dX8_invert_719 : decode cX8_invert 719 = .ok (.getfield 95, 3) := by decide +kernel
theorem dX8_invert_722 : decode cX8_invert 722 = .ok (.iload 5, 2) := by decide +kernel
theorem dX8_invert_724 : decode cX8_invert 724 = .ok (.iload 8, 2) := by decide +kernel
theorem dX8_invert_726 : decode cX8_invert 726 = .ok (.imul, 1) := by decide +kernel
theorem dX8_invert_727 : decode cX8_invert 727 = .ok (.iload 4, 2) := by decide +kernel
theorem dX8_invert_729 : decode cX8_invert 729 = .ok (.iadd, 1) := by decide +kernel
theorem dX8_invert_730 : decode cX8_invert 730 = .ok (.iload 9, 2) := by decide +kernel
theorem dX8_invert_732 : decode cX8_invert 732 = .ok (.iadd, 1) := by decide +kernel
theorem dX8_invert_733 : decode cX8_invert 733 = .ok (.laload, 1) := by decide +kernel
theorem dX8_invert_734 : decode cX8_invert 734 = .ok (.lload 6, 2) := by decide +kernel
theorem dX8_invert_736 : decode cX8_invert 736 = .ok (.lmul, 1) := by decide +kernel
theorem dX8_invert_737 : decode cX8_invert 737 = .ok (.lload_n 2, 1) := by decide +kernel
theorem dX8_invert_738 : decode cX8_invert 738 = .ok (.lrem, 1) := by decide +kernel
theorem dX8_invert_739 : decode cX8_invert 739 = .ok (.goto 4, 3) := by decide +kernel
theorem dX8_invert_742 : decode cX8_invert 742 = .ok (.lconst 0, 1) := by decide +kernel
theorem dX8_invert_743 : decode cX8_invert 743 = .ok (.lastore, 1) := by decide +kernel
theorem dX8_invert_744 : decode cX8_invert 744 = .ok (.iinc 9 1, 3) := by decide +kernel
theorem dX8_invert_747 : decode cX8_invert 747 = .ok (.goto (-69), 3) := by decide +kernel
theorem dX8_invert_750 : decode cX8_invert 750 = .ok (.iinc 8 1, 3) := by decide +kernel
theorem dX8_invert_753 : decode cX8_invert 753 = .ok (.goto (-87), 3) := by decide +kernel
theorem dX8_invert_756 : decode cX8_invert 756 = .ok (.iconst 1, 1) := by decide +kernel
theorem dX8_invert_757 : decode cX8_invert 757 = .ok (.ireturn, 1) := by decide +kernel
theorem dX8_whole_0 : decode cX8_whole 0 = .ok (.iconst 0, 1) := by decide +kernel
theorem dX8_whole_1 : decode cX8_whole 1 = .ok (.istore_n 2, 1) := by decide +kernel
theorem dX8_whole_2 : decode cX8_whole 2 = .ok (.iload_n 2, 1) := by decide +kernel
theorem dX8_whole_3 : decode cX8_whole 3 = .ok (.iconst 5, 1) := by decide +kernel
theorem dX8_whole_4 : decode cX8_whole 4 = .ok (.if_icmp .ge 102, 3) := by decide +kernel
theorem dX8_whole_7 : decode cX8_whole 7 = .ok (.iconst 0, 1) := by decide +kernel
theorem dX8_whole_8 : decode cX8_whole 8 = .ok (.istore_n 3, 1) := by decide +kernel
theorem dX8_whole_9 : decode cX8_whole 9 = .ok (.iload_n 3, 1) := by decide +kernel
theorem dX8_whole_10 : decode cX8_whole 10 = .ok (.iload_n 2, 1) := by decide +kernel
theorem dX8_whole_11 : decode cX8_whole 11 = .ok (.if_icmp .ge 89, 3) := by decide +kernel
theorem dX8_whole_14 : decode cX8_whole 14 = .ok (.aload_n 0, 1) := by decide +kernel
theorem dX8_whole_15 : decode cX8_whole 15 = .ok (.getfield 107, 3) := by decide +kernel
theorem dX8_whole_18 : decode cX8_whole 18 = .ok (.iload_n 2, 1) := by decide +kernel
theorem dX8_whole_19 : decode cX8_whole 19 = .ok (.aload_n 0, 1) := by decide +kernel
theorem dX8_whole_20 : decode cX8_whole 20 = .ok (.getfield 107, 3) := by decide +kernel
theorem dX8_whole_23 : decode cX8_whole 23 = .ok (.iload_n 2, 1) := by decide +kernel
theorem dX8_whole_24 : decode cX8_whole 24 = .ok (.laload, 1) := by decide +kernel
theorem dX8_whole_25 : decode cX8_whole 25 = .ok (.aload_n 0, 1) := by decide +kernel
theorem dX8_whole_26 : decode cX8_whole 26 = .ok (.getfield 98, 3) := by decide +kernel
theorem dX8_whole_29 : decode cX8_whole 29 = .ok (.iload_n 2, 1) := by decide +kernel
theorem dX8_whole_30 : decode cX8_whole 30 = .ok (.laload, 1) := by decide +kernel
theorem dX8_whole_31 : decode cX8_whole 31 = .ok (.ladd, 1) := by decide +kernel
theorem dX8_whole_32 : decode cX8_whole 32 = .ok (.aload_n 0, 1) := by decide +kernel
theorem dX8_whole_33 : decode cX8_whole 33 = .ok (.getfield 107, 3) := by decide +kernel
theorem dX8_whole_36 : decode cX8_whole 36 = .ok (.iload_n 3, 1) := by decide +kernel
theorem dX8_whole_37 : decode cX8_whole 37 = .ok (.laload, 1) := by decide +kernel
theorem dX8_whole_38 : decode cX8_whole 38 = .ok (.aload_n 0, 1) := by decide +kernel
theorem dX8_whole_39 : decode cX8_whole 39 = .ok (.getfield 98, 3) := by decide +kernel
theorem dX8_whole_42 : decode cX8_whole 42 = .ok (.iload_n 2, 1) := by decide +kernel
theorem dX8_whole_43 : decode cX8_whole 43 = .ok (.laload, 1) := by decide +kernel
theorem dX8_whole_44 : decode cX8_whole 44 = .ok (.lrem, 1) := by decide +kernel
theorem dX8_whole_45 : decode cX8_whole 45 = .ok (.lsub, 1) := by decide +kernel
theorem dX8_whole_46 : decode cX8_whole 46 = .ok (.aload_n 0, 1) := by decide +kernel
theorem dX8_whole_47 : decode cX8_whole 47 = .ok (.getfield 98, 3) := by decide +kernel
theorem dX8_whole_50 : decode cX8_whole 50 = .ok (.iload_n 2, 1) := by decide +kernel
theorem dX8_whole_51 : decode cX8_whole 51 = .ok (.laload, 1) := by decide +kernel
theorem dX8_whole_52 : decode cX8_whole 52 = .ok (.lrem, 1) := by decide +kernel
theorem dX8_whole_53 : decode cX8_whole 53 = .ok (.aload_n 0, 1) := by decide +kernel
theorem dX8_whole_54 : decode cX8_whole 54 = .ok (.getfield 98, 3) := by decide +kernel
theorem dX8_whole_57 : decode cX8_whole 57 = .ok (.iload_n 3, 1) := by decide +kernel
theorem dX8_whole_58 : decode cX8_whole 58 = .ok (.laload, 1) := by decide +kernel
theorem dX8_whole_59 : decode cX8_whole 59 = .ok (.aload_n 0, 1) := by decide +kernel
theorem dX8_whole_60 : decode cX8_whole 60 = .ok (.getfield 98, 3) := by decide +kernel
theorem dX8_whole_63 : decode cX8_whole 63 = .ok (.iload_n 2, 1) := by decide +kernel
theorem dX8_whole_64 : decode cX8_whole 64 = .ok (.laload, 1) := by decide +kernel
theorem dX8_whole_65 : decode cX8_whole 65 = .ok (.lrem, 1) := by decide +kernel
theorem dX8_whole_66 : decode cX8_whole 66 = .ok (.aload_n 0, 1) := by decide +kernel
theorem dX8_whole_67 : decode cX8_whole 67 = .ok (.getfield 98, 3) := by decide +kernel
theorem dX8_whole_70 : decode cX8_whole 70 = .ok (.iload_n 2, 1) := by decide +kernel
theorem dX8_whole_71 : decode cX8_whole 71 = .ok (.laload, 1) := by decide +kernel
theorem dX8_whole_72 : decode cX8_whole 72 = .ok (.ldc2_w 196, 3) := by decide +kernel
theorem dX8_whole_75 : decode cX8_whole 75 = .ok (.lsub, 1) := by decide +kernel
theorem dX8_whole_76 : decode cX8_whole 76 = .ok (.aload_n 0, 1) := by decide +kernel
theorem dX8_whole_77 : decode cX8_whole 77 = .ok (.getfield 98, 3) := by decide +kernel
theorem dX8_whole_80 : decode cX8_whole 80 = .ok (.iload_n 2, 1) := by decide +kernel
theorem dX8_whole_81 : decode cX8_whole 81 = .ok (.laload, 1) := by decide +kernel
theorem dX8_whole_82 : decode cX8_whole 82 = .ok (.invokestatic 237, 3) := by decide +kernel
theorem dX8_whole_85 : decode cX8_whole 85 = .ok (.lmul, 1) := by decide +kernel
theorem dX8_whole_86 : decode cX8_whole 86 = .ok (.aload_n 0, 1) := by decide +kernel
theorem dX8_whole_87 : decode cX8_whole 87 = .ok (.getfield 98, 3) := by decide +kernel
theorem dX8_whole_90 : decode cX8_whole 90 = .ok (.iload_n 2, 1) := by decide +kernel
theorem dX8_whole_91 : decode cX8_whole 91 = .ok (.laload, 1) := by decide +kernel
theorem dX8_whole_92 : decode cX8_whole 92 = .ok (.lrem, 1) := by decide +kernel
theorem dX8_whole_93 : decode cX8_whole 93 = .ok (.lastore, 1) := by decide +kernel
theorem dX8_whole_94 : decode cX8_whole 94 = .ok (.iinc 3 1, 3) := by decide +kernel
theorem dX8_whole_97 : decode cX8_whole 97 = .ok (.goto (-88), 3) := by decide +kernel
theorem dX8_whole_100 : decode cX8_whole 100 = .ok (.iinc 2 1, 3) := by decide +kernel
theorem dX8_whole_103 : decode cX8_whole 103 = .ok (.goto (-101), 3) := by decide +kernel
theorem dX8_whole_106 : decode cX8_whole 106 = .ok (.aload_n 1, 1) := by decide +kernel
theorem dX8_whole_107 : decode cX8_whole 107 = .ok (.aload_n 0, 1) := by decide +kernel
theorem dX8_whole_108 : decode cX8_whole 108 = .ok (.getfield 107, 3) := by decide +kernel
theorem dX8_whole_111 : decode cX8_whole 111 = .ok (.iconst 4, 1) := by decide +kernel
theorem dX8_whole_112 : decode cX8_whole 112 = .ok (.laload, 1) := by decide +kernel
theorem dX8_whole_113 : decode cX8_whole 113 = .ok (.invokestatic 165, 3) := by decide +kernel
theorem dX8_whole_116 : decode cX8_whole 116 = .ok (.iconst 3, 1) := by decide +kernel
theorem dX8_whole_117 : decode cX8_whole 117 = .ok (.istore_n 2, 1) := by decide +kernel
theorem dX8_whole_118 : decode cX8_whole 118 = .ok (.iload_n 2, 1) := by decide +kernel
theorem dX8_whole_119 : decode cX8_whole 119 = .ok (.ifCond .lt 42, 3) := by decide +kernel
theorem dX8_whole_122 : decode cX8_whole 122 = .ok (.aload_n 0, 1) := by decide +kernel
theorem dX8_whole_123 : decode cX8_whole 123 = .ok (.aload_n 1, 1) := by decide +kernel
theorem dX8_whole_124 : decode cX8_whole 124 = .ok (.aload_n 0, 1) := by decide +kernel
theorem dX8_whole_125 : decode cX8_whole 125 = .ok (.getfield 98, 3) := by decide +kernel
theorem dX8_whole_128 : decode cX8_whole 128 = .ok (.iload_n 2, 1) := by decide +kernel
theorem dX8_whole_129 : decode cX8_whole 129 = .ok (.laload, 1) := by decide +kernel
theorem dX8_whole_130 : decode cX8_whole 130 = .ok (.invokevirtual 175, 3) := by decide +kernel
theorem dX8_whole_133 : decode cX8_whole 133 = .ok (.aload_n 0, 1) := by decide +kernel
theorem dX8_whole_134 : decode cX8_whole 134 = .ok (.getfield 43, 3) := by decide +kernel
theorem dX8_whole_137 : decode cX8_whole 137 = .ok (.aload_n 0, 1) := by decide +kernel
theorem dX8_whole_138 : decode cX8_whole 138 = .ok (.getfield 107, 3) := by decide +kernel
theorem dX8_whole_141 : decode cX8_whole 141 = .ok (.iload_n 2, 1) := by decide +kernel
theorem dX8_whole_142 : decode cX8_whole 142 = .ok (.laload, 1) := by decide +kernel
theorem dX8_whole_143 : decode cX8_whole 143 = .ok (.invokestatic 165, 3) := by decide +kernel
theorem dX8_whole_146 : decode cX8_whole 146 = .ok (.aload_n 0, 1) := by decide +kernel
theorem dX8_whole_147 : decode cX8_whole 147 = .ok (.aload_n 1, 1) := by decide +kernel
theorem dX8_whole_148 : decode cX8_whole 148 = .ok (.aload_n 0, 1) := by decide +kernel
theorem dX8_whole_149 : decode cX8_whole 149 = .ok (.getfield 43, 3) := by decide +kernel
theorem dX8_whole_152 : decode cX8_whole 152 = .ok (.invokevirtual 178, 3) := by decide +kernel
theorem dX8_whole_155 : decode cX8_whole 155 = .ok (.iinc 2 (-1), 3) := by decide +kernel
theorem dX8_whole_158 : decode cX8_whole 158 = .ok (.goto (-40), 3) := by decide +kernel
theorem dX8_whole_161 : decode cX8_whole 161 = .ok (.aload_n 0, 1) := by decide +kernel
theorem dX8_whole_162 : decode cX8_whole 162 = .ok (.getfield 49, 3) := by decide +kernel
theorem dX8_whole_165 : decode cX8_whole 165 = .ok (.lconst 1, 1) := by decide +kernel
theorem dX8_whole_166 : decode cX8_whole 166 = .ok (.invokestatic 165, 3) := by decide +kernel
theorem dX8_whole_169 : decode cX8_whole 169 = .ok (.iconst 0, 1) := by decide +kernel
theorem dX8_whole_170 : decode cX8_whole 170 = .ok (.istore_n 2, 1) := by decide +kernel
theorem dX8_whole_171 : decode cX8_whole 171 = .ok (.iload_n 2, 1) := by decide +kernel
theorem dX8_whole_172 : decode cX8_whole 172 = .ok (.iconst 5, 1) := by decide +kernel
theorem dX8_whole_173 : decode cX8_whole 173 = .ok (.if_icmp .ge 23, 3) := by decide +kernel
theorem dX8_whole_176 : decode cX8_whole 176 = .ok (.aload_n 0, 1) := by decide +kernel
theorem dX8_whole_177 : decode cX8_whole 177 = .ok (.aload_n 0, 1) := by decide +kernel
theorem dX8_whole_178 : decode cX8_whole 178 = .ok (.getfield 49, 3) := by decide +kernel
theorem dX8_whole_181 : decode cX8_whole 181 = .ok (.aload_n 0, 1) := by decide +kernel
theorem dX8_whole_182 : decode cX8_whole 182 = .ok (.getfield 98, 3) := by decide +kernel
theorem dX8_whole_185 : decode cX8_whole 185 = .ok (.iload_n 2, 1) := by decide +kernel
theorem dX8_whole_186 : decode cX8_whole 186 = .ok (.laload, 1) := by decide +kernel
theorem dX8_whole_187 : decode cX8_whole 187 = .ok (.invokevirtual 175, 3) := by decide +kernel
theorem dX8_whole_190 : decode cX8_whole 190 = .ok (.iinc 2 1, 3) := by decide +kernel
theorem dX8_whole_193 : decode cX8_whole 193 = .ok (.goto (-22), 3) := by decide +kernel
theorem dX8_whole_196 : decode cX8_whole 196 = .ok (.aload_n 0, 1) := by decide +kernel
theorem dX8_whole_197 : decode cX8_whole 197 = .ok (.aload_n 0, 1) := by decide +kernel
theorem dX8_whole_198 : decode cX8_whole 198 = .ok (.getfield 49, 3) := by decide +kernel
theorem dX8_whole_201 : decode cX8_whole 201 = .ok (.aload_n 1, 1) := by decide +kernel
theorem dX8_whole_202 : decode cX8_whole 202 = .ok (.invokevirtual 193, 3) := by decide +kernel
theorem dX8_whole_205 : decode cX8_whole 205 = .ok (.aload_n 0, 1) := by decide +kernel
theorem dX8_whole_206 : decode cX8_whole 206 = .ok (.aload_n 0, 1) := by decide +kernel
theorem dX8_whole_207 : decode cX8_whole 207 = .ok (.getfield 49, 3) := by decide +kernel
theorem dX8_whole_210 : decode cX8_whole 210 = .ok (.aload_n 1, 1) := by decide +kernel
theorem dX8_whole_211 : decode cX8_whole 211 = .ok (.invokevirtual 189, 3) := by decide +kernel
theorem dX8_whole_214 : decode cX8_whole 214 = .ok (.ifCond .ge 12, 3) := by decide +kernel
theorem dX8_whole_217 : decode cX8_whole 217 = .ok (.aload_n 0, 1) := by decide +kernel
theorem dX8_whole_218 : decode cX8_whole 218 = .ok (.aload_n 1, 1) := by decide +kernel
theorem dX8_whole_219 : decode cX8_whole 219 = .ok (.aload_n 0, 1) := by decide +kernel
theorem dX8_whole_220 : decode cX8_whole 220 = .ok (.getfield 49, 3) := by decide +kernel
theorem dX8_whole_223 : decode cX8_whole 223 = .ok (.invokevirtual 157, 3) := by decide +kernel
theorem dX8_whole_226 : decode cX8_whole 226 = .ok (.return_, 1) := by decide +kernel
theorem dX8_treesOf_0 : decode cX8_treesOf 0 = .ok (.iconst 0, 1) := by decide +kernel
theorem dX8_treesOf_1 : decode cX8_treesOf 1 = .ok (.istore_n 2, 1) := by decide +kernel
theorem dX8_treesOf_2 : decode cX8_treesOf 2 = .ok (.iload_n 2, 1) := by decide +kernel
theorem dX8_treesOf_3 : decode cX8_treesOf 3 = .ok (.iconst 5, 1) := by decide +kernel
theorem dX8_treesOf_4 : decode cX8_treesOf 4 = .ok (.if_icmp .ge 21, 3) := by decide +kernel
theorem dX8_treesOf_7 : decode cX8_treesOf 7 = .ok (.aload_n 0, 1) := by decide +kernel
