theorem dX8_lengths_42 : decode cX8_lengths 42 = .ok (.iinc 2 1, 3) := by decide +kernel
theorem dX8_lengths_45 : decode cX8_lengths 45 = .ok (.goto (-33), 3) := by decide +kernel
theorem dX8_lengths_48 : decode cX8_lengths 48 = .ok (.iinc 1 1, 3) := by decide +kernel
theorem dX8_lengths_51 : decode cX8_lengths 51 = .ok (.goto (-49), 3) := by decide +kernel
theorem dX8_lengths_54 : decode cX8_lengths 54 = .ok (.iconst 0, 1) := by decide +kernel
theorem dX8_lengths_55 : decode cX8_lengths 55 = .ok (.istore_n 1, 1) := by decide +kernel
theorem dX8_lengths_56 : decode cX8_lengths 56 = .ok (.iload_n 1, 1) := by decide +kernel
theorem dX8_lengths_57 : decode cX8_lengths 57 = .ok (.aload_n 0, 1) := by decide +kernel
theorem dX8_lengths_58 : decode cX8_lengths 58 = .ok (.getfield 113, 3) := by decide +kernel
theorem dX8_lengths_61 : decode cX8_lengths 61 = .ok (.if_icmp .ge 62, 3) := by decide +kernel
theorem dX8_lengths_64 : decode cX8_lengths 64 = .ok (.aload_n 0, 1) := by decide +kernel
theorem dX8_lengths_65 : decode cX8_lengths 65 = .ok (.aload_n 0, 1) := by decide +kernel
theorem dX8_lengths_66 : decode cX8_lengths 66 = .ok (.getfield 7, 3) := by decide +kernel
theorem dX8_lengths_69 : decode cX8_lengths 69 = .ok (.iload_n 1, 1) := by decide +kernel
theorem dX8_lengths_70 : decode cX8_lengths 70 = .ok (.iaload, 1) := by decide +kernel
theorem dX8_lengths_71 : decode cX8_lengths 71 = .ok (.aload_n 0, 1) := by decide +kernel
theorem dX8_lengths_72 : decode cX8_lengths 72 = .ok (.getfield 13, 3) := by decide +kernel
theorem dX8_lengths_75 : decode cX8_lengths 75 = .ok (.iload_n 1, 1) := by decide +kernel
theorem dX8_lengths_76 : decode cX8_lengths 76 = .ok (.iaload, 1) := by decide +kernel
theorem dX8_lengths_77 : decode cX8_lengths 77 = .ok (.invokevirtual 130, 3) := by decide +kernel
theorem dX8_lengths_80 : decode cX8_lengths 80 = .ok (.istore_n 2, 1) := by decide +kernel
theorem dX8_lengths_81 : decode cX8_lengths 81 = .ok (.aload_n 0, 1) := by decide +kernel
theorem dX8_lengths_82 : decode cX8_lengths 82 = .ok (.getfield 16, 3) := by decide +kernel
theorem dX8_lengths_85 : decode cX8_lengths 85 = .ok (.iload_n 1, 1) := by decide +kernel
theorem dX8_lengths_86 : decode cX8_lengths 86 = .ok (.iaload, 1) := by decide +kernel
theorem dX8_lengths_87 : decode cX8_lengths 87 = .ok (.ifCond .le 30, 3) := by decide +kernel
theorem dX8_lengths_90 : decode cX8_lengths 90 = .ok (.aload_n 0, 1) := by decide +kernel
theorem dX8_lengths_91 : decode cX8_lengths 91 = .ok (.getfield 16, 3) := by decide +kernel
theorem dX8_lengths_94 : decode cX8_lengths 94 = .ok (.iload_n 1, 1) := by decide +kernel
theorem dX8_lengths_95 : decode cX8_lengths 95 = .ok (.iaload, 1) := by decide +kernel
theorem dX8_lengths_96 : decode cX8_lengths 96 = .ok (.aload_n 0, 1) := by decide +kernel
theorem dX8_lengths_97 : decode cX8_lengths 97 = .ok (.getfield 23, 3) := by decide +kernel
theorem dX8_lengths_100 : decode cX8_lengths 100 = .ok (.iload_n 2, 1) := by decide +kernel
theorem dX8_lengths_101 : decode cX8_lengths 101 = .ok (.iaload, 1) := by decide +kernel
theorem dX8_lengths_102 : decode cX8_lengths 102 = .ok (.if_icmp .ge 15, 3) := by decide +kernel
theorem dX8_lengths_105 : decode cX8_lengths 105 = .ok (.aload_n 0, 1) := by decide +kernel
theorem dX8_lengths_106 : decode cX8_lengths 106 = .ok (.getfield 23, 3) := by decide +kernel
theorem dX8_lengths_109 : decode cX8_lengths 109 = .ok (.iload_n 2, 1) := by decide +kernel
theorem dX8_lengths_110 : decode cX8_lengths 110 = .ok (.aload_n 0, 1) := by decide +kernel
theorem dX8_lengths_111 : decode cX8_lengths 111 = .ok (.getfield 16, 3) := by decide +kernel
theorem dX8_lengths_114 : decode cX8_lengths 114 = .ok (.iload_n 1, 1) := by decide +kernel
theorem dX8_lengths_115 : decode cX8_lengths 115 = .ok (.iaload, 1) := by decide +kernel
theorem dX8_lengths_116 : decode cX8_lengths 116 = .ok (.iastore, 1) := by decide +kernel
theorem dX8_lengths_117 : decode cX8_lengths 117 = .ok (.iinc 1 1, 3) := by decide +kernel
theorem dX8_lengths_120 : decode cX8_lengths 120 = .ok (.goto (-64), 3) := by decide +kernel
theorem dX8_lengths_123 : decode cX8_lengths 123 = .ok (.iconst 0, 1) := by decide +kernel
theorem dX8_lengths_124 : decode cX8_lengths 124 = .ok (.istore_n 1, 1) := by decide +kernel
theorem dX8_lengths_125 : decode cX8_lengths 125 = .ok (.iload_n 1, 1) := by decide +kernel
theorem dX8_lengths_126 : decode cX8_lengths 126 = .ok (.aload_n 0, 1) := by decide +kernel
theorem dX8_lengths_127 : decode cX8_lengths 127 = .ok (.getfield 110, 3) := by decide +kernel
theorem dX8_lengths_130 : decode cX8_lengths 130 = .ok (.if_icmp .ge 95, 3) := by decide +kernel
theorem dX8_lengths_133 : decode cX8_lengths 133 = .ok (.iconst 0, 1) := by decide +kernel
theorem dX8_lengths_134 : decode cX8_lengths 134 = .ok (.istore_n 2, 1) := by decide +kernel
theorem dX8_lengths_135 : decode cX8_lengths 135 = .ok (.iload_n 2, 1) := by decide +kernel
theorem dX8_lengths_136 : decode cX8_lengths 136 = .ok (.aload_n 0, 1) := by decide +kernel
theorem dX8_lengths_137 : decode cX8_lengths 137 = .ok (.getfield 110, 3) := by decide +kernel
theorem dX8_lengths_140 : decode cX8_lengths 140 = .ok (.if_icmp .ge 79, 3) := by decide +kernel
theorem dX8_lengths_143 : decode cX8_lengths 143 = .ok (.iconst 0, 1) := by decide +kernel
theorem dX8_lengths_144 : decode cX8_lengths 144 = .ok (.istore_n 3, 1) := by decide +kernel
theorem dX8_lengths_145 : decode cX8_lengths 145 = .ok (.iload_n 3, 1) := by decide +kernel
theorem dX8_lengths_146 : decode cX8_lengths 146 = .ok (.aload_n 0, 1) := by decide +kernel
theorem dX8_lengths_147 : decode cX8_lengths 147 = .ok (.getfield 110, 3) := by decide +kernel
theorem dX8_lengths_150 : decode cX8_lengths 150 = .ok (.if_icmp .ge 63, 3) := by decide +kernel
theorem dX8_lengths_153 : decode cX8_lengths 153 = .ok (.aload_n 0, 1) := by decide +kernel
theorem dX8_lengths_154 : decode cX8_lengths 154 = .ok (.getfield 23, 3) := by decide +kernel
theorem dX8_lengths_157 : decode cX8_lengths 157 = .ok (.aload_n 0, 1) := by decide +kernel
theorem dX8_lengths_158 : decode cX8_lengths 158 = .ok (.iload_n 2, 1) := by decide +kernel
theorem dX8_lengths_159 : decode cX8_lengths 159 = .ok (.iload_n 1, 1) := by decide +kernel
theorem dX8_lengths_160 : decode cX8_lengths 160 = .ok (.invokevirtual 130, 3) := by decide +kernel
theorem dX8_lengths_163 : decode cX8_lengths 163 = .ok (.iaload, 1) := by decide +kernel
theorem dX8_lengths_164 : decode cX8_lengths 164 = .ok (.aload_n 0, 1) := by decide +kernel
theorem dX8_lengths_165 : decode cX8_lengths 165 = .ok (.getfield 23, 3) := by decide +kernel
theorem dX8_lengths_168 : decode cX8_lengths 168 = .ok (.aload_n 0, 1) := by decide +kernel
theorem dX8_lengths_169 : decode cX8_lengths 169 = .ok (.iload_n 1, 1) := by decide +kernel
theorem dX8_lengths_170 : decode cX8_lengths 170 = .ok (.iload_n 3, 1) := by decide +kernel
theorem dX8_lengths_171 : decode cX8_lengths 171 = .ok (.invokevirtual 130, 3) := by decide +kernel
theorem dX8_lengths_174 : decode cX8_lengths 174 = .ok (.iaload, 1) := by decide +kernel
theorem dX8_lengths_175 : decode cX8_lengths 175 = .ok (.iadd, 1) := by decide +kernel
theorem dX8_lengths_176 : decode cX8_lengths 176 = .ok (.istore 4, 2) := by decide +kernel
theorem dX8_lengths_178 : decode cX8_lengths 178 = .ok (.iload 4, 2) := by decide +kernel
theorem dX8_lengths_180 : decode cX8_lengths 180 = .ok (.aload_n 0, 1) := by decide +kernel
theorem dX8_lengths_181 : decode cX8_lengths 181 = .ok (.getfield 23, 3) := by decide +kernel
theorem dX8_lengths_184 : decode cX8_lengths 184 = .ok (.aload_n 0, 1) := by decide +kernel
theorem dX8_lengths_185 : decode cX8_lengths 185 = .ok (.iload_n 2, 1) := by decide +kernel
theorem dX8_lengths_186 : decode cX8_lengths 186 = .ok (.iload_n 3, 1) := by decide +kernel
theorem dX8_lengths_187 : decode cX8_lengths 187 = .ok (.invokevirtual 130, 3) := by decide +kernel
theorem dX8_lengths_190 : decode cX8_lengths 190 = .ok (.iaload, 1) := by decide +kernel
theorem dX8_lengths_191 : decode cX8_lengths 191 = .ok (.if_icmp .ge 16, 3) := by decide +kernel
theorem dX8_lengths_194 : decode cX8_lengths 194 = .ok (.aload_n 0, 1) := by decide +kernel
theorem dX8_lengths_195 : decode cX8_lengths 195 = .ok (.getfield 23, 3) := by decide +kernel
theorem dX8_lengths_198 : decode cX8_lengths 198 = .ok (.aload_n 0, 1) := by decide +kernel
theorem dX8_lengths_199 : decode cX8_lengths 199 = .ok (.iload_n 2, 1) := by decide +kernel
theorem dX8_lengths_200 : decode cX8_lengths 200 = .ok (.iload_n 3, 1) := by decide +kernel
theorem dX8_lengths_201 : decode cX8_lengths 201 = .ok (.invokevirtual 130, 3) := by decide +kernel
theorem dX8_lengths_204 : decode cX8_lengths 204 = .ok (.iload 4, 2) := by decide +kernel
theorem dX8_lengths_206 : decode cX8_lengths 206 = .ok (.iastore, 1) := by decide +kernel
theorem dX8_lengths_207 : decode cX8_lengths 207 = .ok (.iinc 3 1, 3) := by decide +kernel
theorem dX8_lengths_210 : decode cX8_lengths 210 = .ok (.goto (-65), 3) := by decide +kernel
theorem dX8_lengths_213 : decode cX8_lengths 213 = .ok (.iinc 2 1, 3) := by decide +kernel
theorem dX8_lengths_216 : decode cX8_lengths 216 = .ok (.goto (-81), 3) := by decide +kernel
theorem dX8_lengths_219 : decode cX8_lengths 219 = .ok (.iinc 1 1, 3) := by decide +kernel
theorem dX8_lengths_222 : decode cX8_lengths 222 = .ok (.goto (-97), 3) := by decide +kernel
theorem dX8_lengths_225 : decode cX8_lengths 225 = .ok (.return_, 1) := by decide +kernel
theorem dX8_countAll_0 : decode cX8_countAll 0 = .ok (.aload_n 0, 1) := by decide +kernel
theorem dX8_countAll_1 : decode cX8_countAll 1 = .ok (.invokevirtual 135, 3) := by decide +kernel
theorem dX8_countAll_4 : decode cX8_countAll 4 = .ok (.iconst 0, 1) := by decide +kernel
theorem dX8_countAll_5 : decode cX8_countAll 5 = .ok (.istore_n 2, 1) := by decide +kernel
theorem dX8_countAll_6 : decode cX8_countAll 6 = .ok (.iload_n 2, 1) := by decide +kernel
theorem dX8_countAll_7 : decode cX8_countAll 7 = .ok (.aload_n 0, 1) := by decide +kernel
theorem dX8_countAll_8 : decode cX8_countAll 8 = .ok (.getfield 110, 3) := by decide +kernel
theorem dX8_countAll_11 : decode cX8_countAll 11 = .ok (.if_icmp .ge 143, 3) := by decide +kernel
theorem dX8_countAll_14 : decode cX8_countAll 14 = .ok (.iconst 0, 1) := by decide +kernel
theorem dX8_countAll_15 : decode cX8_countAll 15 = .ok (.istore_n 3, 1) := by decide +kernel
theorem dX8_countAll_16 : decode cX8_countAll 16 = .ok (.iload_n 3, 1) := by decide +kernel
theorem dX8_countAll_17 : decode cX8_countAll 17 = .ok (.aload_n 0, 1) := by decide +kernel
theorem dX8_countAll_18 : decode cX8_countAll 18 = .ok (.getfield 110, 3) := by decide +kernel
theorem dX8_countAll_21 : decode cX8_countAll 21 = .ok (.if_icmp .ge 30, 3) := by decide +kernel
theorem dX8_countAll_24 : decode cX8_countAll 24 = .ok (.aload_n 0, 1) := by decide +kernel
theorem dX8_countAll_25 : decode cX8_countAll 25 = .ok (.getfield 26, 3) := by decide +kernel
theorem dX8_countAll_28 : decode cX8_countAll 28 = .ok (.aload_n 0, 1) := by decide +kernel
theorem dX8_countAll_29 : decode cX8_countAll 29 = .ok (.iload_n 2, 1) := by decide +kernel
theorem dX8_countAll_30 : decode cX8_countAll 30 = .ok (.iload_n 3, 1) := by decide +kernel
theorem dX8_countAll_31 : decode cX8_countAll 31 = .ok (.invokevirtual 130, 3) := by decide +kernel
theorem dX8_countAll_34 : decode cX8_countAll 34 = .ok (.iload_n 2, 1) := by decide +kernel
theorem dX8_countAll_35 : decode cX8_countAll 35 = .ok (.iload_n 3, 1) := by decide +kernel
theorem dX8_countAll_36 : decode cX8_countAll 36 = .ok (.if_icmp .ne 7, 3) := by decide +kernel
theorem dX8_countAll_39 : decode cX8_countAll 39 = .ok (.lconst 1, 1) := by decide +kernel
theorem dX8_countAll_40 : decode cX8_countAll 40 = .ok (.goto 4, 3) := by decide +kernel
theorem dX8_countAll_43 : decode cX8_countAll 43 = .ok (.lconst 0, 1) := by decide +kernel
theorem dX8_countAll_44 : decode cX8_countAll 44 = .ok (.lastore, 1) := by decide +kernel
theorem dX8_countAll_45 : decode cX8_countAll 45 = .ok (.iinc 3 1, 3) := by decide +kernel
theorem dX8_countAll_48 : decode cX8_countAll 48 = .ok (.goto (-32), 3) := by decide +kernel
theorem dX8_countAll_51 : decode cX8_countAll 51 = .ok (.iconst 0, 1) := by decide +kernel
theorem dX8_countAll_52 : decode cX8_countAll 52 = .ok (.istore_n 3, 1) := by decide +kernel
theorem dX8_countAll_53 : decode cX8_countAll 53 = .ok (.iload_n 3, 1) := by decide +kernel
theorem dX8_countAll_54 : decode cX8_countAll 54 = .ok (.ldc 134, 2) := by decide +kernel
theorem dX8_countAll_56 : decode cX8_countAll 56 = .ok (.if_icmp .ge 92, 3) := by decide +kernel
theorem dX8_countAll_59 : decode cX8_countAll 59 = .ok (.ldc 134, 2) := by decide +kernel
theorem dX8_countAll_61 : decode cX8_countAll 61 = .ok (.istore 4, 2) := by decide +kernel
theorem dX8_countAll_63 : decode cX8_countAll 63 = .ok (.iconst 0, 1) := by decide +kernel
theorem dX8_countAll_64 : decode cX8_countAll 64 = .ok (.istore 5, 2) := by decide +kernel
theorem dX8_countAll_66 : decode cX8_countAll 66 = .ok (.iload 5, 2) := by decide +kernel
theorem dX8_countAll_68 : decode cX8_countAll 68 = .ok (.aload_n 0, 1) := by decide +kernel
theorem dX8_countAll_69 : decode cX8_countAll 69 = .ok (.getfield 110, 3) := by decide +kernel
theorem dX8_countAll_72 : decode cX8_countAll 72 = .ok (.if_icmp .ge 70, 3) := by decide +kernel
theorem dX8_countAll_75 : decode cX8_countAll 75 = .ok (.aload_n 0, 1) := by decide +kernel
theorem dX8_countAll_76 : decode cX8_countAll 76 = .ok (.getfield 23, 3) := by decide +kernel
theorem dX8_countAll_79 : decode cX8_countAll 79 = .ok (.aload_n 0, 1) := by decide +kernel
theorem dX8_countAll_80 : decode cX8_countAll 80 = .ok (.iload_n 2, 1) := by decide +kernel
theorem dX8_countAll_81 : decode cX8_countAll 81 = .ok (.iload 5, 2) := by decide +kernel
theorem dX8_countAll_83 : decode cX8_countAll 83 = .ok (.invokevirtual 130, 3) := by decide +kernel
theorem dX8_countAll_86 : decode cX8_countAll 86 = .ok (.iaload, 1) := by decide +kernel
theorem dX8_countAll_87 : decode cX8_countAll 87 = .ok (.istore 6, 2) := by decide +kernel
theorem dX8_countAll_89 : decode cX8_countAll 89 = .ok (.iload 6, 2) := by decide +kernel
theorem dX8_countAll_91 : decode cX8_countAll 91 = .ok (.iload_n 3, 1) := by decide +kernel
theorem dX8_countAll_92 : decode cX8_countAll 92 = .ok (.if_icmp .le 14, 3) := by decide +kernel
theorem dX8_countAll_95 : decode cX8_countAll 95 = .ok (.iload 6, 2) := by decide +kernel
theorem dX8_countAll_97 : decode cX8_countAll 97 = .ok (.iload 4, 2) := by decide +kernel
theorem dX8_countAll_99 : decode cX8_countAll 99 = .ok (.if_icmp .ge 7, 3) := by decide +kernel
theorem dX8_countAll_102 : decode cX8_countAll 102 = .ok (.iload 6, 2) := by decide +kernel
theorem dX8_countAll_104 : decode cX8_countAll 104 = .ok (.istore 4, 2) := by decide +kernel
theorem dX8_countAll_106 : decode cX8_countAll 106 = .ok (.iload 6, 2) := by decide +kernel
theorem dX8_countAll_108 : decode cX8_countAll 108 = .ok (.iload_n 3, 1) := by decide +kernel
theorem dX8_countAll_109 : decode cX8_countAll 109 = .ok (.if_icmp .ne 27, 3) := by decide +kernel
theorem dX8_countAll_112 : decode cX8_countAll 112 = .ok (.iload_n 3, 1) := by decide +kernel
theorem dX8_countAll_113 : decode cX8_countAll 113 = .ok (.ifCond .le 23, 3) := by decide +kernel
theorem dX8_countAll_116 : decode cX8_countAll 116 = .ok (.aload_n 0, 1) := by decide +kernel
theorem dX8_countAll_117 : decode cX8_countAll 117 = .ok (.getfield 26, 3) := by decide +kernel
theorem dX8_countAll_120 : decode cX8_countAll 120 = .ok (.aload_n 0, 1) := by decide +kernel
theorem dX8_countAll_121 : decode cX8_countAll 121 = .ok (.iload_n 2, 1) := by decide +kernel
theorem dX8_countAll_122 : decode cX8_countAll 122 = .ok (.iload 5, 2) := by decide +kernel
theorem dX8_countAll_124 : decode cX8_countAll 124 = .ok (.invokevirtual 130, 3) := by decide +kernel
theorem dX8_countAll_127 : decode cX8_countAll 127 = .ok (.aload_n 0, 1) := by decide +kernel
theorem dX8_countAll_128 : decode cX8_countAll 128 = .ok (.iload_n 2, 1) := by decide +kernel
theorem dX8_countAll_129 : decode cX8_countAll 129 = .ok (.iload 5, 2) := by decide +kernel
theorem dX8_countAll_131 : decode cX8_countAll 131 = .ok (.iload_n 1, 1) := by decide +kernel
theorem dX8_countAll_132 : decode cX8_countAll 132 = .ok (.invokevirtual 138, 3) := by decide +kernel
theorem dX8_countAll_135 : decode cX8_countAll 135 = .ok (.lastore, 1) := by decide +kernel
theorem dX8_countAll_136 : decode cX8_countAll 136 = .ok (.iinc 5 1, 3) := by decide +kernel
theorem dX8_countAll_139 : decode cX8_countAll 139 = .ok (.goto (-73), 3) := by decide +kernel
theorem dX8_countAll_142 : decode cX8_countAll 142 = .ok (.iload 4, 2) := by decide +kernel
theorem dX8_countAll_144 : decode cX8_countAll 144 = .ok (.istore_n 3, 1) := by decide +kernel
theorem dX8_countAll_145 : decode cX8_countAll 145 = .ok (.goto (-92), 3) := by decide +kernel
theorem dX8_countAll_148 : decode cX8_countAll 148 = .ok (.iinc 2 1, 3) := by decide +kernel
theorem dX8_countAll_151 : decode cX8_countAll 151 = .ok (.goto (-145), 3) := by decide +kernel
theorem dX8_countAll_154 : decode cX8_countAll 154 = .ok (.return_, 1) := by decide +kernel
theorem dX8_intoNode_0 : decode cX8_intoNode 0 = .ok (.lconst 0, 1) := by decide +kernel
theorem dX8_intoNode_1 : decode cX8_intoNode 1 = .ok (.lstore 4, 2) := by decide +kernel
theorem dX8_intoNode_3 : decode cX8_intoNode 3 = .ok (.iconst 0, 1) := by decide +kernel
theorem dX8_intoNode_4 : decode cX8_intoNode 4 = .ok (.istore 6, 2) := by decide +kernel
theorem dX8_intoNode_6 : decode cX8_intoNode 6 = .ok (.iload 6, 2) := by decide +kernel
theorem dX8_intoNode_8 : decode cX8_intoNode 8 = .ok (.aload_n 0, 1) := by decide +kernel
theorem dX8_intoNode_9 : decode cX8_intoNode 9 = .ok (.getfield 113, 3) := by decide +kernel
theorem dX8_intoNode_12 : decode cX8_intoNode 12 = .ok (.if_icmp .ge 124, 3) := by decide +kernel
theorem dX8_intoNode_15 : decode cX8_intoNode 15 = .ok (.aload_n 0, 1) := by decide +kernel
theorem dX8_intoNode_16 : decode cX8_intoNode 16 = .ok (.getfield 16, 3) := by decide +kernel
theorem dX8_intoNode_19 : decode cX8_intoNode 19 = .ok (.iload 6, 2) := by decide +kernel
theorem dX8_intoNode_21 : decode cX8_intoNode 21 = .ok (.iaload, 1) := by decide +kernel
theorem dX8_intoNode_22 : decode cX8_intoNode 22 = .ok (.ifCond .eq 108, 3) := by decide +kernel
theorem dX8_intoNode_25 : decode cX8_intoNode 25 = .ok (.aload_n 0, 1) := by decide +kernel
theorem dX8_intoNode_26 : decode cX8_intoNode 26 = .ok (.getfield 13, 3) := by decide +kernel
theorem dX8_intoNode_29 : decode cX8_intoNode 29 = .ok (.iload 6, 2) := by decide +kernel
theorem dX8_intoNode_31 : decode cX8_intoNode 31 = .ok (.iaload, 1) := by decide +kernel
theorem dX8_intoNode_32 : decode cX8_intoNode 32 = .ok (.iload_n 2, 1) := by decide +kernel
theorem dX8_intoNode_33 : decode cX8_intoNode 33 = .ok (.if_icmp .ne 97, 3) := by decide +kernel
theorem dX8_intoNode_36 : decode cX8_intoNode 36 = .ok (.aload_n 0, 1) := by decide +kernel
theorem dX8_intoNode_37 : decode cX8_intoNode 37 = .ok (.getfield 23, 3) := by decide +kernel
theorem dX8_intoNode_40 : decode cX8_intoNode 40 = .ok (.aload_n 0, 1) := by decide +kernel
theorem dX8_intoNode_41 : decode cX8_intoNode 41 = .ok (.iload_n 1, 1) := by decide +kernel
theorem dX8_intoNode_42 : decode cX8_intoNode 42 = .ok (.aload_n 0, 1) := by decide +kernel
theorem dX8_intoNode_43 : decode cX8_intoNode 43 = .ok (.getfield 7, 3) := by decide +kernel
theorem dX8_intoNode_46 : decode cX8_intoNode 46 = .ok (.iload 6, 2) := by decide +kernel
theorem dX8_intoNode_48 : decode cX8_intoNode 48 = .ok (.iaload, 1) := by decide +kernel
theorem dX8_intoNode_49 : decode cX8_intoNode 49 = .ok (.invokevirtual 130, 3) := by decide +kernel
theorem dX8_intoNode_52 : decode cX8_intoNode 52 = .ok (.iaload, 1) := by decide +kernel
theorem dX8_intoNode_53 : decode cX8_intoNode 53 = .ok (.aload_n 0, 1) := by decide +kernel
theorem dX8_intoNode_54 : decode cX8_intoNode 54 = .ok (.getfield 16, 3) := by decide +kernel
theorem dX8_intoNode_57 : decode cX8_intoNode 57 = .ok (.iload 6, 2) := by decide +kernel
theorem dX8_intoNode_59 : decode cX8_intoNode 59 = .ok (.iaload, 1) := by decide +kernel
theorem dX8_intoNode_60 : decode cX8_intoNode 60 = .ok (.iadd, 1) := by decide +kernel
theorem dX8_intoNode_61 : decode cX8_intoNode 61 = .ok (.aload_n 0, 1) := by decide +kernel
theorem dX8_intoNode_62 : decode cX8_intoNode 62 = .ok (.getfield 23, 3) := by decide +kernel
theorem dX8_intoNode_65 : decode cX8_intoNode 65 = .ok (.aload_n 0, 1) := by decide +kernel
theorem dX8_intoNode_66 : decode cX8_intoNode 66 = .ok (.iload_n 1, 1) := by decide +kernel
theorem dX8_intoNode_67 : decode cX8_intoNode 67 = .ok (.iload_n 2, 1) := by decide +kernel
theorem dX8_intoNode_68 : decode cX8_intoNode 68 = .ok (.invokevirtual 130, 3) := by decide +kernel
theorem dX8_intoNode_71 : decode cX8_intoNode 71 = .ok (.iaload, 1) := by decide +kernel
theorem dX8_intoNode_72 : decode cX8_intoNode 72 = .ok (.if_icmp .eq 6, 3) := by decide +kernel
theorem dX8_intoNode_75 : decode cX8_intoNode 75 = .ok (.goto 55, 3) := by decide +kernel
theorem dX8_intoNode_78 : decode cX8_intoNode 78 = .ok (.iload_n 3, 1) := by decide +kernel
theorem dX8_intoNode_79 : decode cX8_intoNode 79 = .ok (.ifCond .eq 29, 3) := by decide +kernel
theorem dX8_intoNode_82 : decode cX8_intoNode 82 = .ok (.aload_n 0, 1) := by decide +kernel
theorem dX8_intoNode_83 : decode cX8_intoNode 83 = .ok (.getfield 7, 3) := by decide +kernel
theorem dX8_intoNode_86 : decode cX8_intoNode 86 = .ok (.iload 6, 2) := by decide +kernel
theorem dX8_intoNode_88 : decode cX8_intoNode 88 = .ok (.iaload, 1) := by decide +kernel
theorem dX8_intoNode_89 : decode cX8_intoNode 89 = .ok (.iload_n 1, 1) := by decide +kernel
theorem dX8_intoNode_90 : decode cX8_intoNode 90 = .ok (.if_icmp .eq 18, 3) := by decide +kernel
theorem dX8_intoNode_93 : decode cX8_intoNode 93 = .ok (.aload_n 0, 1) := by decide +kernel
theorem dX8_intoNode_94 : decode cX8_intoNode 94 = .ok (.aload_n 0, 1) := by decide +kernel
theorem dX8_intoNode_95 : decode cX8_intoNode 95 = .ok (.getfield 7, 3) := by decide +kernel
theorem dX8_intoNode_98 : decode cX8_intoNode 98 = .ok (.iload 6, 2) := by decide +kernel
theorem dX8_intoNode_100 : decode cX8_intoNode 100 = .ok (.iaload, 1) := by decide +kernel
theorem dX8_intoNode_101 : decode cX8_intoNode 101 = .ok (.iconst 0, 1) := by decide +kernel
theorem dX8_intoNode_102 : decode cX8_intoNode 102 = .ok (.invokevirtual 126, 3) := by decide +kernel
theorem dX8_intoNode_105 : decode cX8_intoNode 105 = .ok (.ifCond .ne 25, 3) := by decide +kernel
theorem dX8_intoNode_108 : decode cX8_intoNode 108 = .ok (.lload 4, 2) := by decide +kernel
theorem dX8_intoNode_110 : decode cX8_intoNode 110 = .ok (.aload_n 0, 1) := by decide +kernel
theorem dX8_intoNode_111 : decode cX8_intoNode 111 = .ok (.getfield 26, 3) := by decide +kernel
theorem dX8_intoNode_114 : decode cX8_intoNode 114 = .ok (.aload_n 0, 1) := by decide +kernel
theorem dX8_intoNode_115 : decode cX8_intoNode 115 = .ok (.iload_n 1, 1) := by decide +kernel
theorem dX8_intoNode_116 : decode cX8_intoNode 116 = .ok (.aload_n 0, 1) := by decide +kernel
theorem dX8_intoNode_117 : decode cX8_intoNode 117 = .ok (.getfield 7, 3) := by decide +kernel
theorem dX8_intoNode_120 : decode cX8_intoNode 120 = .ok (.iload 6, 2) := by decide +kernel
theorem dX8_intoNode_122 : decode cX8_intoNode 122 = .ok (.iaload, 1) := by decide +kernel
theorem dX8_intoNode_123 : decode cX8_intoNode 123 = .ok (.invokevirtual 130, 3) := by decide +kernel
theorem dX8_intoNode_126 : decode cX8_intoNode 126 = .ok (.laload, 1) := by decide +kernel
theorem dX8_intoNode_127 : decode cX8_intoNode 127 = .ok (.ladd, 1) := by decide +kernel
theorem dX8_intoNode_128 : decode cX8_intoNode 128 = .ok (.lstore 4, 2) := by decide +kernel
theorem dX8_intoNode_130 : decode cX8_intoNode 130 = .ok (.iinc 6 1, 3) := by decide +kernel
theorem dX8_intoNode_133 : decode cX8_intoNode 133 = .ok (.goto (-127), 3) := by decide +kernel
theorem dX8_intoNode_136 : decode cX8_intoNode 136 = .ok (.lload 4, 2) := by decide +kernel
theorem dX8_intoNode_138 : decode cX8_intoNode 138 = .ok (.lreturn, 1) := by decide +kernel
theorem dX8_isPair_0 : decode cX8_isPair 0 = .ok (.iload_n 1, 1) := by decide +kernel
theorem dX8_isPair_1 : decode cX8_isPair 1 = .ok (.iload_n 2, 1) := by decide +kernel
theorem dX8_isPair_2 : decode cX8_isPair 2 = .ok (.if_icmp .eq 41, 3) := by decide +kernel
theorem dX8_isPair_5 : decode cX8_isPair 5 = .ok (.aload_n 0, 1) := by decide +kernel
theorem dX8_isPair_6 : decode cX8_isPair 6 = .ok (.iload_n 1, 1) := by decide +kernel
theorem dX8_isPair_7 : decode cX8_isPair 7 = .ok (.iconst 1, 1) := by decide +kernel
theorem dX8_isPair_8 : decode cX8_isPair 8 = .ok (.invokevirtual 126, 3) := by decide +kernel
theorem dX8_isPair_11 : decode cX8_isPair 11 = .ok (.ifCond .eq 32, 3) := by decide +kernel
theorem dX8_isPair_14 : decode cX8_isPair 14 = .ok (.aload_n 0, 1) := by decide +kernel
theorem dX8_isPair_15 : decode cX8_isPair 15 = .ok (.iload_n 2, 1) := by decide +kernel
theorem dX8_isPair_16 : decode cX8_isPair 16 = .ok (.iconst 2, 1) := by decide +kernel
theorem dX8_isPair_17 : decode cX8_isPair 17 = .ok (.invokevirtual 126, 3) := by decide +kernel
theorem dX8_isPair_20 : decode cX8_isPair 20 = .ok (.ifCond .eq 23, 3) := by decide +kernel
theorem dX8_isPair_23 : decode cX8_isPair 23 = .ok (.aload_n 0, 1) := by decide +kernel
theorem dX8_isPair_24 : decode cX8_isPair 24 = .ok (.getfield 23, 3) := by decide +kernel
theorem dX8_isPair_27 : decode cX8_isPair 27 = .ok (.aload_n 0, 1) := by decide +kernel
theorem dX8_isPair_28 : decode cX8_isPair 28 = .ok (.iload_n 1, 1) := by decide +kernel
theorem dX8_isPair_29 : decode cX8_isPair 29 = .ok (.iload_n 2, 1) := by decide +kernel
theorem dX8_isPair_30 : decode cX8_isPair 30 = .ok (.invokevirtual 130, 3) := by decide +kernel
theorem dX8_isPair_33 : decode cX8_isPair 33 = .ok (.iaload, 1) := by decide +kernel
theorem dX8_isPair_34 : decode cX8_isPair 34 = .ok (.ldc 134, 2) := by decide +kernel
theorem dX8_isPair_36 : decode cX8_isPair 36 = .ok (.if_icmp .ge 7, 3) := by decide +kernel
theorem dX8_isPair_39 : decode cX8_isPair 39 = .ok (.iconst 1, 1) := by decide +kernel
theorem dX8_isPair_40 : decode cX8_isPair 40 = .ok (.goto 4, 3) := by decide +kernel
theorem dX8_isPair_43 : decode cX8_isPair 43 = .ok (.iconst 0, 1) := by decide +kernel
theorem dX8_isPair_44 : decode cX8_isPair 44 = .ok (.ireturn, 1) := by decide +kernel
theorem dX8_through_0 : decode cX8_through 0 = .ok (.aload_n 0, 1) := by decide +kernel
theorem dX8_through_1 : decode cX8_through 1 = .ok (.getfield 23, 3) := by decide +kernel
theorem dX8_through_4 : decode cX8_through 4 = .ok (.aload_n 0, 1) := by decide +kernel
theorem dX8_through_5 : decode cX8_through 5 = .ok (.iload_n 1, 1) := by decide +kernel
theorem dX8_through_6 : decode cX8_through 6 = .ok (.iload_n 3, 1) := by decide +kernel
theorem dX8_through_7 : decode cX8_through 7 = .ok (.invokevirtual 130, 3) := by decide +kernel
theorem dX8_through_10 : decode cX8_through 10 = .ok (.iaload, 1) := by decide +kernel
theorem dX8_through_11 : decode cX8_through 11 = .ok (.aload_n 0, 1) := by decide +kernel
theorem dX8_through_12 : decode cX8_through 12 = .ok (.getfield 23, 3) := by decide +kernel
theorem dX8_through_15 : decode cX8_through 15 = .ok (.aload_n 0, 1) := by decide +kernel
theorem dX8_through_16 : decode cX8_through 16 = .ok (.iload_n 3, 1) := by decide +kernel
theorem dX8_through_17 : decode cX8_through 17 = .ok (.iload_n 2, 1) := by decide +kernel
theorem dX8_through_18 : decode cX8_through 18 = .ok (.invokevirtual 130, 3) := by decide +kernel
theorem dX8_through_21 : decode cX8_through 21 = .ok (.iaload, 1) := by decide +kernel
theorem dX8_through_22 : decode cX8_through 22 = .ok (.iadd, 1) := by decide +kernel
theorem dX8_through_23 : decode cX8_through 23 = .ok (.aload_n 0, 1) := by decide +kernel
theorem dX8_through_24 : decode cX8_through 24 = .ok (.getfield 23, 3) := by decide +kernel
theorem dX8_through_27 : decode cX8_through 27 = .ok (.aload_n 0, 1) := by decide +kernel
theorem dX8_through_28 : decode cX8_through 28 = .ok (.iload_n 1, 1) := by decide +kernel
theorem dX8_through_29 : decode cX8_through 29 = .ok (.iload_n 2, 1) := by decide +kernel
theorem dX8_through_30 : decode cX8_through 30 = .ok (.invokevirtual 130, 3) := by decide +kernel
theorem dX8_through_33 : decode cX8_through 33 = .ok (.iaload, 1) := by decide +kernel
theorem dX8_through_34 : decode cX8_through 34 = .ok (.if_icmp .ne 7, 3) := by decide +kernel
theorem dX8_through_37 : decode cX8_through 37 = .ok (.iconst 1, 1) := by decide +kernel
theorem dX8_through_38 : decode cX8_through 38 = .ok (.goto 4, 3) := by decide +kernel
theorem dX8_through_41 : decode cX8_through 41 = .ok (.iconst 0, 1) := by decide +kernel
theorem dX8_through_42 : decode cX8_through 42 = .ok (.istore 4, 2) := by decide +kernel
theorem dX8_through_44 : decode cX8_through 44 = .ok (.iload 4, 2) := by decide +kernel
theorem dX8_through_46 : decode cX8_through 46 = .ok (.ifCond .eq 29, 3) := by decide +kernel
theorem dX8_through_49 : decode cX8_through 49 = .ok (.aload_n 0, 1) := by decide +kernel
theorem dX8_through_50 : decode cX8_through 50 = .ok (.getfield 26, 3) := by decide +kernel
theorem dX8_through_53 : decode cX8_through 53 = .ok (.aload_n 0, 1) := by decide +kernel
theorem dX8_through_54 : decode cX8_through 54 = .ok (.iload_n 1, 1) := by decide +kernel
theorem dX8_through_55 : decode cX8_through 55 = .ok (.iload_n 3, 1) := by decide +kernel
theorem dX8_through_56 : decode cX8_through 56 = .ok (.invokevirtual 130, 3) := by decide +kernel
theorem dX8_through_59 : decode cX8_through 59 = .ok (.laload, 1) := by decide +kernel
theorem dX8_through_60 : decode cX8_through 60 = .ok (.aload_n 0, 1) := by decide +kernel
theorem dX8_through_61 : decode cX8_through 61 = .ok (.getfield 26, 3) := by decide +kernel
theorem dX8_through_64 : decode cX8_through 64 = .ok (.aload_n 0, 1) := by decide +kernel
theorem dX8_through_65 : decode cX8_through 65 = .ok (.iload_n 3, 1) := by decide +kernel
theorem dX8_through_66 : decode cX8_through 66 = .ok (.iload_n 2, 1) := by decide +kernel
theorem dX8_through_67 : decode cX8_through 67 = .ok (.invokevirtual 130, 3) := by decide +kernel
theorem dX8_through_70 : decode cX8_through 70 = .ok (.laload, 1) := by decide +kernel
theorem dX8_through_71 : decode cX8_through 71 = .ok (.lmul, 1) := by decide +kernel
theorem dX8_through_72 : decode cX8_through 72 = .ok (.goto 4, 3) := by decide +kernel
theorem dX8_through_75 : decode cX8_through 75 = .ok (.lconst 0, 1) := by decide +kernel
theorem dX8_through_76 : decode cX8_through 76 = .ok (.lreturn, 1) := by decide +kernel
theorem dX8_far_0 : decode cX8_far 0 = .ok (.aload_n 0, 1) := by decide +kernel
theorem dX8_far_1 : decode cX8_far 1 = .ok (.iload_n 1, 1) := by decide +kernel
theorem dX8_far_2 : decode cX8_far 2 = .ok (.invokevirtual 119, 3) := by decide +kernel
theorem dX8_far_5 : decode cX8_far 5 = .ok (.ifCond .eq 11, 3) := by decide +kernel
theorem dX8_far_8 : decode cX8_far 8 = .ok (.aload_n 0, 1) := by decide +kernel
theorem dX8_far_9 : decode cX8_far 9 = .ok (.iload_n 2, 1) := by decide +kernel
theorem dX8_far_10 : decode cX8_far 10 = .ok (.invokevirtual 119, 3) := by decide +kernel
theorem dX8_far_13 : decode cX8_far 13 = .ok (.ifCond .ne 5, 3) := by decide +kernel
theorem dX8_far_16 : decode cX8_far 16 = .ok (.iconst (-1), 1) := by decide +kernel
theorem dX8_far_17 : decode cX8_far 17 = .ok (.ireturn, 1) := by decide +kernel
theorem dX8_far_18 : decode cX8_far 18 = .ok (.aload_n 0, 1) := by decide +kernel
theorem dX8_far_19 : decode cX8_far 19 = .ok (.invokevirtual 135, 3) := by decide +kernel
theorem dX8_far_22 : decode cX8_far 22 = .ok (.aload_n 0, 1) := by decide +kernel
theorem dX8_far_23 : decode cX8_far 23 = .ok (.getfield 23, 3) := by decide +kernel
theorem dX8_far_26 : decode cX8_far 26 = .ok (.aload_n 0, 1) := by decide +kernel
theorem dX8_far_27 : decode cX8_far 27 = .ok (.iload_n 1, 1) := by decide +kernel
theorem dX8_far_28 : decode cX8_far 28 = .ok (.iload_n 2, 1) := by decide +kernel
theorem dX8_far_29 : decode cX8_far 29 = .ok (.invokevirtual 130, 3) := by decide +kernel
theorem dX8_far_32 : decode cX8_far 32 = .ok (.iaload, 1) := by decide +kernel
theorem dX8_far_33 : decode cX8_far 33 = .ok (.istore_n 3, 1) := by decide +kernel
theorem dX8_far_34 : decode cX8_far 34 = .ok (.iload_n 3, 1) := by decide +kernel
theorem dX8_far_35 : decode cX8_far 35 = .ok (.ldc 134, 2) := by decide +kernel
theorem dX8_far_37 : decode cX8_far 37 = .ok (.if_icmp .ge 7, 3) := by decide +kernel
theorem dX8_far_40 : decode cX8_far 40 = .ok (.iload_n 3, 1) := by decide +kernel
theorem dX8_far_41 : decode cX8_far 41 = .ok (.goto 4, 3) := by decide +kernel
theorem dX8_far_44 : decode cX8_far 44 = .ok (.iconst (-1), 1) := by decide +kernel
theorem dX8_far_45 : decode cX8_far 45 = .ok (.ireturn, 1) := by decide +kernel
theorem dX8_ways_0 : decode cX8_ways 0 = .ok (.aload_n 0, 1) := by decide +kernel
theorem dX8_ways_1 : decode cX8_ways 1 = .ok (.iload_n 1, 1) := by decide +kernel
theorem dX8_ways_2 : decode cX8_ways 2 = .ok (.invokevirtual 119, 3) := by decide +kernel
theorem dX8_ways_5 : decode cX8_ways 5 = .ok (.ifCond .eq 11, 3) := by decide +kernel
theorem dX8_ways_8 : decode cX8_ways 8 = .ok (.aload_n 0, 1) := by decide +kernel
theorem dX8_ways_9 : decode cX8_ways 9 = .ok (.iload_n 2, 1) := by decide +kernel
theorem dX8_ways_10 : decode cX8_ways 10 = .ok (.invokevirtual 119, 3) := by decide +kernel
theorem dX8_ways_13 : decode cX8_ways 13 = .ok (.ifCond .ne 5, 3) := by decide +kernel
theorem dX8_ways_16 : decode cX8_ways 16 = .ok (.iconst (-1), 1) := by decide +kernel
theorem dX8_ways_17 : decode cX8_ways 17 = .ok (.ireturn, 1) := by decide +kernel
theorem dX8_ways_18 : decode cX8_ways 18 = .ok (.aload_n 0, 1) := by decide +kernel
theorem dX8_ways_19 : decode cX8_ways 19 = .ok (.iconst 0, 1) := by decide +kernel
theorem dX8_ways_20 : decode cX8_ways 20 = .ok (.invokevirtual 142, 3) := by decide +kernel
theorem dX8_ways_23 : decode cX8_ways 23 = .ok (.aload_n 0, 1) := by decide +kernel
theorem dX8_ways_24 : decode cX8_ways 24 = .ok (.getfield 26, 3) := by decide +kernel
theorem dX8_ways_27 : decode cX8_ways 27 = .ok (.aload_n 0, 1) := by decide +kernel
theorem dX8_ways_28 : decode cX8_ways 28 = .ok (.iload_n 1, 1) := by decide +kernel
theorem dX8_ways_29 : decode cX8_ways 29 = .ok (.iload_n 2, 1) := by decide +kernel
theorem dX8_ways_30 : decode cX8_ways 30 = .ok (.invokevirtual 130, 3) := by decide +kernel
theorem dX8_ways_33 : decode cX8_ways 33 = .ok (.laload, 1) := by decide +kernel
theorem dX8_ways_34 : decode cX8_ways 34 = .ok (.l2i, 1) := by decide +kernel
theorem dX8_ways_35 : decode cX8_ways 35 = .ok (.ireturn, 1) := by decide +kernel
theorem dX8_stress_0 : decode cX8_stress 0 = .ok (.aload_n 0, 1) := by decide +kernel
theorem dX8_stress_1 : decode cX8_stress 1 = .ok (.iload_n 1, 1) := by decide +kernel
theorem dX8_stress_2 : decode cX8_stress 2 = .ok (.invokevirtual 119, 3) := by decide +kernel
theorem dX8_stress_5 : decode cX8_stress 5 = .ok (.ifCond .ne 7, 3) := by decide +kernel
theorem dX8_stress_8 : decode cX8_stress 8 = .ok (.ldc2_w 146, 3) := by decide +kernel
theorem dX8_stress_11 : decode cX8_stress 11 = .ok (.lreturn, 1) := by decide +kernel
theorem dX8_stress_12 : decode cX8_stress 12 = .ok (.aload_n 0, 1) := by decide +kernel
theorem dX8_stress_13 : decode cX8_stress 13 = .ok (.iconst 0, 1) := by decide +kernel
theorem dX8_stress_14 : decode cX8_stress 14 = .ok (.invokevirtual 142, 3) := by decide +kernel
theorem dX8_stress_17 : decode cX8_stress 17 = .ok (.lconst 0, 1) := by decide +kernel
theorem dX8_stress_18 : decode cX8_stress 18 = .ok (.lstore_n 2, 1) := by decide +kernel
theorem dX8_stress_19 : decode cX8_stress 19 = .ok (.iconst 0, 1) := by decide +kernel
theorem dX8_stress_20 : decode cX8_stress 20 = .ok (.istore 4, 2) := by decide +kernel
theorem dX8_stress_22 : decode cX8_stress 22 = .ok (.iload 4, 2) := by decide +kernel
theorem dX8_stress_24 : decode cX8_stress 24 = .ok (.aload_n 0, 1) := by decide +kernel
theorem dX8_stress_25 : decode cX8_stress 25 = .ok (.getfield 110, 3) := by decide +kernel
theorem dX8_stress_28 : decode cX8_stress 28 = .ok (.if_icmp .ge 62, 3) := by decide +kernel
theorem dX8_stress_31 : decode cX8_stress 31 = .ok (.iconst 0, 1) := by decide +kernel
theorem dX8_stress_32 : decode cX8_stress 32 = .ok (.istore 5, 2) := by decide +kernel
theorem dX8_stress_34 : decode cX8_stress 34 = .ok (.iload 5, 2) := by decide +kernel
theorem dX8_stress_36 : decode cX8_stress 36 = .ok (.aload_n 0, 1) := by decide +kernel
theorem dX8_stress_37 : decode cX8_stress 37 = .ok (.getfield 110, 3) := by decide +kernel
theorem dX8_stress_40 : decode cX8_stress 40 = .ok (.if_icmp .ge 44, 3) := by decide +kernel
theorem dX8_stress_43 : decode cX8_stress 43 = .ok (.aload_n 0, 1) := by decide +kernel
theorem dX8_stress_44 : decode cX8_stress 44 = .ok (.iload 4, 2) := by decide +kernel
theorem dX8_stress_46 : decode cX8_stress 46 = .ok (.iload 5, 2) := by decide +kernel
theorem dX8_stress_48 : decode cX8_stress 48 = .ok (.invokevirtual 148, 3) := by decide +kernel
theorem dX8_stress_51 : decode cX8_stress 51 = .ok (.ifCond .eq 27, 3) := by decide +kernel
theorem dX8_stress_54 : decode cX8_stress 54 = .ok (.iload 4, 2) := by decide +kernel
theorem dX8_stress_56 : decode cX8_stress 56 = .ok (.iload_n 1, 1) := by decide +kernel
theorem dX8_stress_57 : decode cX8_stress 57 = .ok (.if_icmp .eq 21, 3) := by decide +kernel
theorem dX8_stress_60 : decode cX8_stress 60 = .ok (.iload 5, 2) := by decide +kernel
theorem dX8_stress_62 : decode cX8_stress 62 = .ok (.iload_n 1, 1) := by decide +kernel
theorem dX8_stress_63 : decode cX8_stress 63 = .ok (.if_icmp .eq 15, 3) := by decide +kernel
theorem dX8_stress_66 : decode cX8_stress 66 = .ok (.lload_n 2, 1) := by decide +kernel
theorem dX8_stress_67 : decode cX8_stress 67 = .ok (.aload_n 0, 1) := by decide +kernel
theorem dX8_stress_68 : decode cX8_stress 68 = .ok (.iload 4, 2) := by decide +kernel
theorem dX8_stress_70 : decode cX8_stress 70 = .ok (.iload 5, 2) := by decide +kernel
theorem dX8_stress_72 : decode cX8_stress 72 = .ok (.iload_n 1, 1) := by decide +kernel
theorem dX8_stress_73 : decode cX8_stress 73 = .ok (.invokevirtual 151, 3) := by decide +kernel
theorem dX8_stress_76 : decode cX8_stress 76 = .ok (.ladd, 1) := by decide +kernel
theorem dX8_stress_77 : decode cX8_stress 77 = .ok (.lstore_n 2, 1) := by decide +kernel
theorem dX8_stress_78 : decode cX8_stress 78 = .ok (.iinc 5 1, 3) := by decide +kernel
theorem dX8_stress_81 : decode cX8_stress 81 = .ok (.goto (-47), 3) := by decide +kernel
theorem dX8_stress_84 : decode cX8_stress 84 = .ok (.iinc 4 1, 3) := by decide +kernel
theorem dX8_stress_87 : decode cX8_stress 87 = .ok (.goto (-65), 3) := by decide +kernel
theorem dX8_stress_90 : decode cX8_stress 90 = .ok (.lload_n 2, 1) := by decide +kernel
theorem dX8_stress_91 : decode cX8_stress 91 = .ok (.lreturn, 1) := by decide +kernel
theorem dX8_to_0 : decode cX8_to 0 = .ok (.iconst 0, 1) := by decide +kernel
theorem dX8_to_1 : decode cX8_to 1 = .ok (.istore_n 3, 1) := by decide +kernel
theorem dX8_to_2 : decode cX8_to 2 = .ok (.iload_n 3, 1) := by decide +kernel
theorem dX8_to_3 : decode cX8_to 3 = .ok (.bipush 64, 2) := by decide +kernel
theorem dX8_to_5 : decode cX8_to 5 = .ok (.if_icmp .ge 37, 3) := by decide +kernel
theorem dX8_to_8 : decode cX8_to 8 = .ok (.aload_n 0, 1) := by decide +kernel
theorem dX8_to_9 : decode cX8_to 9 = .ok (.iload_n 3, 1) := by decide +kernel
theorem dX8_to_10 : decode cX8_to 10 = .ok (.iload_n 3, 1) := by decide +kernel
theorem dX8_to_11 : decode cX8_to 11 = .ok (.ifCond .ne 11, 3) := by decide +kernel
theorem dX8_to_14 : decode cX8_to 14 = .ok (.lload_n 1, 1) := by decide +kernel
theorem dX8_to_15 : decode cX8_to 15 = .ok (.ldc2_w 155, 3) := by decide +kernel
theorem dX8_to_18 : decode cX8_to 18 = .ok (.land, 1) := by decide +kernel
theorem dX8_to_19 : decode cX8_to 19 = .ok (.goto 16, 3) := by decide +kernel
theorem dX8_to_22 : decode cX8_to 22 = .ok (.iload_n 3, 1) := by decide +kernel
theorem dX8_to_23 : decode cX8_to 23 = .ok (.iconst 1, 1) := by decide +kernel
theorem dX8_to_24 : decode cX8_to 24 = .ok (.if_icmp .ne 10, 3) := by decide +kernel
theorem dX8_to_27 : decode cX8_to 27 = .ok (.lload_n 1, 1) := by decide +kernel
theorem dX8_to_28 : decode cX8_to 28 = .ok (.bipush 32, 2) := by decide +kernel
theorem dX8_to_30 : decode cX8_to 30 = .ok (.lushr, 1) := by decide +kernel
theorem dX8_to_31 : decode cX8_to 31 = .ok (.goto 4, 3) := by decide +kernel
theorem dX8_to_34 : decode cX8_to 34 = .ok (.lconst 0, 1) := by decide +kernel
theorem dX8_to_35 : decode cX8_to 35 = .ok (.lastore, 1) := by decide +kernel
theorem dX8_to_36 : decode cX8_to 36 = .ok (.iinc 3 1, 3) := by decide +kernel
theorem dX8_to_39 : decode cX8_to 39 = .ok (.goto (-37), 3) := by decide +kernel
theorem dX8_to_42 : decode cX8_to 42 = .ok (.return_, 1) := by decide +kernel
theorem dX8_copy_0 : decode cX8_copy 0 = .ok (.iconst 0, 1) := by decide +kernel
theorem dX8_copy_1 : decode cX8_copy 1 = .ok (.istore_n 3, 1) := by decide +kernel
theorem dX8_copy_2 : decode cX8_copy 2 = .ok (.iload_n 3, 1) := by decide +kernel
theorem dX8_copy_3 : decode cX8_copy 3 = .ok (.aload_n 0, 1) := by decide +kernel
theorem dX8_copy_4 : decode cX8_copy 4 = .ok (.getfield 33, 3) := by decide +kernel
theorem dX8_copy_7 : decode cX8_copy 7 = .ok (.if_icmp .ge 15, 3) := by decide +kernel
theorem dX8_copy_10 : decode cX8_copy 10 = .ok (.aload_n 1, 1) := by decide +kernel
theorem dX8_copy_11 : decode cX8_copy 11 = .ok (.iload_n 3, 1) := by decide +kernel
theorem dX8_copy_12 : decode cX8_copy 12 = .ok (.aload_n 2, 1) := by decide +kernel
theorem dX8_copy_13 : decode cX8_copy 13 = .ok (.iload_n 3, 1) := by decide +kernel
theorem dX8_copy_14 : decode cX8_copy 14 = .ok (.laload, 1) := by decide +kernel
theorem dX8_copy_15 : decode cX8_copy 15 = .ok (.lastore, 1) := by decide +kernel
theorem dX8_copy_16 : decode cX8_copy 16 = .ok (.iinc 3 1, 3) := by decide +kernel
theorem dX8_copy_19 : decode cX8_copy 19 = .ok (.goto (-17), 3) := by decide +kernel
theorem dX8_copy_22 : decode cX8_copy 22 = .ok (.return_, 1) := by decide +kernel
theorem dX8_times_0 : decode cX8_times 0 = .ok (.lconst 0, 1) := by decide +kernel
theorem dX8_times_1 : decode cX8_times 1 = .ok (.lstore 4, 2) := by decide +kernel
theorem dX8_times_3 : decode cX8_times 3 = .ok (.iconst 0, 1) := by decide +kernel
theorem dX8_times_4 : decode cX8_times 4 = .ok (.istore 6, 2) := by decide +kernel
theorem dX8_times_6 : decode cX8_times 6 = .ok (.iload 6, 2) := by decide +kernel
theorem dX8_times_8 : decode cX8_times 8 = .ok (.aload_n 0, 1) := by decide +kernel
theorem dX8_times_9 : decode cX8_times 9 = .ok (.getfield 33, 3) := by decide +kernel
theorem dX8_times_12 : decode cX8_times 12 = .ok (.if_icmp .ge 37, 3) := by decide +kernel
theorem dX8_times_15 : decode cX8_times 15 = .ok (.aload_n 1, 1) := by decide +kernel
theorem dX8_times_16 : decode cX8_times 16 = .ok (.iload 6, 2) := by decide +kernel
theorem dX8_times_18 : decode cX8_times 18 = .ok (.laload, 1) := by decide +kernel
theorem dX8_times_19 : decode cX8_times 19 = .ok (.lload_n 2, 1) := by decide +kernel
theorem dX8_times_20 : decode cX8_times 20 = .ok (.lmul, 1) := by decide +kernel
theorem dX8_times_21 : decode cX8_times 21 = .ok (.lload 4, 2) := by decide +kernel
theorem dX8_times_23 : decode cX8_times 23 = .ok (.ladd, 1) := by decide +kernel
theorem dX8_times_24 : decode cX8_times 24 = .ok (.lstore 7, 2) := by decide +kernel
theorem dX8_times_26 : decode cX8_times 26 = .ok (.aload_n 1, 1) := by decide +kernel
theorem dX8_times_27 : decode cX8_times 27 = .ok (.iload 6, 2) := by decide +kernel
theorem dX8_times_29 : decode cX8_times 29 = .ok (.lload 7, 2) := by decide +kernel
theorem dX8_times_31 : decode cX8_times 31 = .ok (.ldc2_w 155, 3) := by decide +kernel
theorem dX8_times_34 : decode cX8_times 34 = .ok (.land, 1) := by decide +kernel
theorem dX8_times_35 : decode cX8_times 35 = .ok (.lastore, 1) := by decide +kernel
theorem dX8_times_36 : decode cX8_times 36 = .ok (.lload 7, 2) := by decide +kernel
theorem dX8_times_38 : decode cX8_times 38 = .ok (.bipush 32, 2) := by decide +kernel
theorem dX8_times_40 : decode cX8_times 40 = .ok (.lushr, 1) := by decide +kernel
theorem dX8_times_41 : decode cX8_times 41 = .ok (.lstore 4, 2) := by decide +kernel
theorem dX8_times_43 : decode cX8_times 43 = .ok (.iinc 6 1, 3) := by decide +kernel
theorem dX8_times_46 : decode cX8_times 46 = .ok (.goto (-40), 3) := by decide +kernel
theorem dX8_times_49 : decode cX8_times 49 = .ok (.return_, 1) := by decide +kernel
theorem dX8_add_0 : decode cX8_add 0 = .ok (.lconst 0, 1) := by decide +kernel
theorem dX8_add_1 : decode cX8_add 1 = .ok (.lstore_n 3, 1) := by decide +kernel
theorem dX8_add_2 : decode cX8_add 2 = .ok (.iconst 0, 1) := by decide +kernel
theorem dX8_add_3 : decode cX8_add 3 = .ok (.istore 5, 2) := by decide +kernel
theorem dX8_add_5 : decode cX8_add 5 = .ok (.iload 5, 2) := by decide +kernel
theorem dX8_add_7 : decode cX8_add 7 = .ok (.aload_n 0, 1) := by decide +kernel
theorem dX8_add_8 : decode cX8_add 8 = .ok (.getfield 33, 3) := by decide +kernel
theorem dX8_add_11 : decode cX8_add 11 = .ok (.if_icmp .ge 38, 3) := by decide +kernel
theorem dX8_add_14 : decode cX8_add 14 = .ok (.aload_n 1, 1) := by decide +kernel
theorem dX8_add_15 : decode cX8_add 15 = .ok (.iload 5, 2) := by decide +kernel
theorem dX8_add_17 : decode cX8_add 17 = .ok (.laload, 1) := by decide +kernel
theorem dX8_add_18 : decode cX8_add 18 = .ok (.aload_n 2, 1) := by decide +kernel
theorem dX8_add_19 : decode cX8_add 19 = .ok (.iload 5, 2) := by decide +kernel
theorem dX8_add_21 : decode cX8_add 21 = .ok (.laload, 1) := by decide +kernel
theorem dX8_add_22 : decode cX8_add 22 = .ok (.ladd, 1) := by decide +kernel
theorem dX8_add_23 : decode cX8_add 23 = .ok (.lload_n 3, 1) := by decide +kernel
theorem dX8_add_24 : decode cX8_add 24 = .ok (.ladd, 1) := by decide +kernel
theorem dX8_add_25 : decode cX8_add 25 = .ok (.lstore 6, 2) := by decide +kernel
theorem dX8_add_27 : decode cX8_add 27 = .ok (.aload_n 1, 1) := by decide +kernel
theorem dX8_add_28 : decode cX8_add 28 = .ok (.iload 5, 2) := by decide +kernel
theorem dX8_add_30 : decode cX8_add 30 = .ok (.lload 6, 2) := by decide +kernel
theorem dX8_add_32 : decode cX8_add 32 = .ok (.ldc2_w 155, 3) := by decide +kernel
theorem dX8_add_35 : decode cX8_add 35 = .ok (.land, 1) := by decide +kernel
theorem dX8_add_36 : decode cX8_add 36 = .ok (.lastore, 1) := by decide +kernel
theorem dX8_add_37 : decode cX8_add 37 = .ok (.lload 6, 2) := by decide +kernel
theorem dX8_add_39 : decode cX8_add 39 = .ok (.bipush 32, 2) := by decide +kernel
theorem dX8_add_41 : decode cX8_add 41 = .ok (.lushr, 1) := by decide +kernel
theorem dX8_add_42 : decode cX8_add 42 = .ok (.lstore_n 3, 1) := by decide +kernel
theorem dX8_add_43 : decode cX8_add 43 = .ok (.iinc 5 1, 3) := by decide +kernel
theorem dX8_add_46 : decode cX8_add 46 = .ok (.goto (-41), 3) := by decide +kernel
theorem dX8_add_49 : decode cX8_add 49 = .ok (.return_, 1) := by decide +kernel
theorem dX8_less_0 : decode cX8_less 0 = .ok (.lconst 0, 1) := by decide +kernel
theorem dX8_less_1 : decode cX8_less 1 = .ok (.lstore_n 3, 1) := by decide +kernel
theorem dX8_less_2 : decode cX8_less 2 = .ok (.iconst 0, 1) := by decide +kernel
theorem dX8_less_3 : decode cX8_less 3 = .ok (.istore 5, 2) := by decide +kernel
theorem dX8_less_5 : decode cX8_less 5 = .ok (.iload 5, 2) := by decide +kernel
theorem dX8_less_7 : decode cX8_less 7 = .ok (.aload_n 0, 1) := by decide +kernel
theorem dX8_less_8 : decode cX8_less 8 = .ok (.getfield 33, 3) := by decide +kernel
theorem dX8_less_11 : decode cX8_less 11 = .ok (.if_icmp .ge 45, 3) := by decide +kernel
theorem dX8_less_14 : decode cX8_less 14 = .ok (.aload_n 1, 1) := by decide +kernel
theorem dX8_less_15 : decode cX8_less 15 = .ok (.iload 5, 2) := by decide +kernel
theorem dX8_less_17 : decode cX8_less 17 = .ok (.laload, 1) := by decide +kernel
theorem dX8_less_18 : decode cX8_less 18 = .ok (.aload_n 2, 1) := by decide +kernel
theorem dX8_less_19 : decode cX8_less 19 = .ok (.iload 5, 2) := by decide +kernel
theorem dX8_less_21 : decode cX8_less 21 = .ok (.laload, 1) := by decide +kernel
theorem dX8_less_22 : decode cX8_less 22 = .ok (.lsub, 1) := by decide +kernel
theorem dX8_less_23 : decode cX8_less 23 = .ok (.lload_n 3, 1) := by decide +kernel
theorem dX8_less_24 : decode cX8_less 24 = .ok (.lsub, 1) := by decide +kernel
theorem dX8_less_25 : decode cX8_less 25 = .ok (.lstore 6, 2) := by decide +kernel
theorem dX8_less_27 : decode cX8_less 27 = .ok (.aload_n 1, 1) := by decide +kernel
theorem dX8_less_28 : decode cX8_less 28 = .ok (.iload 5, 2) := by decide +kernel
theorem dX8_less_30 : decode cX8_less 30 = .ok (.lload 6, 2) := by decide +kernel
theorem dX8_less_32 : decode cX8_less 32 = .ok (.ldc2_w 155, 3) := by decide +kernel
theorem dX8_less_35 : decode cX8_less 35 = .ok (.land, 1) := by decide +kernel
theorem dX8_less_36 : decode cX8_less 36 = .ok (.lastore, 1) := by decide +kernel
theorem dX8_less_37 : decode cX8_less 37 = .ok (.lload 6, 2) := by decide +kernel
theorem dX8_less_39 : decode cX8_less 39 = .ok (.lconst 0, 1) := by decide +kernel
theorem dX8_less_40 : decode cX8_less 40 = .ok (.lcmp, 1) := by decide +kernel
theorem dX8_less_41 : decode cX8_less 41 = .ok (.ifCond .ge 7, 3) := by decide +kernel
theorem dX8_less_44 : decode cX8_less 44 = .ok (.lconst 1, 1) := by decide +kernel
theorem dX8_less_45 : decode cX8_less 45 = .ok (.goto 4, 3) := by decide +kernel
theorem dX8_less_48 : decode cX8_less 48 = .ok (.lconst 0, 1) := by decide +kernel
theorem dX8_less_49 : decode cX8_less 49 = .ok (.lstore_n 3, 1) := by decide +kernel
theorem dX8_less_50 : decode cX8_less 50 = .ok (.iinc 5 1, 3) := by decide +kernel
theorem dX8_less_53 : decode cX8_less 53 = .ok (.goto (-48), 3) := by decide +kernel
theorem dX8_less_56 : decode cX8_less 56 = .ok (.return_, 1) := by decide +kernel
theorem dX8_compare_0 : decode cX8_compare 0 = .ok (.iconst 0, 1) := by decide +kernel
theorem dX8_compare_1 : decode cX8_compare 1 = .ok (.istore_n 3, 1) := by decide +kernel
theorem dX8_compare_2 : decode cX8_compare 2 = .ok (.aload_n 0, 1) := by decide +kernel
theorem dX8_compare_3 : decode cX8_compare 3 = .ok (.getfield 33, 3) := by decide +kernel
theorem dX8_compare_6 : decode cX8_compare 6 = .ok (.iconst 1, 1) := by decide +kernel
theorem dX8_compare_7 : decode cX8_compare 7 = .ok (.isub, 1) := by decide +kernel
theorem dX8_compare_8 : decode cX8_compare 8 = .ok (.istore 4, 2) := by decide +kernel
theorem dX8_compare_10 : decode cX8_compare 10 = .ok (.iload 4, 2) := by decide +kernel
theorem dX8_compare_12 : decode cX8_compare 12 = .ok (.ifCond .lt 47, 3) := by decide +kernel
theorem dX8_compare_15 : decode cX8_compare 15 = .ok (.iload_n 3, 1) := by decide +kernel
theorem dX8_compare_16 : decode cX8_compare 16 = .ok (.ifCond .ne 43, 3) := by decide +kernel
theorem dX8_compare_19 : decode cX8_compare 19 = .ok (.aload_n 1, 1) := by decide +kernel
theorem dX8_compare_20 : decode cX8_compare 20 = .ok (.iload 4, 2) := by decide +kernel
theorem dX8_compare_22 : decode cX8_compare 22 = .ok (.laload, 1) := by decide +kernel
theorem dX8_compare_23 : decode cX8_compare 23 = .ok (.aload_n 2, 1) := by decide +kernel
theorem dX8_compare_24 : decode cX8_compare 24 = .ok (.iload 4, 2) := by decide +kernel
theorem dX8_compare_26 : decode cX8_compare 26 = .ok (.laload, 1) := by decide +kernel
theorem dX8_compare_27 : decode cX8_compare 27 = .ok (.lcmp, 1) := by decide +kernel
theorem dX8_compare_28 : decode cX8_compare 28 = .ok (.ifCond .ge 7, 3) := by decide +kernel
theorem dX8_compare_31 : decode cX8_compare 31 = .ok (.iconst (-1), 1) := by decide +kernel
theorem dX8_compare_32 : decode cX8_compare 32 = .ok (.goto 20, 3) := by decide +kernel
theorem dX8_compare_35 : decode cX8_compare 35 = .ok (.aload_n 1, 1) := by decide +kernel
theorem dX8_compare_36 : decode cX8_compare 36 = .ok (.iload 4, 2) := by decide +kernel
theorem dX8_compare_38 : decode cX8_compare 38 = .ok (.laload, 1) := by decide +kernel
theorem dX8_compare_39 : decode cX8_compare 39 = .ok (.aload_n 2, 1) := by decide +kernel
theorem dX8_compare_40 : decode cX8_compare 40 = .ok (.iload 4, 2) := by decide +kernel
theorem dX8_compare_42 : decode cX8_compare 42 = .ok (.laload, 1) := by decide +kernel
theorem dX8_compare_43 : decode cX8_compare 43 = .ok (.lcmp, 1) := by decide +kernel
theorem dX8_compare_44 : decode cX8_compare 44 = .ok (.ifCond .le 7, 3) := by decide +kernel
theorem dX8_compare_47 : decode cX8_compare 47 = .ok (.iconst 1, 1) := by decide +kernel
theorem dX8_compare_48 : decode cX8_compare 48 = .ok (.goto 4, 3) := by decide +kernel
theorem dX8_compare_51 : decode cX8_compare 51 = .ok (.iconst 0, 1) := by decide +kernel
theorem dX8_compare_52 : decode cX8_compare 52 = .ok (.istore_n 3, 1) := by decide +kernel
theorem dX8_compare_53 : decode cX8_compare 53 = .ok (.iinc 4 (-1), 3) := by decide +kernel
theorem dX8_compare_56 : decode cX8_compare 56 = .ok (.goto (-46), 3) := by decide +kernel
theorem dX8_compare_59 : decode cX8_compare 59 = .ok (.iload_n 3, 1) := by decide +kernel
theorem dX8_compare_60 : decode cX8_compare 60 = .ok (.ireturn, 1) := by decide +kernel
theorem dX8_isZero_0 : decode cX8_isZero 0 = .ok (.iconst 1, 1) := by decide +kernel
theorem dX8_isZero_1 : decode cX8_isZero 1 = .ok (.istore_n 2, 1) := by decide +kernel
theorem dX8_isZero_2 : decode cX8_isZero 2 = .ok (.iconst 0, 1) := by decide +kernel
theorem dX8_isZero_3 : decode cX8_isZero 3 = .ok (.istore_n 3, 1) := by decide +kernel
theorem dX8_isZero_4 : decode cX8_isZero 4 = .ok (.iload_n 3, 1) := by decide +kernel
theorem dX8_isZero_5 : decode cX8_isZero 5 = .ok (.aload_n 0, 1) := by decide +kernel
theorem dX8_isZero_6 : decode cX8_isZero 6 = .ok (.getfield 33, 3) := by decide +kernel
theorem dX8_isZero_9 : decode cX8_isZero 9 = .ok (.if_icmp .ge 25, 3) := by decide +kernel
theorem dX8_isZero_12 : decode cX8_isZero 12 = .ok (.iload_n 2, 1) := by decide +kernel
theorem dX8_isZero_13 : decode cX8_isZero 13 = .ok (.aload_n 1, 1) := by decide +kernel
theorem dX8_isZero_14 : decode cX8_isZero 14 = .ok (.iload_n 3, 1) := by decide +kernel
theorem dX8_isZero_15 : decode cX8_isZero 15 = .ok (.laload, 1) := by decide +kernel
theorem dX8_isZero_16 : decode cX8_isZero 16 = .ok (.lconst 0, 1) := by decide +kernel
theorem dX8_isZero_17 : decode cX8_isZero 17 = .ok (.lcmp, 1) := by decide +kernel
theorem dX8_isZero_18 : decode cX8_isZero 18 = .ok (.ifCond .ne 7, 3) := by decide +kernel
theorem dX8_isZero_21 : decode cX8_isZero 21 = .ok (.iconst 1, 1) := by decide +kernel
theorem dX8_isZero_22 : decode cX8_isZero 22 = .ok (.goto 4, 3) := by decide +kernel
theorem dX8_isZero_25 : decode cX8_isZero 25 = .ok (.iconst 0, 1) := by decide +kernel
theorem dX8_isZero_26 : decode cX8_isZero 26 = .ok (.iand, 1) := by decide +kernel
theorem dX8_isZero_27 : decode cX8_isZero 27 = .ok (.istore_n 2, 1) := by decide +kernel
theorem dX8_isZero_28 : decode cX8_isZero 28 = .ok (.iinc 3 1, 3) := by decide +kernel
theorem dX8_isZero_31 : decode cX8_isZero 31 = .ok (.goto (-27), 3) := by decide +kernel
theorem dX8_isZero_34 : decode cX8_isZero 34 = .ok (.iload_n 2, 1) := by decide +kernel
theorem dX8_isZero_35 : decode cX8_isZero 35 = .ok (.ireturn, 1) := by decide +kernel
theorem dX8_by_0 : decode cX8_by 0 = .ok (.lconst 0, 1) := by decide +kernel
theorem dX8_by_1 : decode cX8_by 1 = .ok (.lstore 4, 2) := by decide +kernel
theorem dX8_by_3 : decode cX8_by 3 = .ok (.aload_n 0, 1) := by decide +kernel
theorem dX8_by_4 : decode cX8_by 4 = .ok (.getfield 33, 3) := by decide +kernel
theorem dX8_by_7 : decode cX8_by 7 = .ok (.iconst 1, 1) := by decide +kernel
theorem dX8_by_8 : decode cX8_by 8 = .ok (.isub, 1) := by decide +kernel
theorem dX8_by_9 : decode cX8_by 9 = .ok (.istore 6, 2) := by decide +kernel
theorem dX8_by_11 : decode cX8_by 11 = .ok (.iload 6, 2) := by decide +kernel
theorem dX8_by_13 : decode cX8_by 13 = .ok (.ifCond .lt 35, 3) := by decide +kernel
theorem dX8_by_16 : decode cX8_by 16 = .ok (.lload 4, 2) := by decide +kernel
theorem dX8_by_18 : decode cX8_by 18 = .ok (.bipush 32, 2) := by decide +kernel
theorem dX8_by_20 : decode cX8_by 20 = .ok (.lshl, 1) := by decide +kernel
theorem dX8_by_21 : decode cX8_by 21 = .ok (.aload_n 1, 1) := by decide +kernel
theorem dX8_by_22 : decode cX8_by 22 = .ok (.iload 6, 2) := by decide +kernel
theorem dX8_by_24 : decode cX8_by 24 = .ok (.laload, 1) := by decide +kernel
theorem dX8_by_25 : decode cX8_by 25 = .ok (.lor, 1) := by decide +kernel
theorem dX8_by_26 : decode cX8_by 26 = .ok (.lstore 7, 2) := by decide +kernel
theorem dX8_by_28 : decode cX8_by 28 = .ok (.aload_n 1, 1) := by decide +kernel
theorem dX8_by_29 : decode cX8_by 29 = .ok (.iload 6, 2) := by decide +kernel
theorem dX8_by_31 : decode cX8_by 31 = .ok (.lload 7, 2) := by decide +kernel
theorem dX8_by_33 : decode cX8_by 33 = .ok (.lload_n 2, 1) := by decide +kernel
theorem dX8_by_34 : decode cX8_by 34 = .ok (.ldiv, 1) := by decide +kernel
theorem dX8_by_35 : decode cX8_by 35 = .ok (.lastore, 1) := by decide +kernel
theorem dX8_by_36 : decode cX8_by 36 = .ok (.lload 7, 2) := by decide +kernel
theorem dX8_by_38 : decode cX8_by 38 = .ok (.lload_n 2, 1) := by decide +kernel
theorem dX8_by_39 : decode cX8_by 39 = .ok (.lrem, 1) := by decide +kernel
theorem dX8_by_40 : decode cX8_by 40 = .ok (.lstore 4, 2) := by decide +kernel
theorem dX8_by_42 : decode cX8_by 42 = .ok (.iinc 6 (-1), 3) := by decide +kernel
theorem dX8_by_45 : decode cX8_by 45 = .ok (.goto (-34), 3) := by decide +kernel
theorem dX8_by_48 : decode cX8_by 48 = .ok (.lload 4, 2) := by decide +kernel
theorem dX8_by_50 : decode cX8_by 50 = .ok (.lreturn, 1) := by decide +kernel
theorem dX8_rest_0 : decode cX8_rest 0 = .ok (.aload_n 0, 1) := by decide +kernel
theorem dX8_rest_1 : decode cX8_rest 1 = .ok (.aload_n 0, 1) := by decide +kernel
theorem dX8_rest_2 : decode cX8_rest 2 = .ok (.getfield 43, 3) := by decide +kernel
theorem dX8_rest_5 : decode cX8_rest 5 = .ok (.aload_n 1, 1) := by decide +kernel
theorem dX8_rest_6 : decode cX8_rest 6 = .ok (.invokevirtual 157, 3) := by decide +kernel
theorem dX8_rest_9 : decode cX8_rest 9 = .ok (.aload_n 0, 1) := by decide +kernel
theorem dX8_rest_10 : decode cX8_rest 10 = .ok (.aload_n 0, 1) := by decide +kernel
theorem dX8_rest_11 : decode cX8_rest 11 = .ok (.getfield 43, 3) := by decide +kernel
theorem dX8_rest_14 : decode cX8_rest 14 = .ok (.lload_n 2, 1) := by decide +kernel
theorem dX8_rest_15 : decode cX8_rest 15 = .ok (.invokevirtual 161, 3) := by decide +kernel
theorem dX8_rest_18 : decode cX8_rest 18 = .ok (.lreturn, 1) := by decide +kernel
theorem dX8_divisor_0 : decode cX8_divisor 0 = .ok (.lload_n 0, 1) := by decide +kernel
theorem dX8_divisor_1 : decode cX8_divisor 1 = .ok (.lstore 4, 2) := by decide +kernel
theorem dX8_divisor_3 : decode cX8_divisor 3 = .ok (.lload_n 2, 1) := by decide +kernel
theorem dX8_divisor_4 : decode cX8_divisor 4 = .ok (.lstore 6, 2) := by decide +kernel
theorem dX8_divisor_6 : decode cX8_divisor 6 = .ok (.lload 6, 2) := by decide +kernel
theorem dX8_divisor_8 : decode cX8_divisor 8 = .ok (.lconst 0, 1) := by decide +kernel
theorem dX8_divisor_9 : decode cX8_divisor 9 = .ok (.lcmp, 1) := by decide +kernel
theorem dX8_divisor_10 : decode cX8_divisor 10 = .ok (.ifCond .eq 21, 3) := by decide +kernel
theorem dX8_divisor_13 : decode cX8_divisor 13 = .ok (.lload 4, 2) := by decide +kernel
theorem dX8_divisor_15 : decode cX8_divisor 15 = .ok (.lload 6, 2) := by decide +kernel
theorem dX8_divisor_17 : decode cX8_divisor 17 = .ok (.lrem, 1) := by decide +kernel
theorem dX8_divisor_18 : decode cX8_divisor 18 = .ok (.lstore 8, 2) := by decide +kernel
theorem dX8_divisor_20 : decode cX8_divisor 20 = .ok (.lload 6, 2) := by decide +kernel
theorem dX8_divisor_22 : decode cX8_divisor 22 = .ok (.lstore 4, 2) := by decide +kernel
theorem dX8_divisor_24 : decode cX8_divisor 24 = .ok (.lload 8, 2) := by decide +kernel
theorem dX8_divisor_26 : decode cX8_divisor 26 = .ok (.lstore 6, 2) := by decide +kernel
theorem dX8_divisor_28 : decode cX8_divisor 28 = .ok (.goto (-22), 3) := by decide +kernel
theorem dX8_divisor_31 : decode cX8_divisor 31 = .ok (.lload 4, 2) := by decide +kernel
theorem dX8_divisor_33 : decode cX8_divisor 33 = .ok (.lreturn, 1) := by decide +kernel
theorem dX8_nothing_0 : decode cX8_nothing 0 = .ok (.aload_n 0, 1) := by decide +kernel
theorem dX8_nothing_1 : decode cX8_nothing 1 = .ok (.bipush 64, 2) := by decide +kernel
theorem dX8_nothing_3 : decode cX8_nothing 3 = .ok (.putfield 33, 3) := by decide +kernel
theorem dX8_nothing_6 : decode cX8_nothing 6 = .ok (.aload_n 0, 1) := by decide +kernel
theorem dX8_nothing_7 : decode cX8_nothing 7 = .ok (.getfield 37, 3) := by decide +kernel
theorem dX8_nothing_10 : decode cX8_nothing 10 = .ok (.lconst 0, 1) := by decide +kernel
theorem dX8_nothing_11 : decode cX8_nothing 11 = .ok (.invokestatic 165, 3) := by decide +kernel
theorem dX8_nothing_14 : decode cX8_nothing 14 = .ok (.aload_n 0, 1) := by decide +kernel
theorem dX8_nothing_15 : decode cX8_nothing 15 = .ok (.getfield 40, 3) := by decide +kernel
theorem dX8_nothing_18 : decode cX8_nothing 18 = .ok (.lconst 1, 1) := by decide +kernel
theorem dX8_nothing_19 : decode cX8_nothing 19 = .ok (.invokestatic 165, 3) := by decide +kernel
theorem dX8_nothing_22 : decode cX8_nothing 22 = .ok (.return_, 1) := by decide +kernel
theorem dX8_more_0 : decode cX8_more 0 = .ok (.lload_n 1, 1) := by decide +kernel
theorem dX8_more_1 : decode cX8_more 1 = .ok (.lload_n 3, 1) := by decide +kernel
theorem dX8_more_2 : decode cX8_more 2 = .ok (.invokestatic 168, 3) := by decide +kernel
theorem dX8_more_5 : decode cX8_more 5 = .ok (.lstore 5, 2) := by decide +kernel
theorem dX8_more_7 : decode cX8_more 7 = .ok (.lload_n 1, 1) := by decide +kernel
theorem dX8_more_8 : decode cX8_more 8 = .ok (.lload 5, 2) := by decide +kernel
theorem dX8_more_10 : decode cX8_more 10 = .ok (.ldiv, 1) := by decide +kernel
theorem dX8_more_11 : decode cX8_more 11 = .ok (.lstore 7, 2) := by decide +kernel
theorem dX8_more_13 : decode cX8_more 13 = .ok (.lload_n 3, 1) := by decide +kernel
theorem dX8_more_14 : decode cX8_more 14 = .ok (.lload 5, 2) := by decide +kernel
theorem dX8_more_16 : decode cX8_more 16 = .ok (.ldiv, 1) := by decide +kernel
theorem dX8_more_17 : decode cX8_more 17 = .ok (.lstore 9, 2) := by decide +kernel
theorem dX8_more_19 : decode cX8_more 19 = .ok (.aload_n 0, 1) := by decide +kernel
theorem dX8_more_20 : decode cX8_more 20 = .ok (.aload_n 0, 1) := by decide +kernel
theorem dX8_more_21 : decode cX8_more 21 = .ok (.getfield 40, 3) := by decide +kernel
theorem dX8_more_24 : decode cX8_more 24 = .ok (.lload 9, 2) := by decide +kernel
theorem dX8_more_26 : decode cX8_more 26 = .ok (.invokevirtual 172, 3) := by decide +kernel
theorem dX8_more_29 : decode cX8_more 29 = .ok (.lload 9, 2) := by decide +kernel
theorem dX8_more_31 : decode cX8_more 31 = .ok (.invokestatic 168, 3) := by decide +kernel
theorem dX8_more_34 : decode cX8_more 34 = .ok (.lstore 11, 2) := by decide +kernel
theorem dX8_more_36 : decode cX8_more 36 = .ok (.aload_n 0, 1) := by decide +kernel
theorem dX8_more_37 : decode cX8_more 37 = .ok (.aload_n 0, 1) := by decide +kernel
theorem dX8_more_38 : decode cX8_more 38 = .ok (.getfield 40, 3) := by decide +kernel
theorem dX8_more_41 : decode cX8_more 41 = .ok (.lload 11, 2) := by decide +kernel
theorem dX8_more_43 : decode cX8_more 43 = .ok (.invokevirtual 161, 3) := by decide +kernel
theorem dX8_more_46 : decode cX8_more 46 = .ok (.pop2, 1) := by decide +kernel
theorem dX8_more_47 : decode cX8_more 47 = .ok (.aload_n 0, 1) := by decide +kernel
theorem dX8_more_48 : decode cX8_more 48 = .ok (.aload_n 0, 1) := by decide +kernel
theorem dX8_more_49 : decode cX8_more 49 = .ok (.getfield 46, 3) := by decide +kernel
theorem dX8_more_52 : decode cX8_more 52 = .ok (.aload_n 0, 1) := by decide +kernel
theorem dX8_more_53 : decode cX8_more 53 = .ok (.getfield 40, 3) := by decide +kernel
theorem dX8_more_56 : decode cX8_more 56 = .ok (.invokevirtual 157, 3) := by decide +kernel
theorem dX8_more_59 : decode cX8_more 59 = .ok (.aload_n 0, 1) := by decide +kernel
theorem dX8_more_60 : decode cX8_more 60 = .ok (.aload_n 0, 1) := by decide +kernel
theorem dX8_more_61 : decode cX8_more 61 = .ok (.getfield 46, 3) := by decide +kernel
theorem dX8_more_64 : decode cX8_more 64 = .ok (.lload 7, 2) := by decide +kernel
theorem dX8_more_66 : decode cX8_more 66 = .ok (.invokevirtual 175, 3) := by decide +kernel
theorem dX8_more_69 : decode cX8_more 69 = .ok (.aload_n 0, 1) := by decide +kernel
theorem dX8_more_70 : decode cX8_more 70 = .ok (.aload_n 0, 1) := by decide +kernel
theorem dX8_more_71 : decode cX8_more 71 = .ok (.getfield 37, 3) := by decide +kernel
theorem dX8_more_74 : decode cX8_more 74 = .ok (.lload 9, 2) := by decide +kernel
theorem dX8_more_76 : decode cX8_more 76 = .ok (.lload 11, 2) := by decide +kernel
theorem dX8_more_78 : decode cX8_more 78 = .ok (.ldiv, 1) := by decide +kernel
theorem dX8_more_79 : decode cX8_more 79 = .ok (.invokevirtual 175, 3) := by decide +kernel
theorem dX8_more_82 : decode cX8_more 82 = .ok (.aload_n 0, 1) := by decide +kernel
theorem dX8_more_83 : decode cX8_more 83 = .ok (.aload_n 0, 1) := by decide +kernel
theorem dX8_more_84 : decode cX8_more 84 = .ok (.getfield 37, 3) := by decide +kernel
theorem dX8_more_87 : decode cX8_more 87 = .ok (.aload_n 0, 1) := by decide +kernel
theorem dX8_more_88 : decode cX8_more 88 = .ok (.getfield 46, 3) := by decide +kernel
theorem dX8_more_91 : decode cX8_more 91 = .ok (.invokevirtual 178, 3) := by decide +kernel
theorem dX8_more_94 : decode cX8_more 94 = .ok (.lload 11, 2) := by decide +kernel
theorem dX8_more_96 : decode cX8_more 96 = .ok (.lconst 1, 1) := by decide +kernel
theorem dX8_more_97 : decode cX8_more 97 = .ok (.lcmp, 1) := by decide +kernel
theorem dX8_more_98 : decode cX8_more 98 = .ok (.ifCond .ne 7, 3) := by decide +kernel
theorem dX8_more_101 : decode cX8_more 101 = .ok (.lconst 1, 1) := by decide +kernel
theorem dX8_more_102 : decode cX8_more 102 = .ok (.goto 18, 3) := by decide +kernel
theorem dX8_more_105 : decode cX8_more 105 = .ok (.aload_n 0, 1) := by decide +kernel
theorem dX8_more_106 : decode cX8_more 106 = .ok (.aload_n 0, 1) := by decide +kernel
theorem dX8_more_107 : decode cX8_more 107 = .ok (.getfield 37, 3) := by decide +kernel
theorem dX8_more_110 : decode cX8_more 110 = .ok (.lload 11, 2) := by decide +kernel
theorem dX8_more_112 : decode cX8_more 112 = .ok (.invokevirtual 172, 3) := by decide +kernel
theorem dX8_more_115 : decode cX8_more 115 = .ok (.lload 11, 2) := by decide +kernel
theorem dX8_more_117 : decode cX8_more 117 = .ok (.invokestatic 168, 3) := by decide +kernel
theorem dX8_more_120 : decode cX8_more 120 = .ok (.lstore 13, 2) := by decide +kernel
theorem dX8_more_122 : decode cX8_more 122 = .ok (.aload_n 0, 1) := by decide +kernel
theorem dX8_more_123 : decode cX8_more 123 = .ok (.aload_n 0, 1) := by decide +kernel
theorem dX8_more_124 : decode cX8_more 124 = .ok (.getfield 37, 3) := by decide +kernel
theorem dX8_more_127 : decode cX8_more 127 = .ok (.lload 13, 2) := by decide +kernel
theorem dX8_more_129 : decode cX8_more 129 = .ok (.invokevirtual 161, 3) := by decide +kernel
theorem dX8_more_132 : decode cX8_more 132 = .ok (.pop2, 1) := by decide +kernel
theorem dX8_more_133 : decode cX8_more 133 = .ok (.aload_n 0, 1) := by decide +kernel
theorem dX8_more_134 : decode cX8_more 134 = .ok (.aload_n 0, 1) := by decide +kernel
theorem dX8_more_135 : decode cX8_more 135 = .ok (.getfield 40, 3) := by decide +kernel
theorem dX8_more_138 : decode cX8_more 138 = .ok (.lload 9, 2) := by decide +kernel
theorem dX8_more_140 : decode cX8_more 140 = .ok (.lload 13, 2) := by decide +kernel
theorem dX8_more_142 : decode cX8_more 142 = .ok (.ldiv, 1) := by decide +kernel
theorem dX8_more_143 : decode cX8_more 143 = .ok (.invokevirtual 175, 3) := by decide +kernel
theorem dX8_more_146 : decode cX8_more 146 = .ok (.aload_n 0, 1) := by decide +kernel
theorem dX8_more_147 : decode cX8_more 147 = .ok (.aload_n 0, 1) := by decide +kernel
theorem dX8_more_148 : decode cX8_more 148 = .ok (.getfield 37, 3) := by decide +kernel
theorem dX8_more_151 : decode cX8_more 151 = .ok (.invokevirtual 181, 3) := by decide +kernel
theorem dX8_more_154 : decode cX8_more 154 = .ok (.ifCond .eq 11, 3) := by decide +kernel
theorem dX8_more_157 : decode cX8_more 157 = .ok (.aload_n 0, 1) := by decide +kernel
theorem dX8_more_158 : decode cX8_more 158 = .ok (.getfield 40, 3) := by decide +kernel
theorem dX8_more_161 : decode cX8_more 161 = .ok (.lconst 1, 1) := by decide +kernel
theorem dX8_more_162 : decode cX8_more 162 = .ok (.invokestatic 165, 3) := by decide +kernel
theorem dX8_more_165 : decode cX8_more 165 = .ok (.return_, 1) := by decide +kernel
theorem dX8_half_0 : decode cX8_half 0 = .ok (.iconst 0, 1) := by decide +kernel
theorem dX8_half_1 : decode cX8_half 1 = .ok (.istore_n 2, 1) := by decide +kernel
theorem dX8_half_2 : decode cX8_half 2 = .ok (.iload_n 2, 1) := by decide +kernel
theorem dX8_half_3 : decode cX8_half 3 = .ok (.aload_n 0, 1) := by decide +kernel
theorem dX8_half_4 : decode cX8_half 4 = .ok (.getfield 33, 3) := by decide +kernel
theorem dX8_half_7 : decode cX8_half 7 = .ok (.if_icmp .ge 42, 3) := by decide +kernel
theorem dX8_half_10 : decode cX8_half 10 = .ok (.aload_n 1, 1) := by decide +kernel
theorem dX8_half_11 : decode cX8_half 11 = .ok (.iload_n 2, 1) := by decide +kernel
theorem dX8_half_12 : decode cX8_half 12 = .ok (.aload_n 1, 1) := by decide +kernel
theorem dX8_half_13 : decode cX8_half 13 = .ok (.iload_n 2, 1) := by decide +kernel
theorem dX8_half_14 : decode cX8_half 14 = .ok (.laload, 1) := by decide +kernel
theorem dX8_half_15 : decode cX8_half 15 = .ok (.iconst 1, 1) := by decide +kernel
theorem dX8_half_16 : decode cX8_half 16 = .ok (.lushr, 1) := by decide +kernel
theorem dX8_half_17 : decode cX8_half 17 = .ok (.iload_n 2, 1) := by decide +kernel
theorem dX8_half_18 : decode cX8_half 18 = .ok (.iconst 1, 1) := by decide +kernel
theorem dX8_half_19 : decode cX8_half 19 = .ok (.iadd, 1) := by decide +kernel
theorem dX8_half_20 : decode cX8_half 20 = .ok (.aload_n 0, 1) := by decide +kernel
theorem dX8_half_21 : decode cX8_half 21 = .ok (.getfield 33, 3) := by decide +kernel
theorem dX8_half_24 : decode cX8_half 24 = .ok (.if_icmp .ge 16, 3) := by decide +kernel
theorem dX8_half_27 : decode cX8_half 27 = .ok (.aload_n 1, 1) := by decide +kernel
theorem dX8_half_28 : decode cX8_half 28 = .ok (.iload_n 2, 1) := by decide +kernel
theorem dX8_half_29 : decode cX8_half 29 = .ok (.iconst 1, 1) := by decide +kernel
theorem dX8_half_30 : decode cX8_half 30 = .ok (.iadd, 1) := by decide +kernel
theorem dX8_half_31 : decode cX8_half 31 = .ok (.laload, 1) := by decide +kernel
theorem dX8_half_32 : decode cX8_half 32 = .ok (.lconst 1, 1) := by decide +kernel
theorem dX8_half_33 : decode cX8_half 33 = .ok (.land, 1) := by decide +kernel
theorem dX8_half_34 : decode cX8_half 34 = .ok (.bipush 31, 2) := by decide +kernel
theorem dX8_half_36 : decode cX8_half 36 = .ok (.lshl, 1) := by decide +kernel
theorem dX8_half_37 : decode cX8_half 37 = .ok (.goto 4, 3) := by decide +kernel
theorem dX8_half_40 : decode cX8_half 40 = .ok (.lconst 0, 1) := by decide +kernel
theorem dX8_half_41 : decode cX8_half 41 = .ok (.lor, 1) := by decide +kernel
theorem dX8_half_42 : decode cX8_half 42 = .ok (.lastore, 1) := by decide +kernel
theorem dX8_half_43 : decode cX8_half 43 = .ok (.iinc 2 1, 3) := by decide +kernel
theorem dX8_half_46 : decode cX8_half 46 = .ok (.goto (-44), 3) := by decide +kernel
theorem dX8_half_49 : decode cX8_half 49 = .ok (.return_, 1) := by decide +kernel
theorem dX8_lowest_0 : decode cX8_lowest 0 = .ok (.aload_n 0, 1) := by decide +kernel
theorem dX8_lowest_1 : decode cX8_lowest 1 = .ok (.aload_n 0, 1) := by decide +kernel
theorem dX8_lowest_2 : decode cX8_lowest 2 = .ok (.getfield 37, 3) := by decide +kernel
theorem dX8_lowest_5 : decode cX8_lowest 5 = .ok (.invokevirtual 181, 3) := by decide +kernel
theorem dX8_lowest_8 : decode cX8_lowest 8 = .ok (.ifCond .eq 12, 3) := by decide +kernel
theorem dX8_lowest_11 : decode cX8_lowest 11 = .ok (.aload_n 0, 1) := by decide +kernel
theorem dX8_lowest_12 : decode cX8_lowest 12 = .ok (.getfield 40, 3) := by decide +kernel
theorem dX8_lowest_15 : decode cX8_lowest 15 = .ok (.lconst 1, 1) := by decide +kernel
theorem dX8_lowest_16 : decode cX8_lowest 16 = .ok (.invokestatic 165, 3) := by decide +kernel
theorem dX8_lowest_19 : decode cX8_lowest 19 = .ok (.return_, 1) := by decide +kernel
theorem dX8_lowest_20 : decode cX8_lowest 20 = .ok (.aload_n 0, 1) := by decide +kernel
theorem dX8_lowest_21 : decode cX8_lowest 21 = .ok (.aload_n 0, 1) := by decide +kernel
theorem dX8_lowest_22 : decode cX8_lowest 22 = .ok (.getfield 43, 3) := by decide +kernel
theorem dX8_lowest_25 : decode cX8_lowest 25 = .ok (.aload_n 0, 1) := by decide +kernel
theorem dX8_lowest_26 : decode cX8_lowest 26 = .ok (.getfield 37, 3) := by decide +kernel
theorem dX8_lowest_29 : decode cX8_lowest 29 = .ok (.invokevirtual 157, 3) := by decide +kernel
theorem dX8_lowest_32 : decode cX8_lowest 32 = .ok (.aload_n 0, 1) := by decide +kernel
theorem dX8_lowest_33 : decode cX8_lowest 33 = .ok (.aload_n 0, 1) := by decide +kernel
theorem dX8_lowest_34 : decode cX8_lowest 34 = .ok (.getfield 46, 3) := by decide +kernel
theorem dX8_lowest_37 : decode cX8_lowest 37 = .ok (.aload_n 0, 1) := by decide +kernel
theorem dX8_lowest_38 : decode cX8_lowest 38 = .ok (.getfield 40, 3) := by decide +kernel
theorem dX8_lowest_41 : decode cX8_lowest 41 = .ok (.invokevirtual 157, 3) := by decide +kernel
theorem dX8_lowest_44 : decode cX8_lowest 44 = .ok (.iconst 0, 1) := by decide +kernel
theorem dX8_lowest_45 : decode cX8_lowest 45 = .ok (.istore_n 1, 1) := by decide +kernel
theorem dX8_lowest_46 : decode cX8_lowest 46 = .ok (.aload_n 0, 1) := by decide +kernel
theorem dX8_lowest_47 : decode cX8_lowest 47 = .ok (.getfield 43, 3) := by decide +kernel
theorem dX8_lowest_50 : decode cX8_lowest 50 = .ok (.iconst 0, 1) := by decide +kernel
theorem dX8_lowest_51 : decode cX8_lowest 51 = .ok (.laload, 1) := by decide +kernel
theorem dX8_lowest_52 : decode cX8_lowest 52 = .ok (.lconst 1, 1) := by decide +kernel
theorem dX8_lowest_53 : decode cX8_lowest 53 = .ok (.land, 1) := by decide +kernel
theorem dX8_lowest_54 : decode cX8_lowest 54 = .ok (.lconst 0, 1) := by decide +kernel
theorem dX8_lowest_55 : decode cX8_lowest 55 = .ok (.lcmp, 1) := by decide +kernel
theorem dX8_lowest_56 : decode cX8_lowest 56 = .ok (.ifCond .ne 38, 3) := by decide +kernel
theorem dX8_lowest_59 : decode cX8_lowest 59 = .ok (.aload_n 0, 1) := by decide +kernel
theorem dX8_lowest_60 : decode cX8_lowest 60 = .ok (.getfield 46, 3) := by decide +kernel
theorem dX8_lowest_63 : decode cX8_lowest 63 = .ok (.iconst 0, 1) := by decide +kernel
theorem dX8_lowest_64 : decode cX8_lowest 64 = .ok (.laload, 1) := by decide +kernel
theorem dX8_lowest_65 : decode cX8_lowest 65 = .ok (.lconst 1, 1) := by decide +kernel
theorem dX8_lowest_66 : decode cX8_lowest 66 = .ok (.land, 1) := by decide +kernel
theorem dX8_lowest_67 : decode cX8_lowest 67 = .ok (.lconst 0, 1) := by decide +kernel
theorem dX8_lowest_68 : decode cX8_lowest 68 = .ok (.lcmp, 1) := by decide +kernel
theorem dX8_lowest_69 : decode cX8_lowest 69 = .ok (.ifCond .ne 25, 3) := by decide +kernel
theorem dX8_lowest_72 : decode cX8_lowest 72 = .ok (.aload_n 0, 1) := by decide +kernel
theorem dX8_lowest_73 : decode cX8_lowest 73 = .ok (.aload_n 0, 1) := by decide +kernel
theorem dX8_lowest_74 : decode cX8_lowest 74 = .ok (.getfield 43, 3) := by decide +kernel
theorem dX8_lowest_77 : decode cX8_lowest 77 = .ok (.invokevirtual 185, 3) := by decide +kernel
theorem dX8_lowest_80 : decode cX8_lowest 80 = .ok (.aload_n 0, 1) := by decide +kernel
theorem dX8_lowest_81 : decode cX8_lowest 81 = .ok (.aload_n 0, 1) := by decide +kernel
theorem dX8_lowest_82 : decode cX8_lowest 82 = .ok (.getfield 46, 3) := by decide +kernel
theorem dX8_lowest_85 : decode cX8_lowest 85 = .ok (.invokevirtual 185, 3) := by decide +kernel
theorem dX8_lowest_88 : decode cX8_lowest 88 = .ok (.iinc 1 1, 3) := by decide +kernel
theorem dX8_lowest_91 : decode cX8_lowest 91 = .ok (.goto (-45), 3) := by decide +kernel
theorem dX8_lowest_94 : decode cX8_lowest 94 = .ok (.aload_n 0, 1) := by decide +kernel
theorem dX8_lowest_95 : decode cX8_lowest 95 = .ok (.aload_n 0, 1) := by decide +kernel
theorem dX8_lowest_96 : decode cX8_lowest 96 = .ok (.getfield 43, 3) := by decide +kernel
theorem dX8_lowest_99 : decode cX8_lowest 99 = .ok (.invokevirtual 181, 3) := by decide +kernel
theorem dX8_lowest_102 : decode cX8_lowest 102 = .ok (.ifCond .ne 96, 3) := by decide +kernel
theorem dX8_lowest_105 : decode cX8_lowest 105 = .ok (.aload_n 0, 1) := by decide +kernel
theorem dX8_lowest_106 : decode cX8_lowest 106 = .ok (.getfield 43, 3) := by decide +kernel
theorem dX8_lowest_109 : decode cX8_lowest 109 = .ok (.iconst 0, 1) := by decide +kernel
theorem dX8_lowest_110 : decode cX8_lowest 110 = .ok (.laload, 1) := by decide +kernel
theorem dX8_lowest_111 : decode cX8_lowest 111 = .ok (.lconst 1, 1) := by decide +kernel
theorem dX8_lowest_112 : decode cX8_lowest 112 = .ok (.land, 1) := by decide +kernel
theorem dX8_lowest_113 : decode cX8_lowest 113 = .ok (.lconst 0, 1) := by decide +kernel
theorem dX8_lowest_114 : decode cX8_lowest 114 = .ok (.lcmp, 1) := by decide +kernel
theorem dX8_lowest_115 : decode cX8_lowest 115 = .ok (.ifCond .ne 14, 3) := by decide +kernel
theorem dX8_lowest_118 : decode cX8_lowest 118 = .ok (.aload_n 0, 1) := by decide +kernel
theorem dX8_lowest_119 : decode cX8_lowest 119 = .ok (.aload_n 0, 1) := by decide +kernel
theorem dX8_lowest_120 : decode cX8_lowest 120 = .ok (.getfield 43, 3) := by decide +kernel
theorem dX8_lowest_123 : decode cX8_lowest 123 = .ok (.invokevirtual 185, 3) := by decide +kernel
theorem dX8_lowest_126 : decode cX8_lowest 126 = .ok (.goto (-21), 3) := by decide +kernel
theorem dX8_lowest_129 : decode cX8_lowest 129 = .ok (.aload_n 0, 1) := by decide +kernel
theorem dX8_lowest_130 : decode cX8_lowest 130 = .ok (.getfield 46, 3) := by decide +kernel
theorem dX8_lowest_133 : decode cX8_lowest 133 = .ok (.iconst 0, 1) := by decide +kernel
theorem dX8_lowest_134 : decode cX8_lowest 134 = .ok (.laload, 1) := by decide +kernel
theorem dX8_lowest_135 : decode cX8_lowest 135 = .ok (.lconst 1, 1) := by decide +kernel
theorem dX8_lowest_136 : decode cX8_lowest 136 = .ok (.land, 1) := by decide +kernel
theorem dX8_lowest_137 : decode cX8_lowest 137 = .ok (.lconst 0, 1) := by decide +kernel
theorem dX8_lowest_138 : decode cX8_lowest 138 = .ok (.lcmp, 1) := by decide +kernel
theorem dX8_lowest_139 : decode cX8_lowest 139 = .ok (.ifCond .ne 14, 3) := by decide +kernel
theorem dX8_lowest_142 : decode cX8_lowest 142 = .ok (.aload_n 0, 1) := by decide +kernel
theorem dX8_lowest_143 : decode cX8_lowest 143 = .ok (.aload_n 0, 1) := by decide +kernel
theorem dX8_lowest_144 : decode cX8_lowest 144 = .ok (.getfield 46, 3) := by decide +kernel
theorem dX8_lowest_147 : decode cX8_lowest 147 = .ok (.invokevirtual 185, 3) := by decide +kernel
theorem dX8_lowest_150 : decode cX8_lowest 150 = .ok (.goto (-21), 3) := by decide +kernel
theorem dX8_lowest_153 : decode cX8_lowest 153 = .ok (.aload_n 0, 1) := by decide +kernel
theorem dX8_lowest_154 : decode cX8_lowest 154 = .ok (.aload_n 0, 1) := by decide +kernel
theorem dX8_lowest_155 : decode cX8_lowest 155 = .ok (.getfield 43, 3) := by decide +kernel
theorem dX8_lowest_158 : decode cX8_lowest 158 = .ok (.aload_n 0, 1) := by decide +kernel
theorem dX8_lowest_159 : decode cX8_lowest 159 = .ok (.getfield 46, 3) := by decide +kernel
theorem dX8_lowest_162 : decode cX8_lowest 162 = .ok (.invokevirtual 189, 3) := by decide +kernel
theorem dX8_lowest_165 : decode cX8_lowest 165 = .ok (.ifCond .lt 18, 3) := by decide +kernel
theorem dX8_lowest_168 : decode cX8_lowest 168 = .ok (.aload_n 0, 1) := by decide +kernel
theorem dX8_lowest_169 : decode cX8_lowest 169 = .ok (.aload_n 0, 1) := by decide +kernel
theorem dX8_lowest_170 : decode cX8_lowest 170 = .ok (.getfield 43, 3) := by decide +kernel
theorem dX8_lowest_173 : decode cX8_lowest 173 = .ok (.aload_n 0, 1) := by decide +kernel
theorem dX8_lowest_174 : decode cX8_lowest 174 = .ok (.getfield 46, 3) := by decide +kernel
theorem dX8_lowest_177 : decode cX8_lowest 177 = .ok (.invokevirtual 193, 3) := by decide +kernel
theorem dX8_lowest_180 : decode cX8_lowest 180 = .ok (.goto (-86), 3) := by decide +kernel
theorem dX8_lowest_183 : decode cX8_lowest 183 = .ok (.aload_n 0, 1) := by decide +kernel
theorem dX8_lowest_184 : decode cX8_lowest 184 = .ok (.aload_n 0, 1) := by decide +kernel
theorem dX8_lowest_185 : decode cX8_lowest 185 = .ok (.getfield 46, 3) := by decide +kernel
theorem dX8_lowest_188 : decode cX8_lowest 188 = .ok (.aload_n 0, 1) := by decide +kernel
theorem dX8_lowest_189 : decode cX8_lowest 189 = .ok (.getfield 43, 3) := by decide +kernel
theorem dX8_lowest_192 : decode cX8_lowest 192 = .ok (.invokevirtual 193, 3) := by decide +kernel
theorem dX8_lowest_195 : decode cX8_lowest 195 = .ok (.goto (-101), 3) := by decide +kernel
theorem dX8_lowest_198 : decode cX8_lowest 198 = .ok (.iconst 0, 1) := by decide +kernel
theorem dX8_lowest_199 : decode cX8_lowest 199 = .ok (.istore_n 2, 1) := by decide +kernel
theorem dX8_lowest_200 : decode cX8_lowest 200 = .ok (.iload_n 2, 1) := by decide +kernel
theorem dX8_lowest_201 : decode cX8_lowest 201 = .ok (.iload_n 1, 1) := by decide +kernel
theorem dX8_lowest_202 : decode cX8_lowest 202 = .ok (.if_icmp .ge 20, 3) := by decide +kernel
theorem dX8_lowest_205 : decode cX8_lowest 205 = .ok (.aload_n 0, 1) := by decide +kernel
theorem dX8_lowest_206 : decode cX8_lowest 206 = .ok (.aload_n 0, 1) := by decide +kernel
theorem dX8_lowest_207 : decode cX8_lowest 207 = .ok (.getfield 46, 3) := by decide +kernel
theorem dX8_lowest_210 : decode cX8_lowest 210 = .ok (.ldc2_w 196, 3) := by decide +kernel
theorem dX8_lowest_213 : decode cX8_lowest 213 = .ok (.invokevirtual 175, 3) := by decide +kernel
theorem dX8_lowest_216 : decode cX8_lowest 216 = .ok (.iinc 2 1, 3) := by decide +kernel
theorem dX8_lowest_219 : decode cX8_lowest 219 = .ok (.goto (-19), 3) := by decide +kernel
theorem dX8_lowest_222 : decode cX8_lowest 222 = .ok (.aload_n 0, 1) := by decide +kernel
theorem dX8_lowest_223 : decode cX8_lowest 223 = .ok (.aload_n 0, 1) := by decide +kernel
theorem dX8_lowest_224 : decode cX8_lowest 224 = .ok (.getfield 37, 3) := by decide +kernel
theorem dX8_lowest_227 : decode cX8_lowest 227 = .ok (.invokevirtual 198, 3) := by decide +kernel
theorem dX8_lowest_230 : decode cX8_lowest 230 = .ok (.aload_n 0, 1) := by decide +kernel
theorem dX8_lowest_231 : decode cX8_lowest 231 = .ok (.aload_n 0, 1) := by decide +kernel
theorem dX8_lowest_232 : decode cX8_lowest 232 = .ok (.getfield 40, 3) := by decide +kernel
theorem dX8_lowest_235 : decode cX8_lowest 235 = .ok (.invokevirtual 198, 3) := by decide +kernel
theorem dX8_lowest_238 : decode cX8_lowest 238 = .ok (.return_, 1) := by decide +kernel
theorem dX8_divide_0 : decode cX8_divide 0 = .ok (.aload_n 0, 1) := by decide +kernel
theorem dX8_divide_1 : decode cX8_divide 1 = .ok (.getfield 43, 3) := by decide +kernel
theorem dX8_divide_4 : decode cX8_divide 4 = .ok (.lconst 0, 1) := by decide +kernel
theorem dX8_divide_5 : decode cX8_divide 5 = .ok (.invokestatic 165, 3) := by decide +kernel
theorem dX8_divide_8 : decode cX8_divide 8 = .ok (.aload_n 0, 1) := by decide +kernel
theorem dX8_divide_9 : decode cX8_divide 9 = .ok (.getfield 49, 3) := by decide +kernel
theorem dX8_divide_12 : decode cX8_divide 12 = .ok (.lconst 0, 1) := by decide +kernel
theorem dX8_divide_13 : decode cX8_divide 13 = .ok (.invokestatic 165, 3) := by decide +kernel
theorem dX8_divide_16 : decode cX8_divide 16 = .ok (.bipush 32, 2) := by decide +kernel
theorem dX8_divide_18 : decode cX8_divide 18 = .ok (.aload_n 0, 1) := by decide +kernel
theorem dX8_divide_19 : decode cX8_divide 19 = .ok (.getfield 33, 3) := by decide +kernel
theorem dX8_divide_22 : decode cX8_divide 22 = .ok (.imul, 1) := by decide +kernel
theorem dX8_divide_23 : decode cX8_divide 23 = .ok (.iconst 1, 1) := by decide +kernel
theorem dX8_divide_24 : decode cX8_divide 24 = .ok (.isub, 1) := by decide +kernel
theorem dX8_divide_25 : decode cX8_divide 25 = .ok (.istore_n 2, 1) := by decide +kernel
theorem dX8_divide_26 : decode cX8_divide 26 = .ok (.iload_n 2, 1) := by decide +kernel
theorem dX8_divide_27 : decode cX8_divide 27 = .ok (.ifCond .lt 88, 3) := by decide +kernel
theorem dX8_divide_30 : decode cX8_divide 30 = .ok (.aload_n 0, 1) := by decide +kernel
theorem dX8_divide_31 : decode cX8_divide 31 = .ok (.aload_n 0, 1) := by decide +kernel
theorem dX8_divide_32 : decode cX8_divide 32 = .ok (.getfield 43, 3) := by decide +kernel
theorem dX8_divide_35 : decode cX8_divide 35 = .ok (.ldc2_w 196, 3) := by decide +kernel
theorem dX8_divide_38 : decode cX8_divide 38 = .ok (.invokevirtual 175, 3) := by decide +kernel
theorem dX8_divide_41 : decode cX8_divide 41 = .ok (.aload_n 0, 1) := by decide +kernel
theorem dX8_divide_42 : decode cX8_divide 42 = .ok (.getfield 43, 3) := by decide +kernel
theorem dX8_divide_45 : decode cX8_divide 45 = .ok (.iconst 0, 1) := by decide +kernel
theorem dX8_divide_46 : decode cX8_divide 46 = .ok (.dup2, 1) := by decide +kernel
theorem dX8_divide_47 : decode cX8_divide 47 = .ok (.laload, 1) := by decide +kernel
theorem dX8_divide_48 : decode cX8_divide 48 = .ok (.aload_n 1, 1) := by decide +kernel
theorem dX8_divide_49 : decode cX8_divide 49 = .ok (.iload_n 2, 1) := by decide +kernel
theorem dX8_divide_50 : decode cX8_divide 50 = .ok (.iconst 5, 1) := by decide +kernel
theorem dX8_divide_51 : decode cX8_divide 51 = .ok (.ishr, 1) := by decide +kernel
theorem dX8_divide_52 : decode cX8_divide 52 = .ok (.laload, 1) := by decide +kernel
theorem dX8_divide_53 : decode cX8_divide 53 = .ok (.iload_n 2, 1) := by decide +kernel
theorem dX8_divide_54 : decode cX8_divide 54 = .ok (.bipush 31, 2) := by decide +kernel
theorem dX8_divide_56 : decode cX8_divide 56 = .ok (.iand, 1) := by decide +kernel
theorem dX8_divide_57 : decode cX8_divide 57 = .ok (.lushr, 1) := by decide +kernel
theorem dX8_divide_58 : decode cX8_divide 58 = .ok (.lconst 1, 1) := by decide +kernel
theorem dX8_divide_59 : decode cX8_divide 59 = .ok (.land, 1) := by decide +kernel
theorem dX8_divide_60 : decode cX8_divide 60 = .ok (.lor, 1) := by decide +kernel
theorem dX8_divide_61 : decode cX8_divide 61 = .ok (.lastore, 1) := by decide +kernel
theorem dX8_divide_62 : decode cX8_divide 62 = .ok (.aload_n 0, 1) := by decide +kernel
theorem dX8_divide_63 : decode cX8_divide 63 = .ok (.aload_n 0, 1) := by decide +kernel
theorem dX8_divide_64 : decode cX8_divide 64 = .ok (.getfield 43, 3) := by decide +kernel
theorem dX8_divide_67 : decode cX8_divide 67 = .ok (.aload_n 0, 1) := by decide +kernel
theorem dX8_divide_68 : decode cX8_divide 68 = .ok (.getfield 46, 3) := by decide +kernel
theorem dX8_divide_71 : decode cX8_divide 71 = .ok (.invokevirtual 189, 3) := by decide +kernel
theorem dX8_divide_74 : decode cX8_divide 74 = .ok (.ifCond .ge 6, 3) := by decide +kernel
theorem dX8_divide_77 : decode cX8_divide 77 = .ok (.goto 32, 3) := by decide +kernel
theorem dX8_divide_80 : decode cX8_divide 80 = .ok (.aload_n 0, 1) := by decide +kernel
theorem dX8_divide_81 : decode cX8_divide 81 = .ok (.aload_n 0, 1) := by decide +kernel
theorem dX8_divide_82 : decode cX8_divide 82 = .ok (.getfield 43, 3) := by decide +kernel
theorem dX8_divide_85 : decode cX8_divide 85 = .ok (.aload_n 0, 1) := by decide +kernel
theorem dX8_divide_86 : decode cX8_divide 86 = .ok (.getfield 46, 3) := by decide +kernel
theorem dX8_divide_89 : decode cX8_divide 89 = .ok (.invokevirtual 193, 3) := by decide +kernel
theorem dX8_divide_92 : decode cX8_divide 92 = .ok (.aload_n 0, 1) := by decide +kernel
theorem dX8_divide_93 : decode cX8_divide 93 = .ok (.getfield 49, 3) := by decide +kernel
theorem dX8_divide_96 : decode cX8_divide 96 = .ok (.iload_n 2, 1) := by decide +kernel
theorem dX8_divide_97 : decode cX8_divide 97 = .ok (.iconst 5, 1) := by decide +kernel
theorem dX8_divide_98 : decode cX8_divide 98 = .ok (.ishr, 1) := by decide +kernel
theorem dX8_divide_99 : decode cX8_divide 99 = .ok (.dup2, 1) := by decide +kernel
theorem dX8_divide_100 : decode cX8_divide 100 = .ok (.laload, 1) := by decide +kernel
theorem dX8_divide_101 : decode cX8_divide 101 = .ok (.lconst 1, 1) := by decide +kernel
theorem dX8_divide_102 : decode cX8_divide 102 = .ok (.iload_n 2, 1) := by decide +kernel
theorem dX8_divide_103 : decode cX8_divide 103 = .ok (.bipush 31, 2) := by decide +kernel
theorem dX8_divide_105 : decode cX8_divide 105 = .ok (.iand, 1) := by decide +kernel
theorem dX8_divide_106 : decode cX8_divide 106 = .ok (.lshl, 1) := by decide +kernel
theorem dX8_divide_107 : decode cX8_divide 107 = .ok (.lor, 1) := by decide +kernel
theorem dX8_divide_108 : decode cX8_divide 108 = .ok (.lastore, 1) := by decide +kernel
theorem dX8_divide_109 : decode cX8_divide 109 = .ok (.iinc 2 (-1), 3) := by decide +kernel
theorem dX8_divide_112 : decode cX8_divide 112 = .ok (.goto (-86), 3) := by decide +kernel
theorem dX8_divide_115 : decode cX8_divide 115 = .ok (.aload_n 0, 1) := by decide +kernel
theorem dX8_divide_116 : decode cX8_divide 116 = .ok (.aload_n 1, 1) := by decide +kernel
theorem dX8_divide_117 : decode cX8_divide 117 = .ok (.aload_n 0, 1) := by decide +kernel
theorem dX8_divide_118 : decode cX8_divide 118 = .ok (.getfield 49, 3) := by decide +kernel
theorem dX8_divide_121 : decode cX8_divide 121 = .ok (.invokevirtual 157, 3) := by decide +kernel
theorem dX8_divide_124 : decode cX8_divide 124 = .ok (.return_, 1) := by decide +kernel
theorem dX8_told_0 : decode cX8_told 0 = .ok (.iload_n 2, 1) := by decide +kernel
theorem dX8_told_1 : decode cX8_told 1 = .ok (.bipush 64, 2) := by decide +kernel
theorem dX8_told_3 : decode cX8_told 3 = .ok (.if_icmp .lt 7, 3) := by decide +kernel
theorem dX8_told_6 : decode cX8_told 6 = .ok (.lconst 0, 1) := by decide +kernel
theorem dX8_told_7 : decode cX8_told 7 = .ok (.goto 22, 3) := by decide +kernel
theorem dX8_told_10 : decode cX8_told 10 = .ok (.iload_n 1, 1) := by decide +kernel
theorem dX8_told_11 : decode cX8_told 11 = .ok (.ifCond .ne 12, 3) := by decide +kernel
theorem dX8_told_14 : decode cX8_told 14 = .ok (.aload_n 0, 1) := by decide +kernel
theorem dX8_told_15 : decode cX8_told 15 = .ok (.getfield 37, 3) := by decide +kernel
theorem dX8_told_18 : decode cX8_told 18 = .ok (.iload_n 2, 1) := by decide +kernel
theorem dX8_told_19 : decode cX8_told 19 = .ok (.laload, 1) := by decide +kernel
theorem dX8_told_20 : decode cX8_told 20 = .ok (.goto 9, 3) := by decide +kernel
theorem dX8_told_23 : decode cX8_told 23 = .ok (.aload_n 0, 1) := by decide +kernel
theorem dX8_told_24 : decode cX8_told 24 = .ok (.getfield 40, 3) := by decide +kernel
theorem dX8_told_27 : decode cX8_told 27 = .ok (.iload_n 2, 1) := by decide +kernel
theorem dX8_told_28 : decode cX8_told 28 = .ok (.laload, 1) := by decide +kernel
theorem dX8_told_29 : decode cX8_told 29 = .ok (.lreturn, 1) := by decide +kernel
theorem dX8_isAsked_0 : decode cX8_isAsked 0 = .ok (.iload_n 0, 1) := by decide +kernel
theorem dX8_isAsked_1 : decode cX8_isAsked 1 = .ok (.ifCond .eq 8, 3) := by decide +kernel
theorem dX8_isAsked_4 : decode cX8_isAsked 4 = .ok (.iload_n 0, 1) := by decide +kernel
theorem dX8_isAsked_5 : decode cX8_isAsked 5 = .ok (.iconst 1, 1) := by decide +kernel
theorem dX8_isAsked_6 : decode cX8_isAsked 6 = .ok (.if_icmp .ne 11, 3) := by decide +kernel
theorem dX8_isAsked_9 : decode cX8_isAsked 9 = .ok (.iload_n 1, 1) := by decide +kernel
theorem dX8_isAsked_10 : decode cX8_isAsked 10 = .ok (.ifCond .lt 7, 3) := by decide +kernel
theorem dX8_isAsked_13 : decode cX8_isAsked 13 = .ok (.iconst 1, 1) := by decide +kernel
theorem dX8_isAsked_14 : decode cX8_isAsked 14 = .ok (.goto 4, 3) := by decide +kernel
theorem dX8_isAsked_17 : decode cX8_isAsked 17 = .ok (.iconst 0, 1) := by decide +kernel
theorem dX8_isAsked_18 : decode cX8_isAsked 18 = .ok (.ireturn, 1) := by decide +kernel
theorem dX8_isOther_0 : decode cX8_isOther 0 = .ok (.iconst 1, 1) := by decide +kernel
theorem dX8_isOther_1 : decode cX8_isOther 1 = .ok (.iload_n 1, 1) := by decide +kernel
theorem dX8_isOther_2 : decode cX8_isOther 2 = .ok (.sipush 10000, 3) := by decide +kernel
theorem dX8_isOther_5 : decode cX8_isOther 5 = .ok (.imul, 1) := by decide +kernel
theorem dX8_isOther_6 : decode cX8_isOther 6 = .ok (.iadd, 1) := by decide +kernel
theorem dX8_isOther_7 : decode cX8_isOther 7 = .ok (.bipush 100, 2) := by decide +kernel
theorem dX8_isOther_9 : decode cX8_isOther 9 = .ok (.iload_n 2, 1) := by decide +kernel
theorem dX8_isOther_10 : decode cX8_isOther 10 = .ok (.imul, 1) := by decide +kernel
theorem dX8_isOther_11 : decode cX8_isOther 11 = .ok (.iadd, 1) := by decide +kernel
theorem dX8_isOther_12 : decode cX8_isOther 12 = .ok (.iload_n 3, 1) := by decide +kernel
theorem dX8_isOther_13 : decode cX8_isOther 13 = .ok (.iadd, 1) := by decide +kernel
theorem dX8_isOther_14 : decode cX8_isOther 14 = .ok (.istore 4, 2) := by decide +kernel
theorem dX8_isOther_16 : decode cX8_isOther 16 = .ok (.iload 4, 2) := by decide +kernel
theorem dX8_isOther_18 : decode cX8_isOther 18 = .ok (.aload_n 0, 1) := by decide +kernel
theorem dX8_isOther_19 : decode cX8_isOther 19 = .ok (.getfield 116, 3) := by decide +kernel
theorem dX8_isOther_22 : decode cX8_isOther 22 = .ok (.if_icmp .eq 7, 3) := by decide +kernel
theorem dX8_isOther_25 : decode cX8_isOther 25 = .ok (.iconst 1, 1) := by decide +kernel
theorem dX8_isOther_26 : decode cX8_isOther 26 = .ok (.goto 4, 3) := by decide +kernel
theorem dX8_isOther_29 : decode cX8_isOther 29 = .ok (.iconst 0, 1) := by decide +kernel
theorem dX8_isOther_30 : decode cX8_isOther 30 = .ok (.istore 5, 2) := by decide +kernel
theorem dX8_isOther_32 : decode cX8_isOther 32 = .ok (.aload_n 0, 1) := by decide +kernel
theorem dX8_isOther_33 : decode cX8_isOther 33 = .ok (.iload 4, 2) := by decide +kernel
theorem dX8_isOther_35 : decode cX8_isOther 35 = .ok (.putfield 116, 3) := by decide +kernel
theorem dX8_isOther_38 : decode cX8_isOther 38 = .ok (.iload 5, 2) := by decide +kernel
theorem dX8_isOther_40 : decode cX8_isOther 40 = .ok (.ireturn, 1) := by decide +kernel
theorem dX8_addBetween_0 : decode cX8_addBetween 0 = .ok (.aload_n 0, 1) := by decide +kernel
theorem dX8_addBetween_1 : decode cX8_addBetween 1 = .ok (.invokevirtual 201, 3) := by decide +kernel
theorem dX8_addBetween_4 : decode cX8_addBetween 4 = .ok (.iconst 0, 1) := by decide +kernel
theorem dX8_addBetween_5 : decode cX8_addBetween 5 = .ok (.istore_n 2, 1) := by decide +kernel
theorem dX8_addBetween_6 : decode cX8_addBetween 6 = .ok (.iload_n 2, 1) := by decide +kernel
theorem dX8_addBetween_7 : decode cX8_addBetween 7 = .ok (.aload_n 0, 1) := by decide +kernel
theorem dX8_addBetween_8 : decode cX8_addBetween 8 = .ok (.getfield 110, 3) := by decide +kernel
theorem dX8_addBetween_11 : decode cX8_addBetween 11 = .ok (.if_icmp .ge 80, 3) := by decide +kernel
theorem dX8_addBetween_14 : decode cX8_addBetween 14 = .ok (.iconst 0, 1) := by decide +kernel
theorem dX8_addBetween_15 : decode cX8_addBetween 15 = .ok (.istore_n 3, 1) := by decide +kernel
theorem dX8_addBetween_16 : decode cX8_addBetween 16 = .ok (.iload_n 3, 1) := by decide +kernel
theorem dX8_addBetween_17 : decode cX8_addBetween 17 = .ok (.aload_n 0, 1) := by decide +kernel
theorem dX8_addBetween_18 : decode cX8_addBetween 18 = .ok (.getfield 110, 3) := by decide +kernel
theorem dX8_addBetween_21 : decode cX8_addBetween 21 = .ok (.if_icmp .ge 64, 3) := by decide +kernel
theorem dX8_addBetween_24 : decode cX8_addBetween 24 = .ok (.aload_n 0, 1) := by decide +kernel
theorem dX8_addBetween_25 : decode cX8_addBetween 25 = .ok (.iload_n 2, 1) := by decide +kernel
theorem dX8_addBetween_26 : decode cX8_addBetween 26 = .ok (.iload_n 3, 1) := by decide +kernel
theorem dX8_addBetween_27 : decode cX8_addBetween 27 = .ok (.invokevirtual 148, 3) := by decide +kernel
theorem dX8_addBetween_30 : decode cX8_addBetween 30 = .ok (.ifCond .eq 49, 3) := by decide +kernel
theorem dX8_addBetween_33 : decode cX8_addBetween 33 = .ok (.iload_n 2, 1) := by decide +kernel
theorem dX8_addBetween_34 : decode cX8_addBetween 34 = .ok (.iload_n 1, 1) := by decide +kernel
theorem dX8_addBetween_35 : decode cX8_addBetween 35 = .ok (.if_icmp .eq 44, 3) := by decide +kernel
theorem dX8_addBetween_38 : decode cX8_addBetween 38 = .ok (.iload_n 3, 1) := by decide +kernel
theorem dX8_addBetween_39 : decode cX8_addBetween 39 = .ok (.iload_n 1, 1) := by decide +kernel
theorem dX8_addBetween_40 : decode cX8_addBetween 40 = .ok (.if_icmp .ne 6, 3) := by decide +kernel
theorem dX8_addBetween_43 : decode cX8_addBetween 43 = .ok (.goto 36, 3) := by decide +kernel
theorem dX8_addBetween_46 : decode cX8_addBetween 46 = .ok (.aload_n 0, 1) := by decide +kernel
theorem dX8_addBetween_47 : decode cX8_addBetween 47 = .ok (.iload_n 2, 1) := by decide +kernel
theorem dX8_addBetween_48 : decode cX8_addBetween 48 = .ok (.iload_n 3, 1) := by decide +kernel
theorem dX8_addBetween_49 : decode cX8_addBetween 49 = .ok (.iload_n 1, 1) := by decide +kernel
theorem dX8_addBetween_50 : decode cX8_addBetween 50 = .ok (.invokevirtual 151, 3) := by decide +kernel
theorem dX8_addBetween_53 : decode cX8_addBetween 53 = .ok (.lstore 4, 2) := by decide +kernel
theorem dX8_addBetween_55 : decode cX8_addBetween 55 = .ok (.lload 4, 2) := by decide +kernel
theorem dX8_addBetween_57 : decode cX8_addBetween 57 = .ok (.lconst 0, 1) := by decide +kernel
theorem dX8_addBetween_58 : decode cX8_addBetween 58 = .ok (.lcmp, 1) := by decide +kernel
theorem dX8_addBetween_59 : decode cX8_addBetween 59 = .ok (.ifCond .le 20, 3) := by decide +kernel
theorem dX8_addBetween_62 : decode cX8_addBetween 62 = .ok (.aload_n 0, 1) := by decide +kernel
theorem dX8_addBetween_63 : decode cX8_addBetween 63 = .ok (.lload 4, 2) := by decide +kernel
theorem dX8_addBetween_65 : decode cX8_addBetween 65 = .ok (.aload_n 0, 1) := by decide +kernel
theorem dX8_addBetween_66 : decode cX8_addBetween 66 = .ok (.getfield 26, 3) := by decide +kernel
theorem dX8_addBetween_69 : decode cX8_addBetween 69 = .ok (.aload_n 0, 1) := by decide +kernel
theorem dX8_addBetween_70 : decode cX8_addBetween 70 = .ok (.iload_n 2, 1) := by decide +kernel
theorem dX8_addBetween_71 : decode cX8_addBetween 71 = .ok (.iload_n 3, 1) := by decide +kernel
theorem dX8_addBetween_72 : decode cX8_addBetween 72 = .ok (.invokevirtual 130, 3) := by decide +kernel
theorem dX8_addBetween_75 : decode cX8_addBetween 75 = .ok (.laload, 1) := by decide +kernel
theorem dX8_addBetween_76 : decode cX8_addBetween 76 = .ok (.invokevirtual 204, 3) := by decide +kernel
theorem dX8_addBetween_79 : decode cX8_addBetween 79 = .ok (.iinc 3 1, 3) := by decide +kernel
theorem dX8_addBetween_82 : decode cX8_addBetween 82 = .ok (.goto (-66), 3) := by decide +kernel
theorem dX8_addBetween_85 : decode cX8_addBetween 85 = .ok (.iinc 2 1, 3) := by decide +kernel
theorem dX8_addBetween_88 : decode cX8_addBetween 88 = .ok (.goto (-82), 3) := by decide +kernel
theorem dX8_addBetween_91 : decode cX8_addBetween 91 = .ok (.return_, 1) := by decide +kernel
theorem dX8_between_0 : decode cX8_between 0 = .ok (.aload_n 0, 1) := by decide +kernel
theorem dX8_between_1 : decode cX8_between 1 = .ok (.iload_n 1, 1) := by decide +kernel
theorem dX8_between_2 : decode cX8_between 2 = .ok (.invokevirtual 119, 3) := by decide +kernel
theorem dX8_between_5 : decode cX8_between 5 = .ok (.ifCond .eq 11, 3) := by decide +kernel
theorem dX8_between_8 : decode cX8_between 8 = .ok (.iload_n 2, 1) := by decide +kernel
theorem dX8_between_9 : decode cX8_between 9 = .ok (.iload_n 3, 1) := by decide +kernel
theorem dX8_between_10 : decode cX8_between 10 = .ok (.invokestatic 208, 3) := by decide +kernel
theorem dX8_between_13 : decode cX8_between 13 = .ok (.ifCond .ne 7, 3) := by decide +kernel
theorem dX8_between_16 : decode cX8_between 16 = .ok (.ldc2_w 146, 3) := by decide +kernel
theorem dX8_between_19 : decode cX8_between 19 = .ok (.lreturn, 1) := by decide +kernel
theorem dX8_between_20 : decode cX8_between 20 = .ok (.aload_n 0, 1) := by decide +kernel
theorem dX8_between_21 : decode cX8_between 21 = .ok (.iconst 1, 1) := by decide +kernel
theorem dX8_between_22 : decode cX8_between 22 = .ok (.iload_n 1, 1) := by decide +kernel
theorem dX8_between_23 : decode cX8_between 23 = .ok (.iconst 0, 1) := by decide +kernel
theorem dX8_between_24 : decode cX8_between 24 = .ok (.invokevirtual 211, 3) := by decide +kernel
theorem dX8_between_27 : decode cX8_between 27 = .ok (.ifCond .eq 13, 3) := by decide +kernel
theorem dX8_between_30 : decode cX8_between 30 = .ok (.aload_n 0, 1) := by decide +kernel
theorem dX8_between_31 : decode cX8_between 31 = .ok (.iconst 0, 1) := by decide +kernel
theorem dX8_between_32 : decode cX8_between 32 = .ok (.invokevirtual 142, 3) := by decide +kernel
theorem dX8_between_35 : decode cX8_between 35 = .ok (.aload_n 0, 1) := by decide +kernel
theorem dX8_between_36 : decode cX8_between 36 = .ok (.iload_n 1, 1) := by decide +kernel
theorem dX8_between_37 : decode cX8_between 37 = .ok (.invokevirtual 215, 3) := by decide +kernel
theorem dX8_between_40 : decode cX8_between 40 = .ok (.aload_n 0, 1) := by decide +kernel
theorem dX8_between_41 : decode cX8_between 41 = .ok (.iload_n 2, 1) := by decide +kernel
theorem dX8_between_42 : decode cX8_between 42 = .ok (.iload_n 3, 1) := by decide +kernel
theorem dX8_between_43 : decode cX8_between 43 = .ok (.invokevirtual 219, 3) := by decide +kernel
theorem dX8_between_46 : decode cX8_between 46 = .ok (.lreturn, 1) := by decide +kernel
theorem dX8_arcBetween_0 : decode cX8_arcBetween 0 = .ok (.aload_n 0, 1) := by decide +kernel
theorem dX8_arcBetween_1 : decode cX8_arcBetween 1 = .ok (.iload_n 1, 1) := by decide +kernel
theorem dX8_arcBetween_2 : decode cX8_arcBetween 2 = .ok (.invokevirtual 123, 3) := by decide +kernel
theorem dX8_arcBetween_5 : decode cX8_arcBetween 5 = .ok (.ifCond .eq 11, 3) := by decide +kernel
theorem dX8_arcBetween_8 : decode cX8_arcBetween 8 = .ok (.iload_n 2, 1) := by decide +kernel
theorem dX8_arcBetween_9 : decode cX8_arcBetween 9 = .ok (.iload_n 3, 1) := by decide +kernel
theorem dX8_arcBetween_10 : decode cX8_arcBetween 10 = .ok (.invokestatic 208, 3) := by decide +kernel
theorem dX8_arcBetween_13 : decode cX8_arcBetween 13 = .ok (.ifCond .ne 7, 3) := by decide +kernel
theorem dX8_arcBetween_16 : decode cX8_arcBetween 16 = .ok (.ldc2_w 146, 3) := by decide +kernel
theorem dX8_arcBetween_19 : decode cX8_arcBetween 19 = .ok (.lreturn, 1) := by decide +kernel
theorem dX8_arcBetween_20 : decode cX8_arcBetween 20 = .ok (.aload_n 0, 1) := by decide +kernel
theorem dX8_arcBetween_21 : decode cX8_arcBetween 21 = .ok (.iconst 2, 1) := by decide +kernel
theorem dX8_arcBetween_22 : decode cX8_arcBetween 22 = .ok (.iload_n 1, 1) := by decide +kernel
theorem dX8_arcBetween_23 : decode cX8_arcBetween 23 = .ok (.iconst 0, 1) := by decide +kernel
theorem dX8_arcBetween_24 : decode cX8_arcBetween 24 = .ok (.invokevirtual 211, 3) := by decide +kernel
theorem dX8_arcBetween_27 : decode cX8_arcBetween 27 = .ok (.ifCond .ne 10, 3) := by decide +kernel
theorem dX8_arcBetween_30 : decode cX8_arcBetween 30 = .ok (.aload_n 0, 1) := by decide +kernel
theorem dX8_arcBetween_31 : decode cX8_arcBetween 31 = .ok (.iload_n 2, 1) := by decide +kernel
theorem dX8_arcBetween_32 : decode cX8_arcBetween 32 = .ok (.iload_n 3, 1) := by decide +kernel
theorem dX8_arcBetween_33 : decode cX8_arcBetween 33 = .ok (.invokevirtual 219, 3) := by decide +kernel
theorem dX8_arcBetween_36 : decode cX8_arcBetween 36 = .ok (.lreturn, 1) := by decide +kernel
theorem dX8_arcBetween_37 : decode cX8_arcBetween 37 = .ok (.aload_n 0, 1) := by decide +kernel
theorem dX8_arcBetween_38 : decode cX8_arcBetween 38 = .ok (.iconst 0, 1) := by decide +kernel
theorem dX8_arcBetween_39 : decode cX8_arcBetween 39 = .ok (.invokevirtual 142, 3) := by decide +kernel
theorem dX8_arcBetween_42 : decode cX8_arcBetween 42 = .ok (.aload_n 0, 1) := by decide +kernel
theorem dX8_arcBetween_43 : decode cX8_arcBetween 43 = .ok (.invokevirtual 201, 3) := by decide +kernel
theorem dX8_arcBetween_46 : decode cX8_arcBetween 46 = .ok (.iconst 0, 1) := by decide +kernel
theorem dX8_arcBetween_47 : decode cX8_arcBetween 47 = .ok (.istore 4, 2) := by decide +kernel
theorem dX8_arcBetween_49 : decode cX8_arcBetween 49 = .ok (.iload 4, 2) := by decide +kernel
theorem dX8_arcBetween_51 : decode cX8_arcBetween 51 = .ok (.aload_n 0, 1) := by decide +kernel
theorem dX8_arcBetween_52 : decode cX8_arcBetween 52 = .ok (.getfield 110, 3) := by decide +kernel
theorem dX8_arcBetween_55 : decode cX8_arcBetween 55 = .ok (.if_icmp .ge 163, 3) := by decide +kernel
theorem dX8_arcBetween_58 : decode cX8_arcBetween 58 = .ok (.iconst 0, 1) := by decide +kernel
theorem dX8_arcBetween_59 : decode cX8_arcBetween 59 = .ok (.istore 5, 2) := by decide +kernel
theorem dX8_arcBetween_61 : decode cX8_arcBetween 61 = .ok (.iload 5, 2) := by decide +kernel
theorem dX8_arcBetween_63 : decode cX8_arcBetween 63 = .ok (.aload_n 0, 1) := by decide +kernel
theorem dX8_arcBetween_64 : decode cX8_arcBetween 64 = .ok (.getfield 110, 3) := by decide +kernel
theorem dX8_arcBetween_67 : decode cX8_arcBetween 67 = .ok (.if_icmp .ge 145, 3) := by decide +kernel
theorem dX8_arcBetween_70 : decode cX8_arcBetween 70 = .ok (.aload_n 0, 1) := by decide +kernel
theorem dX8_arcBetween_71 : decode cX8_arcBetween 71 = .ok (.getfield 16, 3) := by decide +kernel
theorem dX8_arcBetween_74 : decode cX8_arcBetween 74 = .ok (.iload_n 1, 1) := by decide +kernel
theorem dX8_arcBetween_75 : decode cX8_arcBetween 75 = .ok (.iaload, 1) := by decide +kernel
theorem dX8_arcBetween_76 : decode cX8_arcBetween 76 = .ok (.ifCond .eq 130, 3) := by decide +kernel
theorem dX8_arcBetween_79 : decode cX8_arcBetween 79 = .ok (.aload_n 0, 1) := by decide +kernel
theorem dX8_arcBetween_80 : decode cX8_arcBetween 80 = .ok (.iload 4, 2) := by decide +kernel
theorem dX8_arcBetween_82 : decode cX8_arcBetween 82 = .ok (.iload 5, 2) := by decide +kernel
theorem dX8_arcBetween_84 : decode cX8_arcBetween 84 = .ok (.invokevirtual 148, 3) := by decide +kernel
theorem dX8_arcBetween_87 : decode cX8_arcBetween 87 = .ok (.ifCond .ne 6, 3) := by decide +kernel
theorem dX8_arcBetween_90 : decode cX8_arcBetween 90 = .ok (.goto 116, 3) := by decide +kernel
theorem dX8_arcBetween_93 : decode cX8_arcBetween 93 = .ok (.aload_n 0, 1) := by decide +kernel
theorem dX8_arcBetween_94 : decode cX8_arcBetween 94 = .ok (.getfield 23, 3) := by decide +kernel
theorem dX8_arcBetween_97 : decode cX8_arcBetween 97 = .ok (.aload_n 0, 1) := by decide +kernel
theorem dX8_arcBetween_98 : decode cX8_arcBetween 98 = .ok (.iload 4, 2) := by decide +kernel
theorem dX8_arcBetween_100 : decode cX8_arcBetween 100 = .ok (.aload_n 0, 1) := by decide +kernel
theorem dX8_arcBetween_101 : decode cX8_arcBetween 101 = .ok (.getfield 7, 3) := by decide +kernel
theorem dX8_arcBetween_104 : decode cX8_arcBetween 104 = .ok (.iload_n 1, 1) := by decide +kernel
theorem dX8_arcBetween_105 : decode cX8_arcBetween 105 = .ok (.iaload, 1) := by decide +kernel
theorem dX8_arcBetween_106 : decode cX8_arcBetween 106 = .ok (.invokevirtual 130, 3) := by decide +kernel
theorem dX8_arcBetween_109 : decode cX8_arcBetween 109 = .ok (.iaload, 1) := by decide +kernel
theorem dX8_arcBetween_110 : decode cX8_arcBetween 110 = .ok (.aload_n 0, 1) := by decide +kernel
theorem dX8_arcBetween_111 : decode cX8_arcBetween 111 = .ok (.getfield 16, 3) := by decide +kernel
theorem dX8_arcBetween_114 : decode cX8_arcBetween 114 = .ok (.iload_n 1, 1) := by decide +kernel
theorem dX8_arcBetween_115 : decode cX8_arcBetween 115 = .ok (.iaload, 1) := by decide +kernel
theorem dX8_arcBetween_116 : decode cX8_arcBetween 116 = .ok (.iadd, 1) := by decide +kernel
theorem dX8_arcBetween_117 : decode cX8_arcBetween 117 = .ok (.aload_n 0, 1) := by decide +kernel
theorem dX8_arcBetween_118 : decode cX8_arcBetween 118 = .ok (.getfield 23, 3) := by decide +kernel
theorem dX8_arcBetween_121 : decode cX8_arcBetween 121 = .ok (.aload_n 0, 1) := by decide +kernel
theorem dX8_arcBetween_122 : decode cX8_arcBetween 122 = .ok (.aload_n 0, 1) := by decide +kernel
theorem dX8_arcBetween_123 : decode cX8_arcBetween 123 = .ok (.getfield 13, 3) := by decide +kernel
theorem dX8_arcBetween_126 : decode cX8_arcBetween 126 = .ok (.iload_n 1, 1) := by decide +kernel
theorem dX8_arcBetween_127 : decode cX8_arcBetween 127 = .ok (.iaload, 1) := by decide +kernel
theorem dX8_arcBetween_128 : decode cX8_arcBetween 128 = .ok (.iload 5, 2) := by decide +kernel
theorem dX8_arcBetween_130 : decode cX8_arcBetween 130 = .ok (.invokevirtual 130, 3) := by decide +kernel
theorem dX8_arcBetween_133 : decode cX8_arcBetween 133 = .ok (.iaload, 1) := by decide +kernel
theorem dX8_arcBetween_134 : decode cX8_arcBetween 134 = .ok (.iadd, 1) := by decide +kernel
theorem dX8_arcBetween_135 : decode cX8_arcBetween 135 = .ok (.aload_n 0, 1) := by decide +kernel
theorem dX8_arcBetween_136 : decode cX8_arcBetween 136 = .ok (.getfield 23, 3) := by decide +kernel
theorem dX8_arcBetween_139 : decode cX8_arcBetween 139 = .ok (.aload_n 0, 1) := by decide +kernel
theorem dX8_arcBetween_140 : decode cX8_arcBetween 140 = .ok (.iload 4, 2) := by decide +kernel
theorem dX8_arcBetween_142 : decode cX8_arcBetween 142 = .ok (.iload 5, 2) := by decide +kernel
theorem dX8_arcBetween_144 : decode cX8_arcBetween 144 = .ok (.invokevirtual 130, 3) := by decide +kernel
theorem dX8_arcBetween_147 : decode cX8_arcBetween 147 = .ok (.iaload, 1) := by decide +kernel
theorem dX8_arcBetween_148 : decode cX8_arcBetween 148 = .ok (.if_icmp .eq 6, 3) := by decide +kernel
theorem dX8_arcBetween_151 : decode cX8_arcBetween 151 = .ok (.goto 55, 3) := by decide +kernel
theorem dX8_arcBetween_154 : decode cX8_arcBetween 154 = .ok (.aload_n 0, 1) := by decide +kernel
theorem dX8_arcBetween_155 : decode cX8_arcBetween 155 = .ok (.aload_n 0, 1) := by decide +kernel
theorem dX8_arcBetween_156 : decode cX8_arcBetween 156 = .ok (.getfield 26, 3) := by decide +kernel
theorem dX8_arcBetween_159 : decode cX8_arcBetween 159 = .ok (.aload_n 0, 1) := by decide +kernel
theorem dX8_arcBetween_160 : decode cX8_arcBetween 160 = .ok (.iload 4, 2) := by decide +kernel
theorem dX8_arcBetween_162 : decode cX8_arcBetween 162 = .ok (.aload_n 0, 1) := by decide +kernel
theorem dX8_arcBetween_163 : decode cX8_arcBetween 163 = .ok (.getfield 7, 3) := by decide +kernel
theorem dX8_arcBetween_166 : decode cX8_arcBetween 166 = .ok (.iload_n 1, 1) := by decide +kernel
theorem dX8_arcBetween_167 : decode cX8_arcBetween 167 = .ok (.iaload, 1) := by decide +kernel
