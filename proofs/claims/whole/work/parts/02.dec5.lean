theorem dX8_treesOf_8 : decode cX8_treesOf 8 = .ok (.getfield 107, 3) := by decide +kernel
theorem dX8_treesOf_11 : decode cX8_treesOf 11 = .ok (.iload_n 2, 1) := by decide +kernel
theorem dX8_treesOf_12 : decode cX8_treesOf 12 = .ok (.aload_n 0, 1) := by decide +kernel
theorem dX8_treesOf_13 : decode cX8_treesOf 13 = .ok (.getfield 101, 3) := by decide +kernel
theorem dX8_treesOf_16 : decode cX8_treesOf 16 = .ok (.iload_n 2, 1) := by decide +kernel
theorem dX8_treesOf_17 : decode cX8_treesOf 17 = .ok (.laload, 1) := by decide +kernel
theorem dX8_treesOf_18 : decode cX8_treesOf 18 = .ok (.lastore, 1) := by decide +kernel
theorem dX8_treesOf_19 : decode cX8_treesOf 19 = .ok (.iinc 2 1, 3) := by decide +kernel
theorem dX8_treesOf_22 : decode cX8_treesOf 22 = .ok (.goto (-20), 3) := by decide +kernel
theorem dX8_treesOf_25 : decode cX8_treesOf 25 = .ok (.aload_n 0, 1) := by decide +kernel
theorem dX8_treesOf_26 : decode cX8_treesOf 26 = .ok (.aload_n 1, 1) := by decide +kernel
theorem dX8_treesOf_27 : decode cX8_treesOf 27 = .ok (.invokevirtual 241, 3) := by decide +kernel
theorem dX8_treesOf_30 : decode cX8_treesOf 30 = .ok (.return_, 1) := by decide +kernel
theorem dX8_begin_0 : decode cX8_begin 0 = .ok (.aload_n 0, 1) := by decide +kernel
theorem dX8_begin_1 : decode cX8_begin 1 = .ok (.getfield 37, 3) := by decide +kernel
theorem dX8_begin_4 : decode cX8_begin 4 = .ok (.lconst 0, 1) := by decide +kernel
theorem dX8_begin_5 : decode cX8_begin 5 = .ok (.invokestatic 165, 3) := by decide +kernel
theorem dX8_begin_8 : decode cX8_begin 8 = .ok (.aload_n 0, 1) := by decide +kernel
theorem dX8_begin_9 : decode cX8_begin 9 = .ok (.getfield 40, 3) := by decide +kernel
theorem dX8_begin_12 : decode cX8_begin 12 = .ok (.lconst 0, 1) := by decide +kernel
theorem dX8_begin_13 : decode cX8_begin 13 = .ok (.invokestatic 165, 3) := by decide +kernel
theorem dX8_begin_16 : decode cX8_begin 16 = .ok (.aload_n 0, 1) := by decide +kernel
theorem dX8_begin_17 : decode cX8_begin 17 = .ok (.bipush 8, 2) := by decide +kernel
theorem dX8_begin_19 : decode cX8_begin 19 = .ok (.putfield 33, 3) := by decide +kernel
theorem dX8_begin_22 : decode cX8_begin 22 = .ok (.return_, 1) := by decide +kernel
theorem dX8_potential_0 : decode cX8_potential 0 = .ok (.aload_n 0, 1) := by decide +kernel
theorem dX8_potential_1 : decode cX8_potential 1 = .ok (.getfield 104, 3) := by decide +kernel
theorem dX8_potential_4 : decode cX8_potential 4 = .ok (.bipush 100, 2) := by decide +kernel
theorem dX8_potential_6 : decode cX8_potential 6 = .ok (.iload_n 1, 1) := by decide +kernel
theorem dX8_potential_7 : decode cX8_potential 7 = .ok (.imul, 1) := by decide +kernel
theorem dX8_potential_8 : decode cX8_potential 8 = .ok (.aload_n 0, 1) := by decide +kernel
theorem dX8_potential_9 : decode cX8_potential 9 = .ok (.aload_n 0, 1) := by decide +kernel
theorem dX8_potential_10 : decode cX8_potential 10 = .ok (.getfield 89, 3) := by decide +kernel
theorem dX8_potential_13 : decode cX8_potential 13 = .ok (.iload_n 2, 1) := by decide +kernel
theorem dX8_potential_14 : decode cX8_potential 14 = .ok (.iaload, 1) := by decide +kernel
theorem dX8_potential_15 : decode cX8_potential 15 = .ok (.aload_n 0, 1) := by decide +kernel
theorem dX8_potential_16 : decode cX8_potential 16 = .ok (.getfield 89, 3) := by decide +kernel
theorem dX8_potential_19 : decode cX8_potential 19 = .ok (.iload_n 3, 1) := by decide +kernel
theorem dX8_potential_20 : decode cX8_potential 20 = .ok (.iaload, 1) := by decide +kernel
theorem dX8_potential_21 : decode cX8_potential 21 = .ok (.invokevirtual 130, 3) := by decide +kernel
theorem dX8_potential_24 : decode cX8_potential 24 = .ok (.iadd, 1) := by decide +kernel
theorem dX8_potential_25 : decode cX8_potential 25 = .ok (.laload, 1) := by decide +kernel
theorem dX8_potential_26 : decode cX8_potential 26 = .ok (.lreturn, 1) := by decide +kernel
theorem dX8_resistance_0 : decode cX8_resistance 0 = .ok (.aload_n 0, 1) := by decide +kernel
theorem dX8_resistance_1 : decode cX8_resistance 1 = .ok (.iload_n 1, 1) := by decide +kernel
theorem dX8_resistance_2 : decode cX8_resistance 2 = .ok (.invokevirtual 119, 3) := by decide +kernel
theorem dX8_resistance_5 : decode cX8_resistance 5 = .ok (.ifCond .eq 20, 3) := by decide +kernel
theorem dX8_resistance_8 : decode cX8_resistance 8 = .ok (.aload_n 0, 1) := by decide +kernel
theorem dX8_resistance_9 : decode cX8_resistance 9 = .ok (.iload_n 2, 1) := by decide +kernel
theorem dX8_resistance_10 : decode cX8_resistance 10 = .ok (.invokevirtual 119, 3) := by decide +kernel
theorem dX8_resistance_13 : decode cX8_resistance 13 = .ok (.ifCond .eq 12, 3) := by decide +kernel
theorem dX8_resistance_16 : decode cX8_resistance 16 = .ok (.iload_n 3, 1) := by decide +kernel
theorem dX8_resistance_17 : decode cX8_resistance 17 = .ok (.iload 4, 2) := by decide +kernel
theorem dX8_resistance_19 : decode cX8_resistance 19 = .ok (.invokestatic 208, 3) := by decide +kernel
theorem dX8_resistance_22 : decode cX8_resistance 22 = .ok (.ifCond .ne 7, 3) := by decide +kernel
theorem dX8_resistance_25 : decode cX8_resistance 25 = .ok (.ldc2_w 146, 3) := by decide +kernel
theorem dX8_resistance_28 : decode cX8_resistance 28 = .ok (.lreturn, 1) := by decide +kernel
theorem dX8_resistance_29 : decode cX8_resistance 29 = .ok (.aload_n 0, 1) := by decide +kernel
theorem dX8_resistance_30 : decode cX8_resistance 30 = .ok (.iload_n 1, 1) := by decide +kernel
theorem dX8_resistance_31 : decode cX8_resistance 31 = .ok (.invokevirtual 244, 3) := by decide +kernel
theorem dX8_resistance_34 : decode cX8_resistance 34 = .ok (.aload_n 0, 1) := by decide +kernel
theorem dX8_resistance_35 : decode cX8_resistance 35 = .ok (.getfield 89, 3) := by decide +kernel
theorem dX8_resistance_38 : decode cX8_resistance 38 = .ok (.iload_n 2, 1) := by decide +kernel
theorem dX8_resistance_39 : decode cX8_resistance 39 = .ok (.iaload, 1) := by decide +kernel
theorem dX8_resistance_40 : decode cX8_resistance 40 = .ok (.iconst (-1), 1) := by decide +kernel
theorem dX8_resistance_41 : decode cX8_resistance 41 = .ok (.if_icmp .ne 7, 3) := by decide +kernel
theorem dX8_resistance_44 : decode cX8_resistance 44 = .ok (.ldc2_w 146, 3) := by decide +kernel
theorem dX8_resistance_47 : decode cX8_resistance 47 = .ok (.lreturn, 1) := by decide +kernel
theorem dX8_resistance_48 : decode cX8_resistance 48 = .ok (.aload_n 0, 1) := by decide +kernel
theorem dX8_resistance_49 : decode cX8_resistance 49 = .ok (.bipush 6, 2) := by decide +kernel
theorem dX8_resistance_51 : decode cX8_resistance 51 = .ok (.iload_n 1, 1) := by decide +kernel
theorem dX8_resistance_52 : decode cX8_resistance 52 = .ok (.iload_n 2, 1) := by decide +kernel
theorem dX8_resistance_53 : decode cX8_resistance 53 = .ok (.invokevirtual 211, 3) := by decide +kernel
theorem dX8_resistance_56 : decode cX8_resistance 56 = .ok (.ifCond .ne 11, 3) := by decide +kernel
theorem dX8_resistance_59 : decode cX8_resistance 59 = .ok (.aload_n 0, 1) := by decide +kernel
theorem dX8_resistance_60 : decode cX8_resistance 60 = .ok (.iload_n 3, 1) := by decide +kernel
theorem dX8_resistance_61 : decode cX8_resistance 61 = .ok (.iload 4, 2) := by decide +kernel
theorem dX8_resistance_63 : decode cX8_resistance 63 = .ok (.invokevirtual 219, 3) := by decide +kernel
theorem dX8_resistance_66 : decode cX8_resistance 66 = .ok (.lreturn, 1) := by decide +kernel
theorem dX8_resistance_67 : decode cX8_resistance 67 = .ok (.aload_n 0, 1) := by decide +kernel
theorem dX8_resistance_68 : decode cX8_resistance 68 = .ok (.invokevirtual 247, 3) := by decide +kernel
theorem dX8_resistance_71 : decode cX8_resistance 71 = .ok (.iconst 0, 1) := by decide +kernel
theorem dX8_resistance_72 : decode cX8_resistance 72 = .ok (.istore 5, 2) := by decide +kernel
theorem dX8_resistance_74 : decode cX8_resistance 74 = .ok (.iload 5, 2) := by decide +kernel
theorem dX8_resistance_76 : decode cX8_resistance 76 = .ok (.iconst 5, 1) := by decide +kernel
theorem dX8_resistance_77 : decode cX8_resistance 77 = .ok (.if_icmp .ge 62, 3) := by decide +kernel
theorem dX8_resistance_80 : decode cX8_resistance 80 = .ok (.aload_n 0, 1) := by decide +kernel
theorem dX8_resistance_81 : decode cX8_resistance 81 = .ok (.getfield 107, 3) := by decide +kernel
theorem dX8_resistance_84 : decode cX8_resistance 84 = .ok (.iload 5, 2) := by decide +kernel
theorem dX8_resistance_86 : decode cX8_resistance 86 = .ok (.aload_n 0, 1) := by decide +kernel
theorem dX8_resistance_87 : decode cX8_resistance 87 = .ok (.iload 5, 2) := by decide +kernel
theorem dX8_resistance_89 : decode cX8_resistance 89 = .ok (.iload_n 1, 1) := by decide +kernel
theorem dX8_resistance_90 : decode cX8_resistance 90 = .ok (.iload_n 1, 1) := by decide +kernel
theorem dX8_resistance_91 : decode cX8_resistance 91 = .ok (.invokevirtual 250, 3) := by decide +kernel
theorem dX8_resistance_94 : decode cX8_resistance 94 = .ok (.aload_n 0, 1) := by decide +kernel
theorem dX8_resistance_95 : decode cX8_resistance 95 = .ok (.iload 5, 2) := by decide +kernel
theorem dX8_resistance_97 : decode cX8_resistance 97 = .ok (.iload_n 2, 1) := by decide +kernel
theorem dX8_resistance_98 : decode cX8_resistance 98 = .ok (.iload_n 2, 1) := by decide +kernel
theorem dX8_resistance_99 : decode cX8_resistance 99 = .ok (.invokevirtual 250, 3) := by decide +kernel
theorem dX8_resistance_102 : decode cX8_resistance 102 = .ok (.ladd, 1) := by decide +kernel
theorem dX8_resistance_103 : decode cX8_resistance 103 = .ok (.ldc2_w 196, 3) := by decide +kernel
theorem dX8_resistance_106 : decode cX8_resistance 106 = .ok (.aload_n 0, 1) := by decide +kernel
theorem dX8_resistance_107 : decode cX8_resistance 107 = .ok (.getfield 98, 3) := by decide +kernel
theorem dX8_resistance_110 : decode cX8_resistance 110 = .ok (.iload 5, 2) := by decide +kernel
theorem dX8_resistance_112 : decode cX8_resistance 112 = .ok (.laload, 1) := by decide +kernel
theorem dX8_resistance_113 : decode cX8_resistance 113 = .ok (.aload_n 0, 1) := by decide +kernel
theorem dX8_resistance_114 : decode cX8_resistance 114 = .ok (.iload 5, 2) := by decide +kernel
theorem dX8_resistance_116 : decode cX8_resistance 116 = .ok (.iload_n 1, 1) := by decide +kernel
theorem dX8_resistance_117 : decode cX8_resistance 117 = .ok (.iload_n 2, 1) := by decide +kernel
theorem dX8_resistance_118 : decode cX8_resistance 118 = .ok (.invokevirtual 250, 3) := by decide +kernel
theorem dX8_resistance_121 : decode cX8_resistance 121 = .ok (.lsub, 1) := by decide +kernel
theorem dX8_resistance_122 : decode cX8_resistance 122 = .ok (.lmul, 1) := by decide +kernel
theorem dX8_resistance_123 : decode cX8_resistance 123 = .ok (.ladd, 1) := by decide +kernel
theorem dX8_resistance_124 : decode cX8_resistance 124 = .ok (.aload_n 0, 1) := by decide +kernel
theorem dX8_resistance_125 : decode cX8_resistance 125 = .ok (.getfield 98, 3) := by decide +kernel
theorem dX8_resistance_128 : decode cX8_resistance 128 = .ok (.iload 5, 2) := by decide +kernel
theorem dX8_resistance_130 : decode cX8_resistance 130 = .ok (.laload, 1) := by decide +kernel
theorem dX8_resistance_131 : decode cX8_resistance 131 = .ok (.lrem, 1) := by decide +kernel
theorem dX8_resistance_132 : decode cX8_resistance 132 = .ok (.lastore, 1) := by decide +kernel
theorem dX8_resistance_133 : decode cX8_resistance 133 = .ok (.iinc 5 1, 3) := by decide +kernel
theorem dX8_resistance_136 : decode cX8_resistance 136 = .ok (.goto (-62), 3) := by decide +kernel
theorem dX8_resistance_139 : decode cX8_resistance 139 = .ok (.aload_n 0, 1) := by decide +kernel
theorem dX8_resistance_140 : decode cX8_resistance 140 = .ok (.aload_n 0, 1) := by decide +kernel
theorem dX8_resistance_141 : decode cX8_resistance 141 = .ok (.getfield 37, 3) := by decide +kernel
theorem dX8_resistance_144 : decode cX8_resistance 144 = .ok (.invokevirtual 241, 3) := by decide +kernel
theorem dX8_resistance_147 : decode cX8_resistance 147 = .ok (.aload_n 0, 1) := by decide +kernel
theorem dX8_resistance_148 : decode cX8_resistance 148 = .ok (.aload_n 0, 1) := by decide +kernel
theorem dX8_resistance_149 : decode cX8_resistance 149 = .ok (.getfield 40, 3) := by decide +kernel
theorem dX8_resistance_152 : decode cX8_resistance 152 = .ok (.invokevirtual 253, 3) := by decide +kernel
theorem dX8_resistance_155 : decode cX8_resistance 155 = .ok (.aload_n 0, 1) := by decide +kernel
theorem dX8_resistance_156 : decode cX8_resistance 156 = .ok (.invokevirtual 256, 3) := by decide +kernel
theorem dX8_resistance_159 : decode cX8_resistance 159 = .ok (.aload_n 0, 1) := by decide +kernel
theorem dX8_resistance_160 : decode cX8_resistance 160 = .ok (.iload_n 3, 1) := by decide +kernel
theorem dX8_resistance_161 : decode cX8_resistance 161 = .ok (.iload 4, 2) := by decide +kernel
theorem dX8_resistance_163 : decode cX8_resistance 163 = .ok (.invokevirtual 219, 3) := by decide +kernel
theorem dX8_resistance_166 : decode cX8_resistance 166 = .ok (.lreturn, 1) := by decide +kernel
theorem dX8_carried_0 : decode cX8_carried 0 = .ok (.aload_n 0, 1) := by decide +kernel
theorem dX8_carried_1 : decode cX8_carried 1 = .ok (.iload_n 1, 1) := by decide +kernel
theorem dX8_carried_2 : decode cX8_carried 2 = .ok (.invokevirtual 119, 3) := by decide +kernel
theorem dX8_carried_5 : decode cX8_carried 5 = .ok (.ifCond .eq 11, 3) := by decide +kernel
theorem dX8_carried_8 : decode cX8_carried 8 = .ok (.iload_n 2, 1) := by decide +kernel
theorem dX8_carried_9 : decode cX8_carried 9 = .ok (.iload_n 3, 1) := by decide +kernel
theorem dX8_carried_10 : decode cX8_carried 10 = .ok (.invokestatic 208, 3) := by decide +kernel
theorem dX8_carried_13 : decode cX8_carried 13 = .ok (.ifCond .ne 7, 3) := by decide +kernel
theorem dX8_carried_16 : decode cX8_carried 16 = .ok (.ldc2_w 146, 3) := by decide +kernel
theorem dX8_carried_19 : decode cX8_carried 19 = .ok (.lreturn, 1) := by decide +kernel
theorem dX8_carried_20 : decode cX8_carried 20 = .ok (.aload_n 0, 1) := by decide +kernel
theorem dX8_carried_21 : decode cX8_carried 21 = .ok (.bipush 7, 2) := by decide +kernel
theorem dX8_carried_23 : decode cX8_carried 23 = .ok (.iload_n 1, 1) := by decide +kernel
theorem dX8_carried_24 : decode cX8_carried 24 = .ok (.iconst 0, 1) := by decide +kernel
theorem dX8_carried_25 : decode cX8_carried 25 = .ok (.invokevirtual 211, 3) := by decide +kernel
theorem dX8_carried_28 : decode cX8_carried 28 = .ok (.ifCond .ne 10, 3) := by decide +kernel
theorem dX8_carried_31 : decode cX8_carried 31 = .ok (.aload_n 0, 1) := by decide +kernel
theorem dX8_carried_32 : decode cX8_carried 32 = .ok (.iload_n 2, 1) := by decide +kernel
theorem dX8_carried_33 : decode cX8_carried 33 = .ok (.iload_n 3, 1) := by decide +kernel
theorem dX8_carried_34 : decode cX8_carried 34 = .ok (.invokevirtual 219, 3) := by decide +kernel
theorem dX8_carried_37 : decode cX8_carried 37 = .ok (.lreturn, 1) := by decide +kernel
theorem dX8_carried_38 : decode cX8_carried 38 = .ok (.aload_n 0, 1) := by decide +kernel
theorem dX8_carried_39 : decode cX8_carried 39 = .ok (.iload_n 1, 1) := by decide +kernel
theorem dX8_carried_40 : decode cX8_carried 40 = .ok (.invokevirtual 244, 3) := by decide +kernel
theorem dX8_carried_43 : decode cX8_carried 43 = .ok (.aload_n 0, 1) := by decide +kernel
theorem dX8_carried_44 : decode cX8_carried 44 = .ok (.invokevirtual 247, 3) := by decide +kernel
theorem dX8_carried_47 : decode cX8_carried 47 = .ok (.aload_n 0, 1) := by decide +kernel
theorem dX8_carried_48 : decode cX8_carried 48 = .ok (.getfield 52, 3) := by decide +kernel
theorem dX8_carried_51 : decode cX8_carried 51 = .ok (.lconst 0, 1) := by decide +kernel
theorem dX8_carried_52 : decode cX8_carried 52 = .ok (.invokestatic 165, 3) := by decide +kernel
theorem dX8_carried_55 : decode cX8_carried 55 = .ok (.iconst 0, 1) := by decide +kernel
theorem dX8_carried_56 : decode cX8_carried 56 = .ok (.istore 4, 2) := by decide +kernel
theorem dX8_carried_58 : decode cX8_carried 58 = .ok (.iload 4, 2) := by decide +kernel
theorem dX8_carried_60 : decode cX8_carried 60 = .ok (.aload_n 0, 1) := by decide +kernel
theorem dX8_carried_61 : decode cX8_carried 61 = .ok (.getfield 230, 3) := by decide +kernel
theorem dX8_carried_64 : decode cX8_carried 64 = .ok (.if_icmp .ge 71, 3) := by decide +kernel
theorem dX8_carried_67 : decode cX8_carried 67 = .ok (.iload 4, 2) := by decide +kernel
theorem dX8_carried_69 : decode cX8_carried 69 = .ok (.iconst 1, 1) := by decide +kernel
theorem dX8_carried_70 : decode cX8_carried 70 = .ok (.iadd, 1) := by decide +kernel
theorem dX8_carried_71 : decode cX8_carried 71 = .ok (.istore 5, 2) := by decide +kernel
theorem dX8_carried_73 : decode cX8_carried 73 = .ok (.iload 5, 2) := by decide +kernel
theorem dX8_carried_75 : decode cX8_carried 75 = .ok (.aload_n 0, 1) := by decide +kernel
theorem dX8_carried_76 : decode cX8_carried 76 = .ok (.getfield 230, 3) := by decide +kernel
theorem dX8_carried_79 : decode cX8_carried 79 = .ok (.if_icmp .ge 50, 3) := by decide +kernel
theorem dX8_carried_82 : decode cX8_carried 82 = .ok (.aload_n 0, 1) := by decide +kernel
theorem dX8_carried_83 : decode cX8_carried 83 = .ok (.getfield 86, 3) := by decide +kernel
theorem dX8_carried_86 : decode cX8_carried 86 = .ok (.iload 4, 2) := by decide +kernel
theorem dX8_carried_88 : decode cX8_carried 88 = .ok (.iaload, 1) := by decide +kernel
theorem dX8_carried_89 : decode cX8_carried 89 = .ok (.iload_n 1, 1) := by decide +kernel
theorem dX8_carried_90 : decode cX8_carried 90 = .ok (.if_icmp .eq 33, 3) := by decide +kernel
theorem dX8_carried_93 : decode cX8_carried 93 = .ok (.aload_n 0, 1) := by decide +kernel
theorem dX8_carried_94 : decode cX8_carried 94 = .ok (.getfield 86, 3) := by decide +kernel
theorem dX8_carried_97 : decode cX8_carried 97 = .ok (.iload 5, 2) := by decide +kernel
theorem dX8_carried_99 : decode cX8_carried 99 = .ok (.iaload, 1) := by decide +kernel
theorem dX8_carried_100 : decode cX8_carried 100 = .ok (.iload_n 1, 1) := by decide +kernel
theorem dX8_carried_101 : decode cX8_carried 101 = .ok (.if_icmp .eq 22, 3) := by decide +kernel
theorem dX8_carried_104 : decode cX8_carried 104 = .ok (.aload_n 0, 1) := by decide +kernel
theorem dX8_carried_105 : decode cX8_carried 105 = .ok (.iload_n 1, 1) := by decide +kernel
theorem dX8_carried_106 : decode cX8_carried 106 = .ok (.aload_n 0, 1) := by decide +kernel
theorem dX8_carried_107 : decode cX8_carried 107 = .ok (.getfield 86, 3) := by decide +kernel
theorem dX8_carried_110 : decode cX8_carried 110 = .ok (.iload 4, 2) := by decide +kernel
theorem dX8_carried_112 : decode cX8_carried 112 = .ok (.iaload, 1) := by decide +kernel
theorem dX8_carried_113 : decode cX8_carried 113 = .ok (.aload_n 0, 1) := by decide +kernel
theorem dX8_carried_114 : decode cX8_carried 114 = .ok (.getfield 86, 3) := by decide +kernel
theorem dX8_carried_117 : decode cX8_carried 117 = .ok (.iload 5, 2) := by decide +kernel
theorem dX8_carried_119 : decode cX8_carried 119 = .ok (.iaload, 1) := by decide +kernel
theorem dX8_carried_120 : decode cX8_carried 120 = .ok (.invokevirtual 259, 3) := by decide +kernel
theorem dX8_carried_123 : decode cX8_carried 123 = .ok (.iinc 5 1, 3) := by decide +kernel
theorem dX8_carried_126 : decode cX8_carried 126 = .ok (.goto (-53), 3) := by decide +kernel
theorem dX8_carried_129 : decode cX8_carried 129 = .ok (.iinc 4 1, 3) := by decide +kernel
theorem dX8_carried_132 : decode cX8_carried 132 = .ok (.goto (-74), 3) := by decide +kernel
theorem dX8_carried_135 : decode cX8_carried 135 = .ok (.aload_n 0, 1) := by decide +kernel
theorem dX8_carried_136 : decode cX8_carried 136 = .ok (.aload_n 0, 1) := by decide +kernel
theorem dX8_carried_137 : decode cX8_carried 137 = .ok (.getfield 37, 3) := by decide +kernel
theorem dX8_carried_140 : decode cX8_carried 140 = .ok (.aload_n 0, 1) := by decide +kernel
theorem dX8_carried_141 : decode cX8_carried 141 = .ok (.getfield 52, 3) := by decide +kernel
theorem dX8_carried_144 : decode cX8_carried 144 = .ok (.invokevirtual 157, 3) := by decide +kernel
theorem dX8_carried_147 : decode cX8_carried 147 = .ok (.aload_n 0, 1) := by decide +kernel
theorem dX8_carried_148 : decode cX8_carried 148 = .ok (.aload_n 0, 1) := by decide +kernel
theorem dX8_carried_149 : decode cX8_carried 149 = .ok (.getfield 40, 3) := by decide +kernel
theorem dX8_carried_152 : decode cX8_carried 152 = .ok (.invokevirtual 253, 3) := by decide +kernel
theorem dX8_carried_155 : decode cX8_carried 155 = .ok (.aload_n 0, 1) := by decide +kernel
theorem dX8_carried_156 : decode cX8_carried 156 = .ok (.aload_n 0, 1) := by decide +kernel
theorem dX8_carried_157 : decode cX8_carried 157 = .ok (.getfield 40, 3) := by decide +kernel
theorem dX8_carried_160 : decode cX8_carried 160 = .ok (.ldc2_w 196, 3) := by decide +kernel
theorem dX8_carried_163 : decode cX8_carried 163 = .ok (.invokevirtual 175, 3) := by decide +kernel
theorem dX8_carried_166 : decode cX8_carried 166 = .ok (.aload_n 0, 1) := by decide +kernel
theorem dX8_carried_167 : decode cX8_carried 167 = .ok (.invokevirtual 256, 3) := by decide +kernel
theorem dX8_carried_170 : decode cX8_carried 170 = .ok (.aload_n 0, 1) := by decide +kernel
theorem dX8_carried_171 : decode cX8_carried 171 = .ok (.iload_n 2, 1) := by decide +kernel
theorem dX8_carried_172 : decode cX8_carried 172 = .ok (.iload_n 3, 1) := by decide +kernel
theorem dX8_carried_173 : decode cX8_carried 173 = .ok (.invokevirtual 219, 3) := by decide +kernel
theorem dX8_carried_176 : decode cX8_carried 176 = .ok (.lreturn, 1) := by decide +kernel
theorem dX8_addFlow_0 : decode cX8_addFlow 0 = .ok (.iconst 0, 1) := by decide +kernel
theorem dX8_addFlow_1 : decode cX8_addFlow 1 = .ok (.istore 4, 2) := by decide +kernel
theorem dX8_addFlow_3 : decode cX8_addFlow 3 = .ok (.iload 4, 2) := by decide +kernel
theorem dX8_addFlow_5 : decode cX8_addFlow 5 = .ok (.aload_n 0, 1) := by decide +kernel
theorem dX8_addFlow_6 : decode cX8_addFlow 6 = .ok (.getfield 113, 3) := by decide +kernel
theorem dX8_addFlow_9 : decode cX8_addFlow 9 = .ok (.if_icmp .ge 179, 3) := by decide +kernel
theorem dX8_addFlow_12 : decode cX8_addFlow 12 = .ok (.aload_n 0, 1) := by decide +kernel
theorem dX8_addFlow_13 : decode cX8_addFlow 13 = .ok (.getfield 16, 3) := by decide +kernel
theorem dX8_addFlow_16 : decode cX8_addFlow 16 = .ok (.iload 4, 2) := by decide +kernel
theorem dX8_addFlow_18 : decode cX8_addFlow 18 = .ok (.iaload, 1) := by decide +kernel
theorem dX8_addFlow_19 : decode cX8_addFlow 19 = .ok (.ifCond .eq 163, 3) := by decide +kernel
theorem dX8_addFlow_22 : decode cX8_addFlow 22 = .ok (.aload_n 0, 1) := by decide +kernel
theorem dX8_addFlow_23 : decode cX8_addFlow 23 = .ok (.getfield 7, 3) := by decide +kernel
theorem dX8_addFlow_26 : decode cX8_addFlow 26 = .ok (.iload 4, 2) := by decide +kernel
theorem dX8_addFlow_28 : decode cX8_addFlow 28 = .ok (.iaload, 1) := by decide +kernel
theorem dX8_addFlow_29 : decode cX8_addFlow 29 = .ok (.iload_n 1, 1) := by decide +kernel
theorem dX8_addFlow_30 : decode cX8_addFlow 30 = .ok (.if_icmp .eq 17, 3) := by decide +kernel
theorem dX8_addFlow_33 : decode cX8_addFlow 33 = .ok (.aload_n 0, 1) := by decide +kernel
theorem dX8_addFlow_34 : decode cX8_addFlow 34 = .ok (.getfield 13, 3) := by decide +kernel
theorem dX8_addFlow_37 : decode cX8_addFlow 37 = .ok (.iload 4, 2) := by decide +kernel
theorem dX8_addFlow_39 : decode cX8_addFlow 39 = .ok (.iaload, 1) := by decide +kernel
theorem dX8_addFlow_40 : decode cX8_addFlow 40 = .ok (.iload_n 1, 1) := by decide +kernel
theorem dX8_addFlow_41 : decode cX8_addFlow 41 = .ok (.if_icmp .eq 6, 3) := by decide +kernel
theorem dX8_addFlow_44 : decode cX8_addFlow 44 = .ok (.goto 138, 3) := by decide +kernel
theorem dX8_addFlow_47 : decode cX8_addFlow 47 = .ok (.iconst 0, 1) := by decide +kernel
theorem dX8_addFlow_48 : decode cX8_addFlow 48 = .ok (.istore 5, 2) := by decide +kernel
theorem dX8_addFlow_50 : decode cX8_addFlow 50 = .ok (.iload 5, 2) := by decide +kernel
theorem dX8_addFlow_52 : decode cX8_addFlow 52 = .ok (.iconst 5, 1) := by decide +kernel
theorem dX8_addFlow_53 : decode cX8_addFlow 53 = .ok (.if_icmp .ge 93, 3) := by decide +kernel
theorem dX8_addFlow_56 : decode cX8_addFlow 56 = .ok (.aload_n 0, 1) := by decide +kernel
theorem dX8_addFlow_57 : decode cX8_addFlow 57 = .ok (.getfield 98, 3) := by decide +kernel
theorem dX8_addFlow_60 : decode cX8_addFlow 60 = .ok (.iload 5, 2) := by decide +kernel
theorem dX8_addFlow_62 : decode cX8_addFlow 62 = .ok (.laload, 1) := by decide +kernel
theorem dX8_addFlow_63 : decode cX8_addFlow 63 = .ok (.lstore 6, 2) := by decide +kernel
theorem dX8_addFlow_65 : decode cX8_addFlow 65 = .ok (.aload_n 0, 1) := by decide +kernel
theorem dX8_addFlow_66 : decode cX8_addFlow 66 = .ok (.getfield 107, 3) := by decide +kernel
theorem dX8_addFlow_69 : decode cX8_addFlow 69 = .ok (.iload 5, 2) := by decide +kernel
theorem dX8_addFlow_71 : decode cX8_addFlow 71 = .ok (.aload_n 0, 1) := by decide +kernel
theorem dX8_addFlow_72 : decode cX8_addFlow 72 = .ok (.iload 5, 2) := by decide +kernel
theorem dX8_addFlow_74 : decode cX8_addFlow 74 = .ok (.aload_n 0, 1) := by decide +kernel
theorem dX8_addFlow_75 : decode cX8_addFlow 75 = .ok (.getfield 7, 3) := by decide +kernel
theorem dX8_addFlow_78 : decode cX8_addFlow 78 = .ok (.iload 4, 2) := by decide +kernel
theorem dX8_addFlow_80 : decode cX8_addFlow 80 = .ok (.iaload, 1) := by decide +kernel
theorem dX8_addFlow_81 : decode cX8_addFlow 81 = .ok (.iload_n 2, 1) := by decide +kernel
theorem dX8_addFlow_82 : decode cX8_addFlow 82 = .ok (.invokevirtual 250, 3) := by decide +kernel
theorem dX8_addFlow_85 : decode cX8_addFlow 85 = .ok (.lload 6, 2) := by decide +kernel
theorem dX8_addFlow_87 : decode cX8_addFlow 87 = .ok (.ladd, 1) := by decide +kernel
theorem dX8_addFlow_88 : decode cX8_addFlow 88 = .ok (.aload_n 0, 1) := by decide +kernel
theorem dX8_addFlow_89 : decode cX8_addFlow 89 = .ok (.iload 5, 2) := by decide +kernel
theorem dX8_addFlow_91 : decode cX8_addFlow 91 = .ok (.aload_n 0, 1) := by decide +kernel
theorem dX8_addFlow_92 : decode cX8_addFlow 92 = .ok (.getfield 7, 3) := by decide +kernel
theorem dX8_addFlow_95 : decode cX8_addFlow 95 = .ok (.iload 4, 2) := by decide +kernel
theorem dX8_addFlow_97 : decode cX8_addFlow 97 = .ok (.iaload, 1) := by decide +kernel
theorem dX8_addFlow_98 : decode cX8_addFlow 98 = .ok (.iload_n 3, 1) := by decide +kernel
theorem dX8_addFlow_99 : decode cX8_addFlow 99 = .ok (.invokevirtual 250, 3) := by decide +kernel
theorem dX8_addFlow_102 : decode cX8_addFlow 102 = .ok (.lsub, 1) := by decide +kernel
theorem dX8_addFlow_103 : decode cX8_addFlow 103 = .ok (.lload 6, 2) := by decide +kernel
theorem dX8_addFlow_105 : decode cX8_addFlow 105 = .ok (.ladd, 1) := by decide +kernel
theorem dX8_addFlow_106 : decode cX8_addFlow 106 = .ok (.aload_n 0, 1) := by decide +kernel
theorem dX8_addFlow_107 : decode cX8_addFlow 107 = .ok (.iload 5, 2) := by decide +kernel
theorem dX8_addFlow_109 : decode cX8_addFlow 109 = .ok (.aload_n 0, 1) := by decide +kernel
theorem dX8_addFlow_110 : decode cX8_addFlow 110 = .ok (.getfield 13, 3) := by decide +kernel
theorem dX8_addFlow_113 : decode cX8_addFlow 113 = .ok (.iload 4, 2) := by decide +kernel
theorem dX8_addFlow_115 : decode cX8_addFlow 115 = .ok (.iaload, 1) := by decide +kernel
theorem dX8_addFlow_116 : decode cX8_addFlow 116 = .ok (.iload_n 2, 1) := by decide +kernel
theorem dX8_addFlow_117 : decode cX8_addFlow 117 = .ok (.invokevirtual 250, 3) := by decide +kernel
theorem dX8_addFlow_120 : decode cX8_addFlow 120 = .ok (.lsub, 1) := by decide +kernel
theorem dX8_addFlow_121 : decode cX8_addFlow 121 = .ok (.aload_n 0, 1) := by decide +kernel
theorem dX8_addFlow_122 : decode cX8_addFlow 122 = .ok (.iload 5, 2) := by decide +kernel
theorem dX8_addFlow_124 : decode cX8_addFlow 124 = .ok (.aload_n 0, 1) := by decide +kernel
theorem dX8_addFlow_125 : decode cX8_addFlow 125 = .ok (.getfield 13, 3) := by decide +kernel
theorem dX8_addFlow_128 : decode cX8_addFlow 128 = .ok (.iload 4, 2) := by decide +kernel
theorem dX8_addFlow_130 : decode cX8_addFlow 130 = .ok (.iaload, 1) := by decide +kernel
theorem dX8_addFlow_131 : decode cX8_addFlow 131 = .ok (.iload_n 3, 1) := by decide +kernel
theorem dX8_addFlow_132 : decode cX8_addFlow 132 = .ok (.invokevirtual 250, 3) := by decide +kernel
theorem dX8_addFlow_135 : decode cX8_addFlow 135 = .ok (.ladd, 1) := by decide +kernel
theorem dX8_addFlow_136 : decode cX8_addFlow 136 = .ok (.lload 6, 2) := by decide +kernel
theorem dX8_addFlow_138 : decode cX8_addFlow 138 = .ok (.lrem, 1) := by decide +kernel
theorem dX8_addFlow_139 : decode cX8_addFlow 139 = .ok (.lastore, 1) := by decide +kernel
theorem dX8_addFlow_140 : decode cX8_addFlow 140 = .ok (.iinc 5 1, 3) := by decide +kernel
theorem dX8_addFlow_143 : decode cX8_addFlow 143 = .ok (.goto (-93), 3) := by decide +kernel
theorem dX8_addFlow_146 : decode cX8_addFlow 146 = .ok (.aload_n 0, 1) := by decide +kernel
theorem dX8_addFlow_147 : decode cX8_addFlow 147 = .ok (.aload_n 0, 1) := by decide +kernel
theorem dX8_addFlow_148 : decode cX8_addFlow 148 = .ok (.getfield 46, 3) := by decide +kernel
theorem dX8_addFlow_151 : decode cX8_addFlow 151 = .ok (.invokevirtual 241, 3) := by decide +kernel
theorem dX8_addFlow_154 : decode cX8_addFlow 154 = .ok (.aload_n 0, 1) := by decide +kernel
theorem dX8_addFlow_155 : decode cX8_addFlow 155 = .ok (.aload_n 0, 1) := by decide +kernel
theorem dX8_addFlow_156 : decode cX8_addFlow 156 = .ok (.getfield 46, 3) := by decide +kernel
theorem dX8_addFlow_159 : decode cX8_addFlow 159 = .ok (.aload_n 0, 1) := by decide +kernel
theorem dX8_addFlow_160 : decode cX8_addFlow 160 = .ok (.getfield 16, 3) := by decide +kernel
theorem dX8_addFlow_163 : decode cX8_addFlow 163 = .ok (.iload 4, 2) := by decide +kernel
theorem dX8_addFlow_165 : decode cX8_addFlow 165 = .ok (.iaload, 1) := by decide +kernel
theorem dX8_addFlow_166 : decode cX8_addFlow 166 = .ok (.i2l, 1) := by decide +kernel
theorem dX8_addFlow_167 : decode cX8_addFlow 167 = .ok (.invokevirtual 175, 3) := by decide +kernel
theorem dX8_addFlow_170 : decode cX8_addFlow 170 = .ok (.aload_n 0, 1) := by decide +kernel
theorem dX8_addFlow_171 : decode cX8_addFlow 171 = .ok (.aload_n 0, 1) := by decide +kernel
theorem dX8_addFlow_172 : decode cX8_addFlow 172 = .ok (.getfield 52, 3) := by decide +kernel
theorem dX8_addFlow_175 : decode cX8_addFlow 175 = .ok (.aload_n 0, 1) := by decide +kernel
theorem dX8_addFlow_176 : decode cX8_addFlow 176 = .ok (.getfield 46, 3) := by decide +kernel
theorem dX8_addFlow_179 : decode cX8_addFlow 179 = .ok (.invokevirtual 178, 3) := by decide +kernel
theorem dX8_addFlow_182 : decode cX8_addFlow 182 = .ok (.iinc 4 1, 3) := by decide +kernel
theorem dX8_addFlow_185 : decode cX8_addFlow 185 = .ok (.goto (-182), 3) := by decide +kernel
theorem dX8_addFlow_188 : decode cX8_addFlow 188 = .ok (.return_, 1) := by decide +kernel
theorem dX8_told__0 : decode cX8_told_ 0 = .ok (.iload_n 1, 1) := by decide +kernel
theorem dX8_told__1 : decode cX8_told_ 1 = .ok (.ifCond .ne 8, 3) := by decide +kernel
theorem dX8_told__4 : decode cX8_told_ 4 = .ok (.aload_n 0, 1) := by decide +kernel
theorem dX8_told__5 : decode cX8_told_ 5 = .ok (.getfield 110, 3) := by decide +kernel
theorem dX8_told__8 : decode cX8_told_ 8 = .ok (.ireturn, 1) := by decide +kernel
theorem dX8_told__9 : decode cX8_told_ 9 = .ok (.iload_n 1, 1) := by decide +kernel
theorem dX8_told__10 : decode cX8_told_ 10 = .ok (.iconst 1, 1) := by decide +kernel
theorem dX8_told__11 : decode cX8_told_ 11 = .ok (.if_icmp .ne 8, 3) := by decide +kernel
theorem dX8_told__14 : decode cX8_told_ 14 = .ok (.aload_n 0, 1) := by decide +kernel
theorem dX8_told__15 : decode cX8_told_ 15 = .ok (.getfield 113, 3) := by decide +kernel
theorem dX8_told__18 : decode cX8_told_ 18 = .ok (.ireturn, 1) := by decide +kernel
theorem dX8_told__19 : decode cX8_told_ 19 = .ok (.iload_n 1, 1) := by decide +kernel
theorem dX8_told__20 : decode cX8_told_ 20 = .ok (.ifCond .lt 8, 3) := by decide +kernel
theorem dX8_told__23 : decode cX8_told_ 23 = .ok (.iload_n 1, 1) := by decide +kernel
theorem dX8_told__24 : decode cX8_told_ 24 = .ok (.iconst 5, 1) := by decide +kernel
theorem dX8_told__25 : decode cX8_told_ 25 = .ok (.if_icmp .le 5, 3) := by decide +kernel
theorem dX8_told__28 : decode cX8_told_ 28 = .ok (.iconst (-1), 1) := by decide +kernel
theorem dX8_told__29 : decode cX8_told_ 29 = .ok (.ireturn, 1) := by decide +kernel
theorem dX8_told__30 : decode cX8_told_ 30 = .ok (.iconst 0, 1) := by decide +kernel
theorem dX8_told__31 : decode cX8_told_ 31 = .ok (.istore_n 2, 1) := by decide +kernel
theorem dX8_told__32 : decode cX8_told_ 32 = .ok (.iload_n 1, 1) := by decide +kernel
theorem dX8_told__33 : decode cX8_told_ 33 = .ok (.iconst 2, 1) := by decide +kernel
theorem dX8_told__34 : decode cX8_told_ 34 = .ok (.if_icmp .ne 36, 3) := by decide +kernel
theorem dX8_told__37 : decode cX8_told_ 37 = .ok (.iconst 0, 1) := by decide +kernel
theorem dX8_told__38 : decode cX8_told_ 38 = .ok (.istore_n 3, 1) := by decide +kernel
theorem dX8_told__39 : decode cX8_told_ 39 = .ok (.iload_n 3, 1) := by decide +kernel
theorem dX8_told__40 : decode cX8_told_ 40 = .ok (.aload_n 0, 1) := by decide +kernel
theorem dX8_told__41 : decode cX8_told_ 41 = .ok (.getfield 113, 3) := by decide +kernel
theorem dX8_told__44 : decode cX8_told_ 44 = .ok (.if_icmp .ge 26, 3) := by decide +kernel
theorem dX8_told__47 : decode cX8_told_ 47 = .ok (.iload_n 2, 1) := by decide +kernel
theorem dX8_told__48 : decode cX8_told_ 48 = .ok (.aload_n 0, 1) := by decide +kernel
theorem dX8_told__49 : decode cX8_told_ 49 = .ok (.getfield 16, 3) := by decide +kernel
theorem dX8_told__52 : decode cX8_told_ 52 = .ok (.iload_n 3, 1) := by decide +kernel
theorem dX8_told__53 : decode cX8_told_ 53 = .ok (.iaload, 1) := by decide +kernel
theorem dX8_told__54 : decode cX8_told_ 54 = .ok (.ifCond .le 7, 3) := by decide +kernel
theorem dX8_told__57 : decode cX8_told_ 57 = .ok (.iconst 1, 1) := by decide +kernel
theorem dX8_told__58 : decode cX8_told_ 58 = .ok (.goto 4, 3) := by decide +kernel
theorem dX8_told__61 : decode cX8_told_ 61 = .ok (.iconst 0, 1) := by decide +kernel
theorem dX8_told__62 : decode cX8_told_ 62 = .ok (.iadd, 1) := by decide +kernel
theorem dX8_told__63 : decode cX8_told_ 63 = .ok (.istore_n 2, 1) := by decide +kernel
theorem dX8_told__64 : decode cX8_told_ 64 = .ok (.iinc 3 1, 3) := by decide +kernel
theorem dX8_told__67 : decode cX8_told_ 67 = .ok (.goto (-28), 3) := by decide +kernel
theorem dX8_told__70 : decode cX8_told_ 70 = .ok (.iload_n 1, 1) := by decide +kernel
theorem dX8_told__71 : decode cX8_told_ 71 = .ok (.iconst 3, 1) := by decide +kernel
theorem dX8_told__72 : decode cX8_told_ 72 = .ok (.if_icmp .ne 59, 3) := by decide +kernel
theorem dX8_told__75 : decode cX8_told_ 75 = .ok (.aload_n 0, 1) := by decide +kernel
theorem dX8_told__76 : decode cX8_told_ 76 = .ok (.invokevirtual 135, 3) := by decide +kernel
theorem dX8_told__79 : decode cX8_told_ 79 = .ok (.iconst 0, 1) := by decide +kernel
theorem dX8_told__80 : decode cX8_told_ 80 = .ok (.istore_n 3, 1) := by decide +kernel
theorem dX8_told__81 : decode cX8_told_ 81 = .ok (.iload_n 3, 1) := by decide +kernel
theorem dX8_told__82 : decode cX8_told_ 82 = .ok (.aload_n 0, 1) := by decide +kernel
theorem dX8_told__83 : decode cX8_told_ 83 = .ok (.getfield 110, 3) := by decide +kernel
theorem dX8_told__86 : decode cX8_told_ 86 = .ok (.if_icmp .ge 45, 3) := by decide +kernel
theorem dX8_told__89 : decode cX8_told_ 89 = .ok (.iconst 0, 1) := by decide +kernel
theorem dX8_told__90 : decode cX8_told_ 90 = .ok (.istore 4, 2) := by decide +kernel
theorem dX8_told__92 : decode cX8_told_ 92 = .ok (.iload 4, 2) := by decide +kernel
theorem dX8_told__94 : decode cX8_told_ 94 = .ok (.aload_n 0, 1) := by decide +kernel
theorem dX8_told__95 : decode cX8_told_ 95 = .ok (.getfield 110, 3) := by decide +kernel
theorem dX8_told__98 : decode cX8_told_ 98 = .ok (.if_icmp .ge 27, 3) := by decide +kernel
theorem dX8_told__101 : decode cX8_told_ 101 = .ok (.iload_n 2, 1) := by decide +kernel
theorem dX8_told__102 : decode cX8_told_ 102 = .ok (.aload_n 0, 1) := by decide +kernel
theorem dX8_told__103 : decode cX8_told_ 103 = .ok (.iload_n 3, 1) := by decide +kernel
theorem dX8_told__104 : decode cX8_told_ 104 = .ok (.iload 4, 2) := by decide +kernel
theorem dX8_told__106 : decode cX8_told_ 106 = .ok (.invokevirtual 148, 3) := by decide +kernel
theorem dX8_told__109 : decode cX8_told_ 109 = .ok (.ifCond .eq 7, 3) := by decide +kernel
theorem dX8_told__112 : decode cX8_told_ 112 = .ok (.iconst 1, 1) := by decide +kernel
theorem dX8_told__113 : decode cX8_told_ 113 = .ok (.goto 4, 3) := by decide +kernel
theorem dX8_told__116 : decode cX8_told_ 116 = .ok (.iconst 0, 1) := by decide +kernel
theorem dX8_told__117 : decode cX8_told_ 117 = .ok (.iadd, 1) := by decide +kernel
theorem dX8_told__118 : decode cX8_told_ 118 = .ok (.istore_n 2, 1) := by decide +kernel
theorem dX8_told__119 : decode cX8_told_ 119 = .ok (.iinc 4 1, 3) := by decide +kernel
theorem dX8_told__122 : decode cX8_told_ 122 = .ok (.goto (-30), 3) := by decide +kernel
theorem dX8_told__125 : decode cX8_told_ 125 = .ok (.iinc 3 1, 3) := by decide +kernel
theorem dX8_told__128 : decode cX8_told_ 128 = .ok (.goto (-47), 3) := by decide +kernel
theorem dX8_told__131 : decode cX8_told_ 131 = .ok (.iload_n 1, 1) := by decide +kernel
theorem dX8_told__132 : decode cX8_told_ 132 = .ok (.iconst 4, 1) := by decide +kernel
theorem dX8_told__133 : decode cX8_told_ 133 = .ok (.if_icmp .ne 36, 3) := by decide +kernel
theorem dX8_told__136 : decode cX8_told_ 136 = .ok (.iconst 0, 1) := by decide +kernel
theorem dX8_told__137 : decode cX8_told_ 137 = .ok (.istore_n 3, 1) := by decide +kernel
theorem dX8_told__138 : decode cX8_told_ 138 = .ok (.iload_n 3, 1) := by decide +kernel
theorem dX8_told__139 : decode cX8_told_ 139 = .ok (.aload_n 0, 1) := by decide +kernel
theorem dX8_told__140 : decode cX8_told_ 140 = .ok (.getfield 110, 3) := by decide +kernel
theorem dX8_told__143 : decode cX8_told_ 143 = .ok (.if_icmp .ge 26, 3) := by decide +kernel
theorem dX8_told__146 : decode cX8_told_ 146 = .ok (.iload_n 2, 1) := by decide +kernel
theorem dX8_told__147 : decode cX8_told_ 147 = .ok (.aload_n 0, 1) := by decide +kernel
theorem dX8_told__148 : decode cX8_told_ 148 = .ok (.iload_n 3, 1) := by decide +kernel
theorem dX8_told__149 : decode cX8_told_ 149 = .ok (.iconst 0, 1) := by decide +kernel
theorem dX8_told__150 : decode cX8_told_ 150 = .ok (.invokevirtual 126, 3) := by decide +kernel
theorem dX8_told__153 : decode cX8_told_ 153 = .ok (.ifCond .eq 7, 3) := by decide +kernel
theorem dX8_told__156 : decode cX8_told_ 156 = .ok (.iconst 1, 1) := by decide +kernel
theorem dX8_told__157 : decode cX8_told_ 157 = .ok (.goto 4, 3) := by decide +kernel
theorem dX8_told__160 : decode cX8_told_ 160 = .ok (.iconst 0, 1) := by decide +kernel
theorem dX8_told__161 : decode cX8_told_ 161 = .ok (.iadd, 1) := by decide +kernel
theorem dX8_told__162 : decode cX8_told_ 162 = .ok (.istore_n 2, 1) := by decide +kernel
theorem dX8_told__163 : decode cX8_told_ 163 = .ok (.iinc 3 1, 3) := by decide +kernel
theorem dX8_told__166 : decode cX8_told_ 166 = .ok (.goto (-28), 3) := by decide +kernel
theorem dX8_told__169 : decode cX8_told_ 169 = .ok (.iload_n 1, 1) := by decide +kernel
theorem dX8_told__170 : decode cX8_told_ 170 = .ok (.iconst 5, 1) := by decide +kernel
theorem dX8_told__171 : decode cX8_told_ 171 = .ok (.if_icmp .ne 42, 3) := by decide +kernel
theorem dX8_told__174 : decode cX8_told_ 174 = .ok (.iconst 0, 1) := by decide +kernel
theorem dX8_told__175 : decode cX8_told_ 175 = .ok (.istore_n 3, 1) := by decide +kernel
theorem dX8_told__176 : decode cX8_told_ 176 = .ok (.iload_n 3, 1) := by decide +kernel
theorem dX8_told__177 : decode cX8_told_ 177 = .ok (.aload_n 0, 1) := by decide +kernel
theorem dX8_told__178 : decode cX8_told_ 178 = .ok (.getfield 110, 3) := by decide +kernel
theorem dX8_told__181 : decode cX8_told_ 181 = .ok (.if_icmp .ge 32, 3) := by decide +kernel
theorem dX8_told__184 : decode cX8_told_ 184 = .ok (.aload_n 0, 1) := by decide +kernel
theorem dX8_told__185 : decode cX8_told_ 185 = .ok (.iload_n 3, 1) := by decide +kernel
theorem dX8_told__186 : decode cX8_told_ 186 = .ok (.invokevirtual 244, 3) := by decide +kernel
theorem dX8_told__189 : decode cX8_told_ 189 = .ok (.iload_n 2, 1) := by decide +kernel
theorem dX8_told__190 : decode cX8_told_ 190 = .ok (.aload_n 0, 1) := by decide +kernel
theorem dX8_told__191 : decode cX8_told_ 191 = .ok (.getfield 86, 3) := by decide +kernel
theorem dX8_told__194 : decode cX8_told_ 194 = .ok (.iconst 0, 1) := by decide +kernel
theorem dX8_told__195 : decode cX8_told_ 195 = .ok (.iaload, 1) := by decide +kernel
theorem dX8_told__196 : decode cX8_told_ 196 = .ok (.iload_n 3, 1) := by decide +kernel
theorem dX8_told__197 : decode cX8_told_ 197 = .ok (.if_icmp .ne 7, 3) := by decide +kernel
theorem dX8_told__200 : decode cX8_told_ 200 = .ok (.iconst 1, 1) := by decide +kernel
theorem dX8_told__201 : decode cX8_told_ 201 = .ok (.goto 4, 3) := by decide +kernel
theorem dX8_told__204 : decode cX8_told_ 204 = .ok (.iconst 0, 1) := by decide +kernel
theorem dX8_told__205 : decode cX8_told_ 205 = .ok (.iadd, 1) := by decide +kernel
theorem dX8_told__206 : decode cX8_told_ 206 = .ok (.istore_n 2, 1) := by decide +kernel
theorem dX8_told__207 : decode cX8_told_ 207 = .ok (.iinc 3 1, 3) := by decide +kernel
theorem dX8_told__210 : decode cX8_told_ 210 = .ok (.goto (-34), 3) := by decide +kernel
theorem dX8_told__213 : decode cX8_told_ 213 = .ok (.iload_n 2, 1) := by decide +kernel
theorem dX8_told__214 : decode cX8_told_ 214 = .ok (.ireturn, 1) := by decide +kernel
theorem dJ9_max_7cf53_0 : decode cJ9_max_7cf53 0 = .ok (.iload_n 0, 1) := by decide +kernel
theorem dJ9_max_7cf53_1 : decode cJ9_max_7cf53 1 = .ok (.iload_n 1, 1) := by decide +kernel
theorem dJ9_max_7cf53_2 : decode cJ9_max_7cf53 2 = .ok (.if_icmp .lt 7, 3) := by decide +kernel
theorem dJ9_max_7cf53_5 : decode cJ9_max_7cf53 5 = .ok (.iload_n 0, 1) := by decide +kernel
theorem dJ9_max_7cf53_6 : decode cJ9_max_7cf53 6 = .ok (.goto 4, 3) := by decide +kernel
theorem dJ9_max_7cf53_9 : decode cJ9_max_7cf53 9 = .ok (.iload_n 1, 1) := by decide +kernel
theorem dJ9_max_7cf53_10 : decode cJ9_max_7cf53 10 = .ok (.ireturn, 1) := by decide +kernel
theorem dJ9_min_7cf53_0 : decode cJ9_min_7cf53 0 = .ok (.iload_n 0, 1) := by decide +kernel
theorem dJ9_min_7cf53_1 : decode cJ9_min_7cf53 1 = .ok (.iload_n 1, 1) := by decide +kernel
theorem dJ9_min_7cf53_2 : decode cJ9_min_7cf53 2 = .ok (.if_icmp .gt 7, 3) := by decide +kernel
theorem dJ9_min_7cf53_5 : decode cJ9_min_7cf53 5 = .ok (.iload_n 0, 1) := by decide +kernel
theorem dJ9_min_7cf53_6 : decode cJ9_min_7cf53 6 = .ok (.goto 4, 3) := by decide +kernel
theorem dJ9_min_7cf53_9 : decode cJ9_min_7cf53 9 = .ok (.iload_n 1, 1) := by decide +kernel
theorem dJ9_min_7cf53_10 : decode cJ9_min_7cf53 10 = .ok (.ireturn, 1) := by decide +kernel
theorem dJ7_fill_53178_0 : decode cJ7_fill_53178 0 = .ok (.iconst 0, 1) := by decide +kernel
theorem dJ7_fill_53178_1 : decode cJ7_fill_53178 1 = .ok (.istore_n 2, 1) := by decide +kernel
theorem dJ7_fill_53178_2 : decode cJ7_fill_53178 2 = .ok (.aload_n 0, 1) := by decide +kernel
theorem dJ7_fill_53178_3 : decode cJ7_fill_53178 3 = .ok (.arraylength, 1) := by decide +kernel
theorem dJ7_fill_53178_4 : decode cJ7_fill_53178 4 = .ok (.istore_n 3, 1) := by decide +kernel
theorem dJ7_fill_53178_5 : decode cJ7_fill_53178 5 = .ok (.iload_n 2, 1) := by decide +kernel
theorem dJ7_fill_53178_6 : decode cJ7_fill_53178 6 = .ok (.iload_n 3, 1) := by decide +kernel
theorem dJ7_fill_53178_7 : decode cJ7_fill_53178 7 = .ok (.if_icmp .ge 13, 3) := by decide +kernel
theorem dJ7_fill_53178_10 : decode cJ7_fill_53178 10 = .ok (.aload_n 0, 1) := by decide +kernel
theorem dJ7_fill_53178_11 : decode cJ7_fill_53178 11 = .ok (.iload_n 2, 1) := by decide +kernel
theorem dJ7_fill_53178_12 : decode cJ7_fill_53178 12 = .ok (.iload_n 1, 1) := by decide +kernel
theorem dJ7_fill_53178_13 : decode cJ7_fill_53178 13 = .ok (.iastore, 1) := by decide +kernel
theorem dJ7_fill_53178_14 : decode cJ7_fill_53178 14 = .ok (.iinc 2 1, 3) := by decide +kernel
theorem dJ7_fill_53178_17 : decode cJ7_fill_53178 17 = .ok (.goto (-12), 3) := by decide +kernel
theorem dJ7_fill_53178_20 : decode cJ7_fill_53178 20 = .ok (.return_, 1) := by decide +kernel
theorem dL_law_0 : decode cL_law 0 = .ok (.new 7, 3) := by decide +kernel
theorem dL_law_3 : decode cL_law 3 = .ok (.dup, 1) := by decide +kernel
theorem dL_law_4 : decode cL_law 4 = .ok (.invokespecial 9, 3) := by decide +kernel
theorem dL_law_7 : decode cL_law 7 = .ok (.astore_n 1, 1) := by decide +kernel
theorem dL_law_8 : decode cL_law 8 = .ok (.new 10, 3) := by decide +kernel
theorem dL_law_11 : decode cL_law 11 = .ok (.dup, 1) := by decide +kernel
theorem dL_law_12 : decode cL_law 12 = .ok (.invokespecial 12, 3) := by decide +kernel
theorem dL_law_15 : decode cL_law 15 = .ok (.astore_n 2, 1) := by decide +kernel
theorem dL_law_16 : decode cL_law 16 = .ok (.iconst 0, 1) := by decide +kernel
theorem dL_law_17 : decode cL_law 17 = .ok (.istore_n 3, 1) := by decide +kernel
theorem dL_law_18 : decode cL_law 18 = .ok (.iload_n 3, 1) := by decide +kernel
theorem dL_law_19 : decode cL_law 19 = .ok (.aload_n 0, 1) := by decide +kernel
theorem dL_law_20 : decode cL_law 20 = .ok (.arraylength, 1) := by decide +kernel
theorem dL_law_21 : decode cL_law 21 = .ok (.iconst 5, 1) := by decide +kernel
theorem dL_law_22 : decode cL_law 22 = .ok (.isub, 1) := by decide +kernel
theorem dL_law_23 : decode cL_law 23 = .ok (.if_icmp .gt 661, 3) := by decide +kernel
theorem dL_law_26 : decode cL_law 26 = .ok (.aload_n 0, 1) := by decide +kernel
theorem dL_law_27 : decode cL_law 27 = .ok (.iload_n 3, 1) := by decide +kernel
theorem dL_law_28 : decode cL_law 28 = .ok (.iaload, 1) := by decide +kernel
theorem dL_law_29 : decode cL_law 29 = .ok (.bipush 15, 2) := by decide +kernel
theorem dL_law_31 : decode cL_law 31 = .ok (.iand, 1) := by decide +kernel
theorem dL_law_32 : decode cL_law 32 = .ok (.tableswitch 646 0 15 #[80, 93, 136, 169, 202, 235, 268, 292, 336, 380, 414, 458, 502, 525, 579, 623], 80) := by decide +kernel
theorem dL_law_112 : decode cL_law 112 = .ok (.aload_n 1, 1) := by decide +kernel
theorem dL_law_113 : decode cL_law 113 = .ok (.invokevirtual 13, 3) := by decide +kernel
theorem dL_law_116 : decode cL_law 116 = .ok (.aload_n 2, 1) := by decide +kernel
theorem dL_law_117 : decode cL_law 117 = .ok (.invokevirtual 17, 3) := by decide +kernel
theorem dL_law_120 : decode cL_law 120 = .ok (.if_icmp .eq 558, 3) := by decide +kernel
theorem dL_law_123 : decode cL_law 123 = .ok (.iconst 0, 1) := by decide +kernel
theorem dL_law_124 : decode cL_law 124 = .ok (.ireturn, 1) := by decide +kernel
theorem dL_law_125 : decode cL_law 125 = .ok (.aload_n 1, 1) := by decide +kernel
theorem dL_law_126 : decode cL_law 126 = .ok (.aload_n 0, 1) := by decide +kernel
theorem dL_law_127 : decode cL_law 127 = .ok (.iload_n 3, 1) := by decide +kernel
theorem dL_law_128 : decode cL_law 128 = .ok (.iconst 1, 1) := by decide +kernel
theorem dL_law_129 : decode cL_law 129 = .ok (.iadd, 1) := by decide +kernel
theorem dL_law_130 : decode cL_law 130 = .ok (.iaload, 1) := by decide +kernel
theorem dL_law_131 : decode cL_law 131 = .ok (.aload_n 0, 1) := by decide +kernel
theorem dL_law_132 : decode cL_law 132 = .ok (.iload_n 3, 1) := by decide +kernel
theorem dL_law_133 : decode cL_law 133 = .ok (.iconst 2, 1) := by decide +kernel
theorem dL_law_134 : decode cL_law 134 = .ok (.iadd, 1) := by decide +kernel
theorem dL_law_135 : decode cL_law 135 = .ok (.iaload, 1) := by decide +kernel
theorem dL_law_136 : decode cL_law 136 = .ok (.aload_n 0, 1) := by decide +kernel
theorem dL_law_137 : decode cL_law 137 = .ok (.iload_n 3, 1) := by decide +kernel
theorem dL_law_138 : decode cL_law 138 = .ok (.iconst 3, 1) := by decide +kernel
theorem dL_law_139 : decode cL_law 139 = .ok (.iadd, 1) := by decide +kernel
theorem dL_law_140 : decode cL_law 140 = .ok (.iaload, 1) := by decide +kernel
theorem dL_law_141 : decode cL_law 141 = .ok (.invokevirtual 18, 3) := by decide +kernel
theorem dL_law_144 : decode cL_law 144 = .ok (.aload_n 2, 1) := by decide +kernel
theorem dL_law_145 : decode cL_law 145 = .ok (.aload_n 0, 1) := by decide +kernel
theorem dL_law_146 : decode cL_law 146 = .ok (.iload_n 3, 1) := by decide +kernel
theorem dL_law_147 : decode cL_law 147 = .ok (.iconst 1, 1) := by decide +kernel
theorem dL_law_148 : decode cL_law 148 = .ok (.iadd, 1) := by decide +kernel
theorem dL_law_149 : decode cL_law 149 = .ok (.iaload, 1) := by decide +kernel
theorem dL_law_150 : decode cL_law 150 = .ok (.aload_n 0, 1) := by decide +kernel
theorem dL_law_151 : decode cL_law 151 = .ok (.iload_n 3, 1) := by decide +kernel
theorem dL_law_152 : decode cL_law 152 = .ok (.iconst 2, 1) := by decide +kernel
theorem dL_law_153 : decode cL_law 153 = .ok (.iadd, 1) := by decide +kernel
theorem dL_law_154 : decode cL_law 154 = .ok (.iaload, 1) := by decide +kernel
theorem dL_law_155 : decode cL_law 155 = .ok (.aload_n 0, 1) := by decide +kernel
theorem dL_law_156 : decode cL_law 156 = .ok (.iload_n 3, 1) := by decide +kernel
theorem dL_law_157 : decode cL_law 157 = .ok (.iconst 3, 1) := by decide +kernel
theorem dL_law_158 : decode cL_law 158 = .ok (.iadd, 1) := by decide +kernel
theorem dL_law_159 : decode cL_law 159 = .ok (.iaload, 1) := by decide +kernel
theorem dL_law_160 : decode cL_law 160 = .ok (.invokevirtual 22, 3) := by decide +kernel
theorem dL_law_163 : decode cL_law 163 = .ok (.if_icmp .eq 515, 3) := by decide +kernel
theorem dL_law_166 : decode cL_law 166 = .ok (.iconst 0, 1) := by decide +kernel
theorem dL_law_167 : decode cL_law 167 = .ok (.ireturn, 1) := by decide +kernel
theorem dL_law_168 : decode cL_law 168 = .ok (.aload_n 1, 1) := by decide +kernel
theorem dL_law_169 : decode cL_law 169 = .ok (.aload_n 0, 1) := by decide +kernel
theorem dL_law_170 : decode cL_law 170 = .ok (.iload_n 3, 1) := by decide +kernel
theorem dL_law_171 : decode cL_law 171 = .ok (.iconst 1, 1) := by decide +kernel
theorem dL_law_172 : decode cL_law 172 = .ok (.iadd, 1) := by decide +kernel
theorem dL_law_173 : decode cL_law 173 = .ok (.iaload, 1) := by decide +kernel
theorem dL_law_174 : decode cL_law 174 = .ok (.aload_n 0, 1) := by decide +kernel
theorem dL_law_175 : decode cL_law 175 = .ok (.iload_n 3, 1) := by decide +kernel
theorem dL_law_176 : decode cL_law 176 = .ok (.iconst 2, 1) := by decide +kernel
theorem dL_law_177 : decode cL_law 177 = .ok (.iadd, 1) := by decide +kernel
theorem dL_law_178 : decode cL_law 178 = .ok (.iaload, 1) := by decide +kernel
theorem dL_law_179 : decode cL_law 179 = .ok (.invokevirtual 23, 3) := by decide +kernel
theorem dL_law_182 : decode cL_law 182 = .ok (.aload_n 2, 1) := by decide +kernel
theorem dL_law_183 : decode cL_law 183 = .ok (.aload_n 0, 1) := by decide +kernel
theorem dL_law_184 : decode cL_law 184 = .ok (.iload_n 3, 1) := by decide +kernel
theorem dL_law_185 : decode cL_law 185 = .ok (.iconst 1, 1) := by decide +kernel
theorem dL_law_186 : decode cL_law 186 = .ok (.iadd, 1) := by decide +kernel
theorem dL_law_187 : decode cL_law 187 = .ok (.iaload, 1) := by decide +kernel
theorem dL_law_188 : decode cL_law 188 = .ok (.aload_n 0, 1) := by decide +kernel
theorem dL_law_189 : decode cL_law 189 = .ok (.iload_n 3, 1) := by decide +kernel
theorem dL_law_190 : decode cL_law 190 = .ok (.iconst 2, 1) := by decide +kernel
theorem dL_law_191 : decode cL_law 191 = .ok (.iadd, 1) := by decide +kernel
theorem dL_law_192 : decode cL_law 192 = .ok (.iaload, 1) := by decide +kernel
theorem dL_law_193 : decode cL_law 193 = .ok (.invokevirtual 27, 3) := by decide +kernel
theorem dL_law_196 : decode cL_law 196 = .ok (.if_icmp .eq 482, 3) := by decide +kernel
theorem dL_law_199 : decode cL_law 199 = .ok (.iconst 0, 1) := by decide +kernel
theorem dL_law_200 : decode cL_law 200 = .ok (.ireturn, 1) := by decide +kernel
theorem dL_law_201 : decode cL_law 201 = .ok (.aload_n 1, 1) := by decide +kernel
theorem dL_law_202 : decode cL_law 202 = .ok (.aload_n 0, 1) := by decide +kernel
theorem dL_law_203 : decode cL_law 203 = .ok (.iload_n 3, 1) := by decide +kernel
theorem dL_law_204 : decode cL_law 204 = .ok (.iconst 1, 1) := by decide +kernel
theorem dL_law_205 : decode cL_law 205 = .ok (.iadd, 1) := by decide +kernel
theorem dL_law_206 : decode cL_law 206 = .ok (.iaload, 1) := by decide +kernel
theorem dL_law_207 : decode cL_law 207 = .ok (.aload_n 0, 1) := by decide +kernel
theorem dL_law_208 : decode cL_law 208 = .ok (.iload_n 3, 1) := by decide +kernel
theorem dL_law_209 : decode cL_law 209 = .ok (.iconst 2, 1) := by decide +kernel
theorem dL_law_210 : decode cL_law 210 = .ok (.iadd, 1) := by decide +kernel
theorem dL_law_211 : decode cL_law 211 = .ok (.iaload, 1) := by decide +kernel
theorem dL_law_212 : decode cL_law 212 = .ok (.invokevirtual 28, 3) := by decide +kernel
theorem dL_law_215 : decode cL_law 215 = .ok (.aload_n 2, 1) := by decide +kernel
theorem dL_law_216 : decode cL_law 216 = .ok (.aload_n 0, 1) := by decide +kernel
theorem dL_law_217 : decode cL_law 217 = .ok (.iload_n 3, 1) := by decide +kernel
theorem dL_law_218 : decode cL_law 218 = .ok (.iconst 1, 1) := by decide +kernel
theorem dL_law_219 : decode cL_law 219 = .ok (.iadd, 1) := by decide +kernel
theorem dL_law_220 : decode cL_law 220 = .ok (.iaload, 1) := by decide +kernel
theorem dL_law_221 : decode cL_law 221 = .ok (.aload_n 0, 1) := by decide +kernel
theorem dL_law_222 : decode cL_law 222 = .ok (.iload_n 3, 1) := by decide +kernel
theorem dL_law_223 : decode cL_law 223 = .ok (.iconst 2, 1) := by decide +kernel
theorem dL_law_224 : decode cL_law 224 = .ok (.iadd, 1) := by decide +kernel
theorem dL_law_225 : decode cL_law 225 = .ok (.iaload, 1) := by decide +kernel
theorem dL_law_226 : decode cL_law 226 = .ok (.invokevirtual 32, 3) := by decide +kernel
theorem dL_law_229 : decode cL_law 229 = .ok (.if_icmp .eq 449, 3) := by decide +kernel
theorem dL_law_232 : decode cL_law 232 = .ok (.iconst 0, 1) := by decide +kernel
theorem dL_law_233 : decode cL_law 233 = .ok (.ireturn, 1) := by decide +kernel
theorem dL_law_234 : decode cL_law 234 = .ok (.aload_n 1, 1) := by decide +kernel
theorem dL_law_235 : decode cL_law 235 = .ok (.aload_n 0, 1) := by decide +kernel
theorem dL_law_236 : decode cL_law 236 = .ok (.iload_n 3, 1) := by decide +kernel
theorem dL_law_237 : decode cL_law 237 = .ok (.iconst 1, 1) := by decide +kernel
theorem dL_law_238 : decode cL_law 238 = .ok (.iadd, 1) := by decide +kernel
theorem dL_law_239 : decode cL_law 239 = .ok (.iaload, 1) := by decide +kernel
theorem dL_law_240 : decode cL_law 240 = .ok (.aload_n 0, 1) := by decide +kernel
theorem dL_law_241 : decode cL_law 241 = .ok (.iload_n 3, 1) := by decide +kernel
theorem dL_law_242 : decode cL_law 242 = .ok (.iconst 2, 1) := by decide +kernel
theorem dL_law_243 : decode cL_law 243 = .ok (.iadd, 1) := by decide +kernel
theorem dL_law_244 : decode cL_law 244 = .ok (.iaload, 1) := by decide +kernel
theorem dL_law_245 : decode cL_law 245 = .ok (.invokevirtual 33, 3) := by decide +kernel
theorem dL_law_248 : decode cL_law 248 = .ok (.aload_n 2, 1) := by decide +kernel
theorem dL_law_249 : decode cL_law 249 = .ok (.aload_n 0, 1) := by decide +kernel
theorem dL_law_250 : decode cL_law 250 = .ok (.iload_n 3, 1) := by decide +kernel
theorem dL_law_251 : decode cL_law 251 = .ok (.iconst 1, 1) := by decide +kernel
theorem dL_law_252 : decode cL_law 252 = .ok (.iadd, 1) := by decide +kernel
theorem dL_law_253 : decode cL_law 253 = .ok (.iaload, 1) := by decide +kernel
theorem dL_law_254 : decode cL_law 254 = .ok (.aload_n 0, 1) := by decide +kernel
theorem dL_law_255 : decode cL_law 255 = .ok (.iload_n 3, 1) := by decide +kernel
theorem dL_law_256 : decode cL_law 256 = .ok (.iconst 2, 1) := by decide +kernel
theorem dL_law_257 : decode cL_law 257 = .ok (.iadd, 1) := by decide +kernel
theorem dL_law_258 : decode cL_law 258 = .ok (.iaload, 1) := by decide +kernel
theorem dL_law_259 : decode cL_law 259 = .ok (.invokevirtual 36, 3) := by decide +kernel
theorem dL_law_262 : decode cL_law 262 = .ok (.if_icmp .eq 416, 3) := by decide +kernel
theorem dL_law_265 : decode cL_law 265 = .ok (.iconst 0, 1) := by decide +kernel
theorem dL_law_266 : decode cL_law 266 = .ok (.ireturn, 1) := by decide +kernel
theorem dL_law_267 : decode cL_law 267 = .ok (.aload_n 1, 1) := by decide +kernel
theorem dL_law_268 : decode cL_law 268 = .ok (.aload_n 0, 1) := by decide +kernel
theorem dL_law_269 : decode cL_law 269 = .ok (.iload_n 3, 1) := by decide +kernel
theorem dL_law_270 : decode cL_law 270 = .ok (.iconst 1, 1) := by decide +kernel
theorem dL_law_271 : decode cL_law 271 = .ok (.iadd, 1) := by decide +kernel
theorem dL_law_272 : decode cL_law 272 = .ok (.iaload, 1) := by decide +kernel
theorem dL_law_273 : decode cL_law 273 = .ok (.aload_n 0, 1) := by decide +kernel
theorem dL_law_274 : decode cL_law 274 = .ok (.iload_n 3, 1) := by decide +kernel
theorem dL_law_275 : decode cL_law 275 = .ok (.iconst 2, 1) := by decide +kernel
theorem dL_law_276 : decode cL_law 276 = .ok (.iadd, 1) := by decide +kernel
theorem dL_law_277 : decode cL_law 277 = .ok (.iaload, 1) := by decide +kernel
theorem dL_law_278 : decode cL_law 278 = .ok (.invokevirtual 37, 3) := by decide +kernel
theorem dL_law_281 : decode cL_law 281 = .ok (.aload_n 2, 1) := by decide +kernel
theorem dL_law_282 : decode cL_law 282 = .ok (.aload_n 0, 1) := by decide +kernel
theorem dL_law_283 : decode cL_law 283 = .ok (.iload_n 3, 1) := by decide +kernel
theorem dL_law_284 : decode cL_law 284 = .ok (.iconst 1, 1) := by decide +kernel
theorem dL_law_285 : decode cL_law 285 = .ok (.iadd, 1) := by decide +kernel
theorem dL_law_286 : decode cL_law 286 = .ok (.iaload, 1) := by decide +kernel
theorem dL_law_287 : decode cL_law 287 = .ok (.aload_n 0, 1) := by decide +kernel
theorem dL_law_288 : decode cL_law 288 = .ok (.iload_n 3, 1) := by decide +kernel
theorem dL_law_289 : decode cL_law 289 = .ok (.iconst 2, 1) := by decide +kernel
theorem dL_law_290 : decode cL_law 290 = .ok (.iadd, 1) := by decide +kernel
theorem dL_law_291 : decode cL_law 291 = .ok (.iaload, 1) := by decide +kernel
theorem dL_law_292 : decode cL_law 292 = .ok (.invokevirtual 40, 3) := by decide +kernel
theorem dL_law_295 : decode cL_law 295 = .ok (.if_icmp .eq 383, 3) := by decide +kernel
theorem dL_law_298 : decode cL_law 298 = .ok (.iconst 0, 1) := by decide +kernel
theorem dL_law_299 : decode cL_law 299 = .ok (.ireturn, 1) := by decide +kernel
theorem dL_law_300 : decode cL_law 300 = .ok (.aload_n 1, 1) := by decide +kernel
theorem dL_law_301 : decode cL_law 301 = .ok (.aload_n 0, 1) := by decide +kernel
theorem dL_law_302 : decode cL_law 302 = .ok (.iload_n 3, 1) := by decide +kernel
theorem dL_law_303 : decode cL_law 303 = .ok (.iconst 1, 1) := by decide +kernel
theorem dL_law_304 : decode cL_law 304 = .ok (.iadd, 1) := by decide +kernel
theorem dL_law_305 : decode cL_law 305 = .ok (.iaload, 1) := by decide +kernel
theorem dL_law_306 : decode cL_law 306 = .ok (.invokevirtual 41, 3) := by decide +kernel
theorem dL_law_309 : decode cL_law 309 = .ok (.aload_n 2, 1) := by decide +kernel
theorem dL_law_310 : decode cL_law 310 = .ok (.aload_n 0, 1) := by decide +kernel
theorem dL_law_311 : decode cL_law 311 = .ok (.iload_n 3, 1) := by decide +kernel
theorem dL_law_312 : decode cL_law 312 = .ok (.iconst 1, 1) := by decide +kernel
theorem dL_law_313 : decode cL_law 313 = .ok (.iadd, 1) := by decide +kernel
theorem dL_law_314 : decode cL_law 314 = .ok (.iaload, 1) := by decide +kernel
theorem dL_law_315 : decode cL_law 315 = .ok (.invokevirtual 45, 3) := by decide +kernel
theorem dL_law_318 : decode cL_law 318 = .ok (.lcmp, 1) := by decide +kernel
theorem dL_law_319 : decode cL_law 319 = .ok (.ifCond .eq 359, 3) := by decide +kernel
theorem dL_law_322 : decode cL_law 322 = .ok (.iconst 0, 1) := by decide +kernel
theorem dL_law_323 : decode cL_law 323 = .ok (.ireturn, 1) := by decide +kernel
theorem dL_law_324 : decode cL_law 324 = .ok (.aload_n 1, 1) := by decide +kernel
theorem dL_law_325 : decode cL_law 325 = .ok (.aload_n 0, 1) := by decide +kernel
theorem dL_law_326 : decode cL_law 326 = .ok (.iload_n 3, 1) := by decide +kernel
theorem dL_law_327 : decode cL_law 327 = .ok (.iconst 1, 1) := by decide +kernel
theorem dL_law_328 : decode cL_law 328 = .ok (.iadd, 1) := by decide +kernel
theorem dL_law_329 : decode cL_law 329 = .ok (.iaload, 1) := by decide +kernel
theorem dL_law_330 : decode cL_law 330 = .ok (.aload_n 0, 1) := by decide +kernel
theorem dL_law_331 : decode cL_law 331 = .ok (.iload_n 3, 1) := by decide +kernel
theorem dL_law_332 : decode cL_law 332 = .ok (.iconst 2, 1) := by decide +kernel
theorem dL_law_333 : decode cL_law 333 = .ok (.iadd, 1) := by decide +kernel
theorem dL_law_334 : decode cL_law 334 = .ok (.iaload, 1) := by decide +kernel
theorem dL_law_335 : decode cL_law 335 = .ok (.aload_n 0, 1) := by decide +kernel
theorem dL_law_336 : decode cL_law 336 = .ok (.iload_n 3, 1) := by decide +kernel
theorem dL_law_337 : decode cL_law 337 = .ok (.iconst 3, 1) := by decide +kernel
theorem dL_law_338 : decode cL_law 338 = .ok (.iadd, 1) := by decide +kernel
theorem dL_law_339 : decode cL_law 339 = .ok (.iaload, 1) := by decide +kernel
theorem dL_law_340 : decode cL_law 340 = .ok (.invokevirtual 46, 3) := by decide +kernel
theorem dL_law_343 : decode cL_law 343 = .ok (.aload_n 2, 1) := by decide +kernel
theorem dL_law_344 : decode cL_law 344 = .ok (.aload_n 0, 1) := by decide +kernel
theorem dL_law_345 : decode cL_law 345 = .ok (.iload_n 3, 1) := by decide +kernel
theorem dL_law_346 : decode cL_law 346 = .ok (.iconst 1, 1) := by decide +kernel
theorem dL_law_347 : decode cL_law 347 = .ok (.iadd, 1) := by decide +kernel
theorem dL_law_348 : decode cL_law 348 = .ok (.iaload, 1) := by decide +kernel
theorem dL_law_349 : decode cL_law 349 = .ok (.aload_n 0, 1) := by decide +kernel
theorem dL_law_350 : decode cL_law 350 = .ok (.iload_n 3, 1) := by decide +kernel
theorem dL_law_351 : decode cL_law 351 = .ok (.iconst 2, 1) := by decide +kernel
theorem dL_law_352 : decode cL_law 352 = .ok (.iadd, 1) := by decide +kernel
theorem dL_law_353 : decode cL_law 353 = .ok (.iaload, 1) := by decide +kernel
theorem dL_law_354 : decode cL_law 354 = .ok (.aload_n 0, 1) := by decide +kernel
theorem dL_law_355 : decode cL_law 355 = .ok (.iload_n 3, 1) := by decide +kernel
theorem dL_law_356 : decode cL_law 356 = .ok (.iconst 3, 1) := by decide +kernel
theorem dL_law_357 : decode cL_law 357 = .ok (.iadd, 1) := by decide +kernel
theorem dL_law_358 : decode cL_law 358 = .ok (.iaload, 1) := by decide +kernel
theorem dL_law_359 : decode cL_law 359 = .ok (.invokevirtual 50, 3) := by decide +kernel
theorem dL_law_362 : decode cL_law 362 = .ok (.lcmp, 1) := by decide +kernel
theorem dL_law_363 : decode cL_law 363 = .ok (.ifCond .eq 315, 3) := by decide +kernel
theorem dL_law_366 : decode cL_law 366 = .ok (.iconst 0, 1) := by decide +kernel
theorem dL_law_367 : decode cL_law 367 = .ok (.ireturn, 1) := by decide +kernel
theorem dL_law_368 : decode cL_law 368 = .ok (.aload_n 1, 1) := by decide +kernel
theorem dL_law_369 : decode cL_law 369 = .ok (.aload_n 0, 1) := by decide +kernel
theorem dL_law_370 : decode cL_law 370 = .ok (.iload_n 3, 1) := by decide +kernel
theorem dL_law_371 : decode cL_law 371 = .ok (.iconst 1, 1) := by decide +kernel
theorem dL_law_372 : decode cL_law 372 = .ok (.iadd, 1) := by decide +kernel
theorem dL_law_373 : decode cL_law 373 = .ok (.iaload, 1) := by decide +kernel
theorem dL_law_374 : decode cL_law 374 = .ok (.aload_n 0, 1) := by decide +kernel
theorem dL_law_375 : decode cL_law 375 = .ok (.iload_n 3, 1) := by decide +kernel
theorem dL_law_376 : decode cL_law 376 = .ok (.iconst 2, 1) := by decide +kernel
theorem dL_law_377 : decode cL_law 377 = .ok (.iadd, 1) := by decide +kernel
theorem dL_law_378 : decode cL_law 378 = .ok (.iaload, 1) := by decide +kernel
theorem dL_law_379 : decode cL_law 379 = .ok (.aload_n 0, 1) := by decide +kernel
theorem dL_law_380 : decode cL_law 380 = .ok (.iload_n 3, 1) := by decide +kernel
theorem dL_law_381 : decode cL_law 381 = .ok (.iconst 3, 1) := by decide +kernel
theorem dL_law_382 : decode cL_law 382 = .ok (.iadd, 1) := by decide +kernel
theorem dL_law_383 : decode cL_law 383 = .ok (.iaload, 1) := by decide +kernel
theorem dL_law_384 : decode cL_law 384 = .ok (.invokevirtual 51, 3) := by decide +kernel
theorem dL_law_387 : decode cL_law 387 = .ok (.aload_n 2, 1) := by decide +kernel
theorem dL_law_388 : decode cL_law 388 = .ok (.aload_n 0, 1) := by decide +kernel
theorem dL_law_389 : decode cL_law 389 = .ok (.iload_n 3, 1) := by decide +kernel
theorem dL_law_390 : decode cL_law 390 = .ok (.iconst 1, 1) := by decide +kernel
theorem dL_law_391 : decode cL_law 391 = .ok (.iadd, 1) := by decide +kernel
theorem dL_law_392 : decode cL_law 392 = .ok (.iaload, 1) := by decide +kernel
theorem dL_law_393 : decode cL_law 393 = .ok (.aload_n 0, 1) := by decide +kernel
theorem dL_law_394 : decode cL_law 394 = .ok (.iload_n 3, 1) := by decide +kernel
theorem dL_law_395 : decode cL_law 395 = .ok (.iconst 2, 1) := by decide +kernel
theorem dL_law_396 : decode cL_law 396 = .ok (.iadd, 1) := by decide +kernel
theorem dL_law_397 : decode cL_law 397 = .ok (.iaload, 1) := by decide +kernel
theorem dL_law_398 : decode cL_law 398 = .ok (.aload_n 0, 1) := by decide +kernel
theorem dL_law_399 : decode cL_law 399 = .ok (.iload_n 3, 1) := by decide +kernel
theorem dL_law_400 : decode cL_law 400 = .ok (.iconst 3, 1) := by decide +kernel
theorem dL_law_401 : decode cL_law 401 = .ok (.iadd, 1) := by decide +kernel
theorem dL_law_402 : decode cL_law 402 = .ok (.iaload, 1) := by decide +kernel
theorem dL_law_403 : decode cL_law 403 = .ok (.invokevirtual 54, 3) := by decide +kernel
theorem dL_law_406 : decode cL_law 406 = .ok (.lcmp, 1) := by decide +kernel
theorem dL_law_407 : decode cL_law 407 = .ok (.ifCond .eq 271, 3) := by decide +kernel
theorem dL_law_410 : decode cL_law 410 = .ok (.iconst 0, 1) := by decide +kernel
theorem dL_law_411 : decode cL_law 411 = .ok (.ireturn, 1) := by decide +kernel
theorem dL_law_412 : decode cL_law 412 = .ok (.aload_n 1, 1) := by decide +kernel
theorem dL_law_413 : decode cL_law 413 = .ok (.aload_n 0, 1) := by decide +kernel
theorem dL_law_414 : decode cL_law 414 = .ok (.iload_n 3, 1) := by decide +kernel
theorem dL_law_415 : decode cL_law 415 = .ok (.iconst 1, 1) := by decide +kernel
theorem dL_law_416 : decode cL_law 416 = .ok (.iadd, 1) := by decide +kernel
theorem dL_law_417 : decode cL_law 417 = .ok (.iaload, 1) := by decide +kernel
theorem dL_law_418 : decode cL_law 418 = .ok (.aload_n 0, 1) := by decide +kernel
theorem dL_law_419 : decode cL_law 419 = .ok (.iload_n 3, 1) := by decide +kernel
theorem dL_law_420 : decode cL_law 420 = .ok (.iconst 2, 1) := by decide +kernel
theorem dL_law_421 : decode cL_law 421 = .ok (.iadd, 1) := by decide +kernel
theorem dL_law_422 : decode cL_law 422 = .ok (.iaload, 1) := by decide +kernel
theorem dL_law_423 : decode cL_law 423 = .ok (.invokevirtual 55, 3) := by decide +kernel
theorem dL_law_426 : decode cL_law 426 = .ok (.aload_n 2, 1) := by decide +kernel
theorem dL_law_427 : decode cL_law 427 = .ok (.aload_n 0, 1) := by decide +kernel
theorem dL_law_428 : decode cL_law 428 = .ok (.iload_n 3, 1) := by decide +kernel
theorem dL_law_429 : decode cL_law 429 = .ok (.iconst 1, 1) := by decide +kernel
theorem dL_law_430 : decode cL_law 430 = .ok (.iadd, 1) := by decide +kernel
theorem dL_law_431 : decode cL_law 431 = .ok (.iaload, 1) := by decide +kernel
theorem dL_law_432 : decode cL_law 432 = .ok (.aload_n 0, 1) := by decide +kernel
theorem dL_law_433 : decode cL_law 433 = .ok (.iload_n 3, 1) := by decide +kernel
theorem dL_law_434 : decode cL_law 434 = .ok (.iconst 2, 1) := by decide +kernel
theorem dL_law_435 : decode cL_law 435 = .ok (.iadd, 1) := by decide +kernel
theorem dL_law_436 : decode cL_law 436 = .ok (.iaload, 1) := by decide +kernel
theorem dL_law_437 : decode cL_law 437 = .ok (.invokevirtual 59, 3) := by decide +kernel
theorem dL_law_440 : decode cL_law 440 = .ok (.lcmp, 1) := by decide +kernel
theorem dL_law_441 : decode cL_law 441 = .ok (.ifCond .eq 237, 3) := by decide +kernel
theorem dL_law_444 : decode cL_law 444 = .ok (.iconst 0, 1) := by decide +kernel
theorem dL_law_445 : decode cL_law 445 = .ok (.ireturn, 1) := by decide +kernel
theorem dL_law_446 : decode cL_law 446 = .ok (.aload_n 1, 1) := by decide +kernel
theorem dL_law_447 : decode cL_law 447 = .ok (.aload_n 0, 1) := by decide +kernel
theorem dL_law_448 : decode cL_law 448 = .ok (.iload_n 3, 1) := by decide +kernel
theorem dL_law_449 : decode cL_law 449 = .ok (.iconst 1, 1) := by decide +kernel
theorem dL_law_450 : decode cL_law 450 = .ok (.iadd, 1) := by decide +kernel
theorem dL_law_451 : decode cL_law 451 = .ok (.iaload, 1) := by decide +kernel
theorem dL_law_452 : decode cL_law 452 = .ok (.aload_n 0, 1) := by decide +kernel
theorem dL_law_453 : decode cL_law 453 = .ok (.iload_n 3, 1) := by decide +kernel
theorem dL_law_454 : decode cL_law 454 = .ok (.iconst 2, 1) := by decide +kernel
theorem dL_law_455 : decode cL_law 455 = .ok (.iadd, 1) := by decide +kernel
theorem dL_law_456 : decode cL_law 456 = .ok (.iaload, 1) := by decide +kernel
theorem dL_law_457 : decode cL_law 457 = .ok (.aload_n 0, 1) := by decide +kernel
theorem dL_law_458 : decode cL_law 458 = .ok (.iload_n 3, 1) := by decide +kernel
theorem dL_law_459 : decode cL_law 459 = .ok (.iconst 3, 1) := by decide +kernel
theorem dL_law_460 : decode cL_law 460 = .ok (.iadd, 1) := by decide +kernel
theorem dL_law_461 : decode cL_law 461 = .ok (.iaload, 1) := by decide +kernel
theorem dL_law_462 : decode cL_law 462 = .ok (.invokevirtual 60, 3) := by decide +kernel
theorem dL_law_465 : decode cL_law 465 = .ok (.aload_n 2, 1) := by decide +kernel
theorem dL_law_466 : decode cL_law 466 = .ok (.aload_n 0, 1) := by decide +kernel
theorem dL_law_467 : decode cL_law 467 = .ok (.iload_n 3, 1) := by decide +kernel
theorem dL_law_468 : decode cL_law 468 = .ok (.iconst 1, 1) := by decide +kernel
theorem dL_law_469 : decode cL_law 469 = .ok (.iadd, 1) := by decide +kernel
theorem dL_law_470 : decode cL_law 470 = .ok (.iaload, 1) := by decide +kernel
theorem dL_law_471 : decode cL_law 471 = .ok (.aload_n 0, 1) := by decide +kernel
theorem dL_law_472 : decode cL_law 472 = .ok (.iload_n 3, 1) := by decide +kernel
theorem dL_law_473 : decode cL_law 473 = .ok (.iconst 2, 1) := by decide +kernel
theorem dL_law_474 : decode cL_law 474 = .ok (.iadd, 1) := by decide +kernel
theorem dL_law_475 : decode cL_law 475 = .ok (.iaload, 1) := by decide +kernel
theorem dL_law_476 : decode cL_law 476 = .ok (.aload_n 0, 1) := by decide +kernel
theorem dL_law_477 : decode cL_law 477 = .ok (.iload_n 3, 1) := by decide +kernel
theorem dL_law_478 : decode cL_law 478 = .ok (.iconst 3, 1) := by decide +kernel
theorem dL_law_479 : decode cL_law 479 = .ok (.iadd, 1) := by decide +kernel
theorem dL_law_480 : decode cL_law 480 = .ok (.iaload, 1) := by decide +kernel
theorem dL_law_481 : decode cL_law 481 = .ok (.invokevirtual 63, 3) := by decide +kernel
theorem dL_law_484 : decode cL_law 484 = .ok (.lcmp, 1) := by decide +kernel
theorem dL_law_485 : decode cL_law 485 = .ok (.ifCond .eq 193, 3) := by decide +kernel
theorem dL_law_488 : decode cL_law 488 = .ok (.iconst 0, 1) := by decide +kernel
theorem dL_law_489 : decode cL_law 489 = .ok (.ireturn, 1) := by decide +kernel
theorem dL_law_490 : decode cL_law 490 = .ok (.aload_n 1, 1) := by decide +kernel
theorem dL_law_491 : decode cL_law 491 = .ok (.aload_n 0, 1) := by decide +kernel
theorem dL_law_492 : decode cL_law 492 = .ok (.iload_n 3, 1) := by decide +kernel
theorem dL_law_493 : decode cL_law 493 = .ok (.iconst 1, 1) := by decide +kernel
theorem dL_law_494 : decode cL_law 494 = .ok (.iadd, 1) := by decide +kernel
theorem dL_law_495 : decode cL_law 495 = .ok (.iaload, 1) := by decide +kernel
theorem dL_law_496 : decode cL_law 496 = .ok (.aload_n 0, 1) := by decide +kernel
theorem dL_law_497 : decode cL_law 497 = .ok (.iload_n 3, 1) := by decide +kernel
theorem dL_law_498 : decode cL_law 498 = .ok (.iconst 2, 1) := by decide +kernel
theorem dL_law_499 : decode cL_law 499 = .ok (.iadd, 1) := by decide +kernel
theorem dL_law_500 : decode cL_law 500 = .ok (.iaload, 1) := by decide +kernel
theorem dL_law_501 : decode cL_law 501 = .ok (.aload_n 0, 1) := by decide +kernel
theorem dL_law_502 : decode cL_law 502 = .ok (.iload_n 3, 1) := by decide +kernel
theorem dL_law_503 : decode cL_law 503 = .ok (.iconst 3, 1) := by decide +kernel
theorem dL_law_504 : decode cL_law 504 = .ok (.iadd, 1) := by decide +kernel
theorem dL_law_505 : decode cL_law 505 = .ok (.iaload, 1) := by decide +kernel
theorem dL_law_506 : decode cL_law 506 = .ok (.invokevirtual 64, 3) := by decide +kernel
theorem dL_law_509 : decode cL_law 509 = .ok (.aload_n 2, 1) := by decide +kernel
theorem dL_law_510 : decode cL_law 510 = .ok (.aload_n 0, 1) := by decide +kernel
theorem dL_law_511 : decode cL_law 511 = .ok (.iload_n 3, 1) := by decide +kernel
theorem dL_law_512 : decode cL_law 512 = .ok (.iconst 1, 1) := by decide +kernel
theorem dL_law_513 : decode cL_law 513 = .ok (.iadd, 1) := by decide +kernel
theorem dL_law_514 : decode cL_law 514 = .ok (.iaload, 1) := by decide +kernel
theorem dL_law_515 : decode cL_law 515 = .ok (.aload_n 0, 1) := by decide +kernel
theorem dL_law_516 : decode cL_law 516 = .ok (.iload_n 3, 1) := by decide +kernel
theorem dL_law_517 : decode cL_law 517 = .ok (.iconst 2, 1) := by decide +kernel
theorem dL_law_518 : decode cL_law 518 = .ok (.iadd, 1) := by decide +kernel
theorem dL_law_519 : decode cL_law 519 = .ok (.iaload, 1) := by decide +kernel
theorem dL_law_520 : decode cL_law 520 = .ok (.aload_n 0, 1) := by decide +kernel
theorem dL_law_521 : decode cL_law 521 = .ok (.iload_n 3, 1) := by decide +kernel
theorem dL_law_522 : decode cL_law 522 = .ok (.iconst 3, 1) := by decide +kernel
theorem dL_law_523 : decode cL_law 523 = .ok (.iadd, 1) := by decide +kernel
theorem dL_law_524 : decode cL_law 524 = .ok (.iaload, 1) := by decide +kernel
theorem dL_law_525 : decode cL_law 525 = .ok (.invokevirtual 67, 3) := by decide +kernel
theorem dL_law_528 : decode cL_law 528 = .ok (.lcmp, 1) := by decide +kernel
theorem dL_law_529 : decode cL_law 529 = .ok (.ifCond .eq 149, 3) := by decide +kernel
theorem dL_law_532 : decode cL_law 532 = .ok (.iconst 0, 1) := by decide +kernel
theorem dL_law_533 : decode cL_law 533 = .ok (.ireturn, 1) := by decide +kernel
theorem dL_law_534 : decode cL_law 534 = .ok (.aload_n 1, 1) := by decide +kernel
theorem dL_law_535 : decode cL_law 535 = .ok (.aload_n 0, 1) := by decide +kernel
theorem dL_law_536 : decode cL_law 536 = .ok (.iload_n 3, 1) := by decide +kernel
theorem dL_law_537 : decode cL_law 537 = .ok (.iconst 1, 1) := by decide +kernel
theorem dL_law_538 : decode cL_law 538 = .ok (.iadd, 1) := by decide +kernel
theorem dL_law_539 : decode cL_law 539 = .ok (.iaload, 1) := by decide +kernel
theorem dL_law_540 : decode cL_law 540 = .ok (.invokevirtual 68, 3) := by decide +kernel
theorem dL_law_543 : decode cL_law 543 = .ok (.aload_n 2, 1) := by decide +kernel
theorem dL_law_544 : decode cL_law 544 = .ok (.aload_n 0, 1) := by decide +kernel
theorem dL_law_545 : decode cL_law 545 = .ok (.iload_n 3, 1) := by decide +kernel
theorem dL_law_546 : decode cL_law 546 = .ok (.iconst 1, 1) := by decide +kernel
theorem dL_law_547 : decode cL_law 547 = .ok (.iadd, 1) := by decide +kernel
theorem dL_law_548 : decode cL_law 548 = .ok (.iaload, 1) := by decide +kernel
theorem dL_law_549 : decode cL_law 549 = .ok (.invokevirtual 72, 3) := by decide +kernel
theorem dL_law_552 : decode cL_law 552 = .ok (.if_icmp .eq 126, 3) := by decide +kernel
theorem dL_law_555 : decode cL_law 555 = .ok (.iconst 0, 1) := by decide +kernel
theorem dL_law_556 : decode cL_law 556 = .ok (.ireturn, 1) := by decide +kernel
theorem dL_law_557 : decode cL_law 557 = .ok (.aload_n 1, 1) := by decide +kernel
theorem dL_law_558 : decode cL_law 558 = .ok (.aload_n 0, 1) := by decide +kernel
theorem dL_law_559 : decode cL_law 559 = .ok (.iload_n 3, 1) := by decide +kernel
theorem dL_law_560 : decode cL_law 560 = .ok (.iconst 1, 1) := by decide +kernel
theorem dL_law_561 : decode cL_law 561 = .ok (.iadd, 1) := by decide +kernel
theorem dL_law_562 : decode cL_law 562 = .ok (.iaload, 1) := by decide +kernel
theorem dL_law_563 : decode cL_law 563 = .ok (.aload_n 0, 1) := by decide +kernel
theorem dL_law_564 : decode cL_law 564 = .ok (.iload_n 3, 1) := by decide +kernel
theorem dL_law_565 : decode cL_law 565 = .ok (.iconst 2, 1) := by decide +kernel
theorem dL_law_566 : decode cL_law 566 = .ok (.iadd, 1) := by decide +kernel
theorem dL_law_567 : decode cL_law 567 = .ok (.iaload, 1) := by decide +kernel
theorem dL_law_568 : decode cL_law 568 = .ok (.aload_n 0, 1) := by decide +kernel
theorem dL_law_569 : decode cL_law 569 = .ok (.iload_n 3, 1) := by decide +kernel
theorem dL_law_570 : decode cL_law 570 = .ok (.iconst 3, 1) := by decide +kernel
theorem dL_law_571 : decode cL_law 571 = .ok (.iadd, 1) := by decide +kernel
theorem dL_law_572 : decode cL_law 572 = .ok (.iaload, 1) := by decide +kernel
theorem dL_law_573 : decode cL_law 573 = .ok (.aload_n 0, 1) := by decide +kernel
theorem dL_law_574 : decode cL_law 574 = .ok (.iload_n 3, 1) := by decide +kernel
theorem dL_law_575 : decode cL_law 575 = .ok (.iconst 4, 1) := by decide +kernel
theorem dL_law_576 : decode cL_law 576 = .ok (.iadd, 1) := by decide +kernel
theorem dL_law_577 : decode cL_law 577 = .ok (.iaload, 1) := by decide +kernel
theorem dL_law_578 : decode cL_law 578 = .ok (.invokevirtual 73, 3) := by decide +kernel
theorem dL_law_581 : decode cL_law 581 = .ok (.aload_n 2, 1) := by decide +kernel
theorem dL_law_582 : decode cL_law 582 = .ok (.aload_n 0, 1) := by decide +kernel
theorem dL_law_583 : decode cL_law 583 = .ok (.iload_n 3, 1) := by decide +kernel
theorem dL_law_584 : decode cL_law 584 = .ok (.iconst 1, 1) := by decide +kernel
theorem dL_law_585 : decode cL_law 585 = .ok (.iadd, 1) := by decide +kernel
theorem dL_law_586 : decode cL_law 586 = .ok (.iaload, 1) := by decide +kernel
theorem dL_law_587 : decode cL_law 587 = .ok (.aload_n 0, 1) := by decide +kernel
theorem dL_law_588 : decode cL_law 588 = .ok (.iload_n 3, 1) := by decide +kernel
theorem dL_law_589 : decode cL_law 589 = .ok (.iconst 2, 1) := by decide +kernel
theorem dL_law_590 : decode cL_law 590 = .ok (.iadd, 1) := by decide +kernel
theorem dL_law_591 : decode cL_law 591 = .ok (.iaload, 1) := by decide +kernel
theorem dL_law_592 : decode cL_law 592 = .ok (.aload_n 0, 1) := by decide +kernel
theorem dL_law_593 : decode cL_law 593 = .ok (.iload_n 3, 1) := by decide +kernel
theorem dL_law_594 : decode cL_law 594 = .ok (.iconst 3, 1) := by decide +kernel
theorem dL_law_595 : decode cL_law 595 = .ok (.iadd, 1) := by decide +kernel
theorem dL_law_596 : decode cL_law 596 = .ok (.iaload, 1) := by decide +kernel
theorem dL_law_597 : decode cL_law 597 = .ok (.aload_n 0, 1) := by decide +kernel
theorem dL_law_598 : decode cL_law 598 = .ok (.iload_n 3, 1) := by decide +kernel
theorem dL_law_599 : decode cL_law 599 = .ok (.iconst 4, 1) := by decide +kernel
theorem dL_law_600 : decode cL_law 600 = .ok (.iadd, 1) := by decide +kernel
theorem dL_law_601 : decode cL_law 601 = .ok (.iaload, 1) := by decide +kernel
theorem dL_law_602 : decode cL_law 602 = .ok (.invokevirtual 77, 3) := by decide +kernel
theorem dL_law_605 : decode cL_law 605 = .ok (.lcmp, 1) := by decide +kernel
theorem dL_law_606 : decode cL_law 606 = .ok (.ifCond .eq 72, 3) := by decide +kernel
theorem dL_law_609 : decode cL_law 609 = .ok (.iconst 0, 1) := by decide +kernel
theorem dL_law_610 : decode cL_law 610 = .ok (.ireturn, 1) := by decide +kernel
theorem dL_law_611 : decode cL_law 611 = .ok (.aload_n 1, 1) := by decide +kernel
theorem dL_law_612 : decode cL_law 612 = .ok (.aload_n 0, 1) := by decide +kernel
theorem dL_law_613 : decode cL_law 613 = .ok (.iload_n 3, 1) := by decide +kernel
theorem dL_law_614 : decode cL_law 614 = .ok (.iconst 1, 1) := by decide +kernel
theorem dL_law_615 : decode cL_law 615 = .ok (.iadd, 1) := by decide +kernel
theorem dL_law_616 : decode cL_law 616 = .ok (.iaload, 1) := by decide +kernel
theorem dL_law_617 : decode cL_law 617 = .ok (.aload_n 0, 1) := by decide +kernel
theorem dL_law_618 : decode cL_law 618 = .ok (.iload_n 3, 1) := by decide +kernel
theorem dL_law_619 : decode cL_law 619 = .ok (.iconst 2, 1) := by decide +kernel
theorem dL_law_620 : decode cL_law 620 = .ok (.iadd, 1) := by decide +kernel
theorem dL_law_621 : decode cL_law 621 = .ok (.iaload, 1) := by decide +kernel
theorem dL_law_622 : decode cL_law 622 = .ok (.aload_n 0, 1) := by decide +kernel
theorem dL_law_623 : decode cL_law 623 = .ok (.iload_n 3, 1) := by decide +kernel
theorem dL_law_624 : decode cL_law 624 = .ok (.iconst 3, 1) := by decide +kernel
theorem dL_law_625 : decode cL_law 625 = .ok (.iadd, 1) := by decide +kernel
theorem dL_law_626 : decode cL_law 626 = .ok (.iaload, 1) := by decide +kernel
theorem dL_law_627 : decode cL_law 627 = .ok (.invokevirtual 78, 3) := by decide +kernel
theorem dL_law_630 : decode cL_law 630 = .ok (.aload_n 2, 1) := by decide +kernel
theorem dL_law_631 : decode cL_law 631 = .ok (.aload_n 0, 1) := by decide +kernel
theorem dL_law_632 : decode cL_law 632 = .ok (.iload_n 3, 1) := by decide +kernel
theorem dL_law_633 : decode cL_law 633 = .ok (.iconst 1, 1) := by decide +kernel
theorem dL_law_634 : decode cL_law 634 = .ok (.iadd, 1) := by decide +kernel
theorem dL_law_635 : decode cL_law 635 = .ok (.iaload, 1) := by decide +kernel
theorem dL_law_636 : decode cL_law 636 = .ok (.aload_n 0, 1) := by decide +kernel
theorem dL_law_637 : decode cL_law 637 = .ok (.iload_n 3, 1) := by decide +kernel
theorem dL_law_638 : decode cL_law 638 = .ok (.iconst 2, 1) := by decide +kernel
theorem dL_law_639 : decode cL_law 639 = .ok (.iadd, 1) := by decide +kernel
theorem dL_law_640 : decode cL_law 640 = .ok (.iaload, 1) := by decide +kernel
theorem dL_law_641 : decode cL_law 641 = .ok (.aload_n 0, 1) := by decide +kernel
theorem dL_law_642 : decode cL_law 642 = .ok (.iload_n 3, 1) := by decide +kernel
theorem dL_law_643 : decode cL_law 643 = .ok (.iconst 3, 1) := by decide +kernel
theorem dL_law_644 : decode cL_law 644 = .ok (.iadd, 1) := by decide +kernel
theorem dL_law_645 : decode cL_law 645 = .ok (.iaload, 1) := by decide +kernel
theorem dL_law_646 : decode cL_law 646 = .ok (.invokevirtual 81, 3) := by decide +kernel
theorem dL_law_649 : decode cL_law 649 = .ok (.lcmp, 1) := by decide +kernel
theorem dL_law_650 : decode cL_law 650 = .ok (.ifCond .eq 28, 3) := by decide +kernel
theorem dL_law_653 : decode cL_law 653 = .ok (.iconst 0, 1) := by decide +kernel
theorem dL_law_654 : decode cL_law 654 = .ok (.ireturn, 1) := by decide +kernel
theorem dL_law_655 : decode cL_law 655 = .ok (.aload_n 1, 1) := by decide +kernel
theorem dL_law_656 : decode cL_law 656 = .ok (.aload_n 0, 1) := by decide +kernel
theorem dL_law_657 : decode cL_law 657 = .ok (.iload_n 3, 1) := by decide +kernel
theorem dL_law_658 : decode cL_law 658 = .ok (.iconst 1, 1) := by decide +kernel
theorem dL_law_659 : decode cL_law 659 = .ok (.iadd, 1) := by decide +kernel
theorem dL_law_660 : decode cL_law 660 = .ok (.iaload, 1) := by decide +kernel
theorem dL_law_661 : decode cL_law 661 = .ok (.invokevirtual 82, 3) := by decide +kernel
theorem dL_law_664 : decode cL_law 664 = .ok (.aload_n 2, 1) := by decide +kernel
theorem dL_law_665 : decode cL_law 665 = .ok (.aload_n 0, 1) := by decide +kernel
theorem dL_law_666 : decode cL_law 666 = .ok (.iload_n 3, 1) := by decide +kernel
theorem dL_law_667 : decode cL_law 667 = .ok (.iconst 1, 1) := by decide +kernel
theorem dL_law_668 : decode cL_law 668 = .ok (.iadd, 1) := by decide +kernel
theorem dL_law_669 : decode cL_law 669 = .ok (.iaload, 1) := by decide +kernel
theorem dL_law_670 : decode cL_law 670 = .ok (.invokevirtual 85, 3) := by decide +kernel
theorem dL_law_673 : decode cL_law 673 = .ok (.if_icmp .eq 5, 3) := by decide +kernel
theorem dL_law_676 : decode cL_law 676 = .ok (.iconst 0, 1) := by decide +kernel
theorem dL_law_677 : decode cL_law 677 = .ok (.ireturn, 1) := by decide +kernel
theorem dL_law_678 : decode cL_law 678 = .ok (.iinc 3 5, 3) := by decide +kernel
theorem dL_law_681 : decode cL_law 681 = .ok (.goto (-663), 3) := by decide +kernel
theorem dL_law_684 : decode cL_law 684 = .ok (.iconst 1, 1) := by decide +kernel
theorem dL_law_685 : decode cL_law 685 = .ok (.ireturn, 1) := by decide +kernel
