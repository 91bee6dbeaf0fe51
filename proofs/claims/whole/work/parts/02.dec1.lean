theorem dX2_settle_48 : decode cX2_settle 48 = .ok (.aload_n 0, 1) := by decide +kernel
theorem dX2_settle_49 : decode cX2_settle 49 = .ok (.iload_n 2, 1) := by decide +kernel
theorem dX2_settle_50 : decode cX2_settle 50 = .ok (.iload_n 1, 1) := by decide +kernel
theorem dX2_settle_51 : decode cX2_settle 51 = .ok (.invokevirtual 97, 3) := by decide +kernel
theorem dX2_settle_54 : decode cX2_settle 54 = .ok (.ifCond .eq 16, 3) := by decide +kernel
theorem dX2_settle_57 : decode cX2_settle 57 = .ok (.aload_n 0, 1) := by decide +kernel
theorem dX2_settle_58 : decode cX2_settle 58 = .ok (.iload_n 3, 1) := by decide +kernel
theorem dX2_settle_59 : decode cX2_settle 59 = .ok (.iload_n 1, 1) := by decide +kernel
theorem dX2_settle_60 : decode cX2_settle 60 = .ok (.invokevirtual 97, 3) := by decide +kernel
theorem dX2_settle_63 : decode cX2_settle 63 = .ok (.ifCond .eq 7, 3) := by decide +kernel
theorem dX2_settle_66 : decode cX2_settle 66 = .ok (.iconst 1, 1) := by decide +kernel
theorem dX2_settle_67 : decode cX2_settle 67 = .ok (.goto 4, 3) := by decide +kernel
theorem dX2_settle_70 : decode cX2_settle 70 = .ok (.iconst 0, 1) := by decide +kernel
theorem dX2_settle_71 : decode cX2_settle 71 = .ok (.istore 4, 2) := by decide +kernel
theorem dX2_settle_73 : decode cX2_settle 73 = .ok (.aload_n 0, 1) := by decide +kernel
theorem dX2_settle_74 : decode cX2_settle 74 = .ok (.iload_n 2, 1) := by decide +kernel
theorem dX2_settle_75 : decode cX2_settle 75 = .ok (.iload_n 3, 1) := by decide +kernel
theorem dX2_settle_76 : decode cX2_settle 76 = .ok (.invokevirtual 101, 3) := by decide +kernel
theorem dX2_settle_79 : decode cX2_settle 79 = .ok (.iload 4, 2) := by decide +kernel
theorem dX2_settle_81 : decode cX2_settle 81 = .ok (.ifCond .eq 13, 3) := by decide +kernel
theorem dX2_settle_84 : decode cX2_settle 84 = .ok (.aload_n 0, 1) := by decide +kernel
theorem dX2_settle_85 : decode cX2_settle 85 = .ok (.iload_n 2, 1) := by decide +kernel
theorem dX2_settle_86 : decode cX2_settle 86 = .ok (.iload_n 3, 1) := by decide +kernel
theorem dX2_settle_87 : decode cX2_settle 87 = .ok (.invokevirtual 105, 3) := by decide +kernel
theorem dX2_settle_90 : decode cX2_settle 90 = .ok (.i2l, 1) := by decide +kernel
theorem dX2_settle_91 : decode cX2_settle 91 = .ok (.goto 4, 3) := by decide +kernel
theorem dX2_settle_94 : decode cX2_settle 94 = .ok (.lconst 0, 1) := by decide +kernel
theorem dX2_settle_95 : decode cX2_settle 95 = .ok (.invokevirtual 93, 3) := by decide +kernel
theorem dX2_settle_98 : decode cX2_settle 98 = .ok (.iinc 3 1, 3) := by decide +kernel
theorem dX2_settle_101 : decode cX2_settle 101 = .ok (.goto (-64), 3) := by decide +kernel
theorem dX2_settle_104 : decode cX2_settle 104 = .ok (.iinc 2 1, 3) := by decide +kernel
theorem dX2_settle_107 : decode cX2_settle 107 = .ok (.goto (-83), 3) := by decide +kernel
theorem dX2_settle_110 : decode cX2_settle 110 = .ok (.iconst 0, 1) := by decide +kernel
theorem dX2_settle_111 : decode cX2_settle 111 = .ok (.istore_n 2, 1) := by decide +kernel
theorem dX2_settle_112 : decode cX2_settle 112 = .ok (.iload_n 2, 1) := by decide +kernel
theorem dX2_settle_113 : decode cX2_settle 113 = .ok (.aload_n 0, 1) := by decide +kernel
theorem dX2_settle_114 : decode cX2_settle 114 = .ok (.getfield 57, 3) := by decide +kernel
theorem dX2_settle_117 : decode cX2_settle 117 = .ok (.getfield 61, 3) := by decide +kernel
theorem dX2_settle_120 : decode cX2_settle 120 = .ok (.if_icmp .ge 24, 3) := by decide +kernel
theorem dX2_settle_123 : decode cX2_settle 123 = .ok (.aload_n 0, 1) := by decide +kernel
theorem dX2_settle_124 : decode cX2_settle 124 = .ok (.iload_n 2, 1) := by decide +kernel
theorem dX2_settle_125 : decode cX2_settle 125 = .ok (.iload_n 1, 1) := by decide +kernel
theorem dX2_settle_126 : decode cX2_settle 126 = .ok (.invokevirtual 97, 3) := by decide +kernel
theorem dX2_settle_129 : decode cX2_settle 129 = .ok (.ifCond .eq 9, 3) := by decide +kernel
theorem dX2_settle_132 : decode cX2_settle 132 = .ok (.aload_n 0, 1) := by decide +kernel
theorem dX2_settle_133 : decode cX2_settle 133 = .ok (.iload_n 2, 1) := by decide +kernel
theorem dX2_settle_134 : decode cX2_settle 134 = .ok (.iload_n 1, 1) := by decide +kernel
theorem dX2_settle_135 : decode cX2_settle 135 = .ok (.invokevirtual 108, 3) := by decide +kernel
theorem dX2_settle_138 : decode cX2_settle 138 = .ok (.iinc 2 1, 3) := by decide +kernel
theorem dX2_settle_141 : decode cX2_settle 141 = .ok (.goto (-29), 3) := by decide +kernel
theorem dX2_settle_144 : decode cX2_settle 144 = .ok (.return_, 1) := by decide +kernel
theorem dX2_startOf_0 : decode cX2_startOf 0 = .ok (.iload_n 1, 1) := by decide +kernel
theorem dX2_startOf_1 : decode cX2_startOf 1 = .ok (.iload_n 2, 1) := by decide +kernel
theorem dX2_startOf_2 : decode cX2_startOf 2 = .ok (.if_icmp .eq 12, 3) := by decide +kernel
theorem dX2_startOf_5 : decode cX2_startOf 5 = .ok (.aload_n 0, 1) := by decide +kernel
theorem dX2_startOf_6 : decode cX2_startOf 6 = .ok (.getfield 17, 3) := by decide +kernel
theorem dX2_startOf_9 : decode cX2_startOf 9 = .ok (.iload_n 1, 1) := by decide +kernel
theorem dX2_startOf_10 : decode cX2_startOf 10 = .ok (.aaload, 1) := by decide +kernel
theorem dX2_startOf_11 : decode cX2_startOf 11 = .ok (.iload_n 2, 1) := by decide +kernel
theorem dX2_startOf_12 : decode cX2_startOf 12 = .ok (.iaload, 1) := by decide +kernel
theorem dX2_startOf_13 : decode cX2_startOf 13 = .ok (.ireturn, 1) := by decide +kernel
theorem dX2_startOf_14 : decode cX2_startOf 14 = .ok (.iconst 0, 1) := by decide +kernel
theorem dX2_startOf_15 : decode cX2_startOf 15 = .ok (.istore_n 3, 1) := by decide +kernel
theorem dX2_startOf_16 : decode cX2_startOf 16 = .ok (.iconst 0, 1) := by decide +kernel
theorem dX2_startOf_17 : decode cX2_startOf 17 = .ok (.istore 4, 2) := by decide +kernel
theorem dX2_startOf_19 : decode cX2_startOf 19 = .ok (.iload 4, 2) := by decide +kernel
theorem dX2_startOf_21 : decode cX2_startOf 21 = .ok (.aload_n 0, 1) := by decide +kernel
theorem dX2_startOf_22 : decode cX2_startOf 22 = .ok (.getfield 57, 3) := by decide +kernel
theorem dX2_startOf_25 : decode cX2_startOf 25 = .ok (.getfield 61, 3) := by decide +kernel
theorem dX2_startOf_28 : decode cX2_startOf 28 = .ok (.if_icmp .ge 21, 3) := by decide +kernel
theorem dX2_startOf_31 : decode cX2_startOf 31 = .ok (.iload_n 3, 1) := by decide +kernel
theorem dX2_startOf_32 : decode cX2_startOf 32 = .ok (.aload_n 0, 1) := by decide +kernel
theorem dX2_startOf_33 : decode cX2_startOf 33 = .ok (.getfield 17, 3) := by decide +kernel
theorem dX2_startOf_36 : decode cX2_startOf 36 = .ok (.iload_n 1, 1) := by decide +kernel
theorem dX2_startOf_37 : decode cX2_startOf 37 = .ok (.aaload, 1) := by decide +kernel
theorem dX2_startOf_38 : decode cX2_startOf 38 = .ok (.iload 4, 2) := by decide +kernel
theorem dX2_startOf_40 : decode cX2_startOf 40 = .ok (.iaload, 1) := by decide +kernel
theorem dX2_startOf_41 : decode cX2_startOf 41 = .ok (.iadd, 1) := by decide +kernel
theorem dX2_startOf_42 : decode cX2_startOf 42 = .ok (.istore_n 3, 1) := by decide +kernel
theorem dX2_startOf_43 : decode cX2_startOf 43 = .ok (.iinc 4 1, 3) := by decide +kernel
theorem dX2_startOf_46 : decode cX2_startOf 46 = .ok (.goto (-27), 3) := by decide +kernel
theorem dX2_startOf_49 : decode cX2_startOf 49 = .ok (.iload_n 3, 1) := by decide +kernel
theorem dX2_startOf_50 : decode cX2_startOf 50 = .ok (.ireturn, 1) := by decide +kernel
theorem dX2_sweep_0 : decode cX2_sweep 0 = .ok (.aload_n 0, 1) := by decide +kernel
theorem dX2_sweep_1 : decode cX2_sweep 1 = .ok (.getfield 33, 3) := by decide +kernel
theorem dX2_sweep_4 : decode cX2_sweep 4 = .ok (.aload_n 0, 1) := by decide +kernel
theorem dX2_sweep_5 : decode cX2_sweep 5 = .ok (.iload_n 1, 1) := by decide +kernel
theorem dX2_sweep_6 : decode cX2_sweep 6 = .ok (.iload_n 1, 1) := by decide +kernel
theorem dX2_sweep_7 : decode cX2_sweep 7 = .ok (.invokevirtual 101, 3) := by decide +kernel
theorem dX2_sweep_10 : decode cX2_sweep 10 = .ok (.invokevirtual 112, 3) := by decide +kernel
theorem dX2_sweep_13 : decode cX2_sweep 13 = .ok (.iconst 0, 1) := by decide +kernel
theorem dX2_sweep_14 : decode cX2_sweep 14 = .ok (.istore_n 3, 1) := by decide +kernel
theorem dX2_sweep_15 : decode cX2_sweep 15 = .ok (.iload_n 3, 1) := by decide +kernel
theorem dX2_sweep_16 : decode cX2_sweep 16 = .ok (.aload_n 0, 1) := by decide +kernel
theorem dX2_sweep_17 : decode cX2_sweep 17 = .ok (.getfield 57, 3) := by decide +kernel
theorem dX2_sweep_20 : decode cX2_sweep 20 = .ok (.getfield 61, 3) := by decide +kernel
theorem dX2_sweep_23 : decode cX2_sweep 23 = .ok (.if_icmp .ge 68, 3) := by decide +kernel
theorem dX2_sweep_26 : decode cX2_sweep 26 = .ok (.iload_n 3, 1) := by decide +kernel
theorem dX2_sweep_27 : decode cX2_sweep 27 = .ok (.istore 4, 2) := by decide +kernel
theorem dX2_sweep_29 : decode cX2_sweep 29 = .ok (.iload 4, 2) := by decide +kernel
theorem dX2_sweep_31 : decode cX2_sweep 31 = .ok (.aload_n 0, 1) := by decide +kernel
theorem dX2_sweep_32 : decode cX2_sweep 32 = .ok (.getfield 57, 3) := by decide +kernel
theorem dX2_sweep_35 : decode cX2_sweep 35 = .ok (.getfield 61, 3) := by decide +kernel
theorem dX2_sweep_38 : decode cX2_sweep 38 = .ok (.if_icmp .ge 47, 3) := by decide +kernel
theorem dX2_sweep_41 : decode cX2_sweep 41 = .ok (.iload_n 3, 1) := by decide +kernel
theorem dX2_sweep_42 : decode cX2_sweep 42 = .ok (.iload_n 1, 1) := by decide +kernel
theorem dX2_sweep_43 : decode cX2_sweep 43 = .ok (.if_icmp .eq 36, 3) := by decide +kernel
theorem dX2_sweep_46 : decode cX2_sweep 46 = .ok (.iload 4, 2) := by decide +kernel
theorem dX2_sweep_48 : decode cX2_sweep 48 = .ok (.iload_n 1, 1) := by decide +kernel
theorem dX2_sweep_49 : decode cX2_sweep 49 = .ok (.if_icmp .eq 30, 3) := by decide +kernel
theorem dX2_sweep_52 : decode cX2_sweep 52 = .ok (.aload_n 0, 1) := by decide +kernel
theorem dX2_sweep_53 : decode cX2_sweep 53 = .ok (.iload_n 3, 1) := by decide +kernel
theorem dX2_sweep_54 : decode cX2_sweep 54 = .ok (.iload_n 2, 1) := by decide +kernel
theorem dX2_sweep_55 : decode cX2_sweep 55 = .ok (.invokevirtual 97, 3) := by decide +kernel
theorem dX2_sweep_58 : decode cX2_sweep 58 = .ok (.ifCond .eq 21, 3) := by decide +kernel
theorem dX2_sweep_61 : decode cX2_sweep 61 = .ok (.aload_n 0, 1) := by decide +kernel
theorem dX2_sweep_62 : decode cX2_sweep 62 = .ok (.iload 4, 2) := by decide +kernel
theorem dX2_sweep_64 : decode cX2_sweep 64 = .ok (.iload_n 2, 1) := by decide +kernel
theorem dX2_sweep_65 : decode cX2_sweep 65 = .ok (.invokevirtual 97, 3) := by decide +kernel
theorem dX2_sweep_68 : decode cX2_sweep 68 = .ok (.ifCond .eq 11, 3) := by decide +kernel
theorem dX2_sweep_71 : decode cX2_sweep 71 = .ok (.aload_n 0, 1) := by decide +kernel
theorem dX2_sweep_72 : decode cX2_sweep 72 = .ok (.iload_n 3, 1) := by decide +kernel
theorem dX2_sweep_73 : decode cX2_sweep 73 = .ok (.iload 4, 2) := by decide +kernel
theorem dX2_sweep_75 : decode cX2_sweep 75 = .ok (.iload_n 1, 1) := by decide +kernel
theorem dX2_sweep_76 : decode cX2_sweep 76 = .ok (.invokevirtual 116, 3) := by decide +kernel
theorem dX2_sweep_79 : decode cX2_sweep 79 = .ok (.iinc 4 1, 3) := by decide +kernel
theorem dX2_sweep_82 : decode cX2_sweep 82 = .ok (.goto (-53), 3) := by decide +kernel
theorem dX2_sweep_85 : decode cX2_sweep 85 = .ok (.iinc 3 1, 3) := by decide +kernel
theorem dX2_sweep_88 : decode cX2_sweep 88 = .ok (.goto (-73), 3) := by decide +kernel
theorem dX2_sweep_91 : decode cX2_sweep 91 = .ok (.aload_n 0, 1) := by decide +kernel
theorem dX2_sweep_92 : decode cX2_sweep 92 = .ok (.iload_n 1, 1) := by decide +kernel
theorem dX2_sweep_93 : decode cX2_sweep 93 = .ok (.iload_n 1, 1) := by decide +kernel
theorem dX2_sweep_94 : decode cX2_sweep 94 = .ok (.invokevirtual 101, 3) := by decide +kernel
theorem dX2_sweep_97 : decode cX2_sweep 97 = .ok (.aload_n 0, 1) := by decide +kernel
theorem dX2_sweep_98 : decode cX2_sweep 98 = .ok (.getfield 29, 3) := by decide +kernel
theorem dX2_sweep_101 : decode cX2_sweep 101 = .ok (.invokevirtual 112, 3) := by decide +kernel
theorem dX2_sweep_104 : decode cX2_sweep 104 = .ok (.aload_n 0, 1) := by decide +kernel
theorem dX2_sweep_105 : decode cX2_sweep 105 = .ok (.getfield 29, 3) := by decide +kernel
theorem dX2_sweep_108 : decode cX2_sweep 108 = .ok (.aload_n 0, 1) := by decide +kernel
theorem dX2_sweep_109 : decode cX2_sweep 109 = .ok (.getfield 33, 3) := by decide +kernel
theorem dX2_sweep_112 : decode cX2_sweep 112 = .ok (.invokevirtual 112, 3) := by decide +kernel
theorem dX2_sweep_115 : decode cX2_sweep 115 = .ok (.return_, 1) := by decide +kernel
theorem dX2_sweepEntry_0 : decode cX2_sweepEntry 0 = .ok (.aload_n 0, 1) := by decide +kernel
theorem dX2_sweepEntry_1 : decode cX2_sweepEntry 1 = .ok (.iload_n 1, 1) := by decide +kernel
theorem dX2_sweepEntry_2 : decode cX2_sweepEntry 2 = .ok (.iload_n 2, 1) := by decide +kernel
theorem dX2_sweepEntry_3 : decode cX2_sweepEntry 3 = .ok (.invokevirtual 101, 3) := by decide +kernel
theorem dX2_sweepEntry_6 : decode cX2_sweepEntry 6 = .ok (.astore 4, 2) := by decide +kernel
theorem dX2_sweepEntry_8 : decode cX2_sweepEntry 8 = .ok (.aload_n 0, 1) := by decide +kernel
theorem dX2_sweepEntry_9 : decode cX2_sweepEntry 9 = .ok (.getfield 36, 3) := by decide +kernel
theorem dX2_sweepEntry_12 : decode cX2_sweepEntry 12 = .ok (.aload_n 0, 1) := by decide +kernel
theorem dX2_sweepEntry_13 : decode cX2_sweepEntry 13 = .ok (.getfield 33, 3) := by decide +kernel
theorem dX2_sweepEntry_16 : decode cX2_sweepEntry 16 = .ok (.aload 4, 2) := by decide +kernel
theorem dX2_sweepEntry_18 : decode cX2_sweepEntry 18 = .ok (.invokevirtual 120, 3) := by decide +kernel
theorem dX2_sweepEntry_21 : decode cX2_sweepEntry 21 = .ok (.iload_n 1, 1) := by decide +kernel
theorem dX2_sweepEntry_22 : decode cX2_sweepEntry 22 = .ok (.iload_n 2, 1) := by decide +kernel
theorem dX2_sweepEntry_23 : decode cX2_sweepEntry 23 = .ok (.if_icmp .ne 41, 3) := by decide +kernel
theorem dX2_sweepEntry_26 : decode cX2_sweepEntry 26 = .ok (.iload_n 1, 1) := by decide +kernel
theorem dX2_sweepEntry_27 : decode cX2_sweepEntry 27 = .ok (.iload_n 3, 1) := by decide +kernel
theorem dX2_sweepEntry_28 : decode cX2_sweepEntry 28 = .ok (.if_icmp .le 36, 3) := by decide +kernel
theorem dX2_sweepEntry_31 : decode cX2_sweepEntry 31 = .ok (.aload_n 0, 1) := by decide +kernel
theorem dX2_sweepEntry_32 : decode cX2_sweepEntry 32 = .ok (.getfield 39, 3) := by decide +kernel
theorem dX2_sweepEntry_35 : decode cX2_sweepEntry 35 = .ok (.aload_n 0, 1) := by decide +kernel
theorem dX2_sweepEntry_36 : decode cX2_sweepEntry 36 = .ok (.iload_n 1, 1) := by decide +kernel
theorem dX2_sweepEntry_37 : decode cX2_sweepEntry 37 = .ok (.iload_n 3, 1) := by decide +kernel
theorem dX2_sweepEntry_38 : decode cX2_sweepEntry 38 = .ok (.invokevirtual 101, 3) := by decide +kernel
theorem dX2_sweepEntry_41 : decode cX2_sweepEntry 41 = .ok (.aload_n 0, 1) := by decide +kernel
theorem dX2_sweepEntry_42 : decode cX2_sweepEntry 42 = .ok (.iload_n 3, 1) := by decide +kernel
theorem dX2_sweepEntry_43 : decode cX2_sweepEntry 43 = .ok (.iload_n 2, 1) := by decide +kernel
theorem dX2_sweepEntry_44 : decode cX2_sweepEntry 44 = .ok (.invokevirtual 101, 3) := by decide +kernel
theorem dX2_sweepEntry_47 : decode cX2_sweepEntry 47 = .ok (.invokevirtual 120, 3) := by decide +kernel
theorem dX2_sweepEntry_50 : decode cX2_sweepEntry 50 = .ok (.aload_n 0, 1) := by decide +kernel
theorem dX2_sweepEntry_51 : decode cX2_sweepEntry 51 = .ok (.getfield 36, 3) := by decide +kernel
theorem dX2_sweepEntry_54 : decode cX2_sweepEntry 54 = .ok (.aload_n 0, 1) := by decide +kernel
theorem dX2_sweepEntry_55 : decode cX2_sweepEntry 55 = .ok (.getfield 39, 3) := by decide +kernel
theorem dX2_sweepEntry_58 : decode cX2_sweepEntry 58 = .ok (.invokevirtual 124, 3) := by decide +kernel
theorem dX2_sweepEntry_61 : decode cX2_sweepEntry 61 = .ok (.goto 22, 3) := by decide +kernel
theorem dX2_sweepEntry_64 : decode cX2_sweepEntry 64 = .ok (.aload_n 0, 1) := by decide +kernel
theorem dX2_sweepEntry_65 : decode cX2_sweepEntry 65 = .ok (.getfield 36, 3) := by decide +kernel
theorem dX2_sweepEntry_68 : decode cX2_sweepEntry 68 = .ok (.aload_n 0, 1) := by decide +kernel
theorem dX2_sweepEntry_69 : decode cX2_sweepEntry 69 = .ok (.iload_n 1, 1) := by decide +kernel
theorem dX2_sweepEntry_70 : decode cX2_sweepEntry 70 = .ok (.iload_n 3, 1) := by decide +kernel
theorem dX2_sweepEntry_71 : decode cX2_sweepEntry 71 = .ok (.invokevirtual 101, 3) := by decide +kernel
theorem dX2_sweepEntry_74 : decode cX2_sweepEntry 74 = .ok (.aload_n 0, 1) := by decide +kernel
theorem dX2_sweepEntry_75 : decode cX2_sweepEntry 75 = .ok (.iload_n 3, 1) := by decide +kernel
theorem dX2_sweepEntry_76 : decode cX2_sweepEntry 76 = .ok (.iload_n 2, 1) := by decide +kernel
theorem dX2_sweepEntry_77 : decode cX2_sweepEntry 77 = .ok (.invokevirtual 101, 3) := by decide +kernel
theorem dX2_sweepEntry_80 : decode cX2_sweepEntry 80 = .ok (.invokevirtual 127, 3) := by decide +kernel
theorem dX2_sweepEntry_83 : decode cX2_sweepEntry 83 = .ok (.aload_n 0, 1) := by decide +kernel
theorem dX2_sweepEntry_84 : decode cX2_sweepEntry 84 = .ok (.getfield 45, 3) := by decide +kernel
theorem dX2_sweepEntry_87 : decode cX2_sweepEntry 87 = .ok (.aload_n 0, 1) := by decide +kernel
theorem dX2_sweepEntry_88 : decode cX2_sweepEntry 88 = .ok (.getfield 36, 3) := by decide +kernel
theorem dX2_sweepEntry_91 : decode cX2_sweepEntry 91 = .ok (.aload_n 0, 1) := by decide +kernel
theorem dX2_sweepEntry_92 : decode cX2_sweepEntry 92 = .ok (.getfield 29, 3) := by decide +kernel
theorem dX2_sweepEntry_95 : decode cX2_sweepEntry 95 = .ok (.invokevirtual 130, 3) := by decide +kernel
theorem dX2_sweepEntry_98 : decode cX2_sweepEntry 98 = .ok (.aload 4, 2) := by decide +kernel
theorem dX2_sweepEntry_100 : decode cX2_sweepEntry 100 = .ok (.aload_n 0, 1) := by decide +kernel
theorem dX2_sweepEntry_101 : decode cX2_sweepEntry 101 = .ok (.getfield 45, 3) := by decide +kernel
theorem dX2_sweepEntry_104 : decode cX2_sweepEntry 104 = .ok (.getfield 133, 3) := by decide +kernel
theorem dX2_sweepEntry_107 : decode cX2_sweepEntry 107 = .ok (.invokevirtual 112, 3) := by decide +kernel
theorem dX2_sweepEntry_110 : decode cX2_sweepEntry 110 = .ok (.return_, 1) := by decide +kernel
theorem dX2_tellResistance_0 : decode cX2_tellResistance 0 = .ok (.aload_n 0, 1) := by decide +kernel
theorem dX2_tellResistance_1 : decode cX2_tellResistance 1 = .ok (.getfield 36, 3) := by decide +kernel
theorem dX2_tellResistance_4 : decode cX2_tellResistance 4 = .ok (.aload_n 0, 1) := by decide +kernel
theorem dX2_tellResistance_5 : decode cX2_tellResistance 5 = .ok (.iload_n 1, 1) := by decide +kernel
theorem dX2_tellResistance_6 : decode cX2_tellResistance 6 = .ok (.iload_n 2, 1) := by decide +kernel
theorem dX2_tellResistance_7 : decode cX2_tellResistance 7 = .ok (.invokevirtual 101, 3) := by decide +kernel
theorem dX2_tellResistance_10 : decode cX2_tellResistance 10 = .ok (.invokevirtual 112, 3) := by decide +kernel
theorem dX2_tellResistance_13 : decode cX2_tellResistance 13 = .ok (.aload_n 0, 1) := by decide +kernel
theorem dX2_tellResistance_14 : decode cX2_tellResistance 14 = .ok (.getfield 36, 3) := by decide +kernel
theorem dX2_tellResistance_17 : decode cX2_tellResistance 17 = .ok (.ldc2_w 136, 3) := by decide +kernel
theorem dX2_tellResistance_20 : decode cX2_tellResistance 20 = .ok (.invokevirtual 138, 3) := by decide +kernel
theorem dX2_tellResistance_23 : decode cX2_tellResistance 23 = .ok (.aload_n 3, 1) := by decide +kernel
theorem dX2_tellResistance_24 : decode cX2_tellResistance 24 = .ok (.getfield 141, 3) := by decide +kernel
theorem dX2_tellResistance_27 : decode cX2_tellResistance 27 = .ok (.aload_n 0, 1) := by decide +kernel
theorem dX2_tellResistance_28 : decode cX2_tellResistance 28 = .ok (.iload_n 1, 1) := by decide +kernel
theorem dX2_tellResistance_29 : decode cX2_tellResistance 29 = .ok (.iload_n 1, 1) := by decide +kernel
theorem dX2_tellResistance_30 : decode cX2_tellResistance 30 = .ok (.invokevirtual 101, 3) := by decide +kernel
theorem dX2_tellResistance_33 : decode cX2_tellResistance 33 = .ok (.invokevirtual 112, 3) := by decide +kernel
theorem dX2_tellResistance_36 : decode cX2_tellResistance 36 = .ok (.aload_n 3, 1) := by decide +kernel
theorem dX2_tellResistance_37 : decode cX2_tellResistance 37 = .ok (.getfield 141, 3) := by decide +kernel
theorem dX2_tellResistance_40 : decode cX2_tellResistance 40 = .ok (.aload_n 0, 1) := by decide +kernel
theorem dX2_tellResistance_41 : decode cX2_tellResistance 41 = .ok (.iload_n 2, 1) := by decide +kernel
theorem dX2_tellResistance_42 : decode cX2_tellResistance 42 = .ok (.iload_n 2, 1) := by decide +kernel
theorem dX2_tellResistance_43 : decode cX2_tellResistance 43 = .ok (.invokevirtual 101, 3) := by decide +kernel
theorem dX2_tellResistance_46 : decode cX2_tellResistance 46 = .ok (.lconst 1, 1) := by decide +kernel
theorem dX2_tellResistance_47 : decode cX2_tellResistance 47 = .ok (.invokevirtual 146, 3) := by decide +kernel
theorem dX2_tellResistance_50 : decode cX2_tellResistance 50 = .ok (.aload_n 3, 1) := by decide +kernel
theorem dX2_tellResistance_51 : decode cX2_tellResistance 51 = .ok (.getfield 141, 3) := by decide +kernel
theorem dX2_tellResistance_54 : decode cX2_tellResistance 54 = .ok (.aload_n 0, 1) := by decide +kernel
theorem dX2_tellResistance_55 : decode cX2_tellResistance 55 = .ok (.getfield 36, 3) := by decide +kernel
theorem dX2_tellResistance_58 : decode cX2_tellResistance 58 = .ok (.invokevirtual 124, 3) := by decide +kernel
theorem dX2_tellResistance_61 : decode cX2_tellResistance 61 = .ok (.aload_n 3, 1) := by decide +kernel
theorem dX2_tellResistance_62 : decode cX2_tellResistance 62 = .ok (.getfield 150, 3) := by decide +kernel
theorem dX2_tellResistance_65 : decode cX2_tellResistance 65 = .ok (.aload_n 0, 1) := by decide +kernel
theorem dX2_tellResistance_66 : decode cX2_tellResistance 66 = .ok (.getfield 29, 3) := by decide +kernel
theorem dX2_tellResistance_69 : decode cX2_tellResistance 69 = .ok (.invokevirtual 112, 3) := by decide +kernel
theorem dX2_tellResistance_72 : decode cX2_tellResistance 72 = .ok (.aload_n 0, 1) := by decide +kernel
theorem dX2_tellResistance_73 : decode cX2_tellResistance 73 = .ok (.getfield 45, 3) := by decide +kernel
theorem dX2_tellResistance_76 : decode cX2_tellResistance 76 = .ok (.aload_n 3, 1) := by decide +kernel
theorem dX2_tellResistance_77 : decode cX2_tellResistance 77 = .ok (.invokevirtual 153, 3) := by decide +kernel
theorem dX2_tellResistance_80 : decode cX2_tellResistance 80 = .ok (.return_, 1) := by decide +kernel
theorem dX2_tellCarried_0 : decode cX2_tellCarried 0 = .ok (.aload_n 2, 1) := by decide +kernel
theorem dX2_tellCarried_1 : decode cX2_tellCarried 1 = .ok (.getfield 141, 3) := by decide +kernel
theorem dX2_tellCarried_4 : decode cX2_tellCarried 4 = .ok (.lconst 0, 1) := by decide +kernel
theorem dX2_tellCarried_5 : decode cX2_tellCarried 5 = .ok (.invokevirtual 93, 3) := by decide +kernel
theorem dX2_tellCarried_8 : decode cX2_tellCarried 8 = .ok (.iconst 0, 1) := by decide +kernel
theorem dX2_tellCarried_9 : decode cX2_tellCarried 9 = .ok (.istore_n 3, 1) := by decide +kernel
theorem dX2_tellCarried_10 : decode cX2_tellCarried 10 = .ok (.iload_n 3, 1) := by decide +kernel
theorem dX2_tellCarried_11 : decode cX2_tellCarried 11 = .ok (.aload_n 0, 1) := by decide +kernel
theorem dX2_tellCarried_12 : decode cX2_tellCarried 12 = .ok (.getfield 57, 3) := by decide +kernel
theorem dX2_tellCarried_15 : decode cX2_tellCarried 15 = .ok (.getfield 61, 3) := by decide +kernel
theorem dX2_tellCarried_18 : decode cX2_tellCarried 18 = .ok (.if_icmp .ge 63, 3) := by decide +kernel
theorem dX2_tellCarried_21 : decode cX2_tellCarried 21 = .ok (.iload_n 3, 1) := by decide +kernel
theorem dX2_tellCarried_22 : decode cX2_tellCarried 22 = .ok (.iconst 1, 1) := by decide +kernel
theorem dX2_tellCarried_23 : decode cX2_tellCarried 23 = .ok (.iadd, 1) := by decide +kernel
theorem dX2_tellCarried_24 : decode cX2_tellCarried 24 = .ok (.istore 4, 2) := by decide +kernel
theorem dX2_tellCarried_26 : decode cX2_tellCarried 26 = .ok (.iload 4, 2) := by decide +kernel
theorem dX2_tellCarried_28 : decode cX2_tellCarried 28 = .ok (.aload_n 0, 1) := by decide +kernel
theorem dX2_tellCarried_29 : decode cX2_tellCarried 29 = .ok (.getfield 57, 3) := by decide +kernel
theorem dX2_tellCarried_32 : decode cX2_tellCarried 32 = .ok (.getfield 61, 3) := by decide +kernel
theorem dX2_tellCarried_35 : decode cX2_tellCarried 35 = .ok (.if_icmp .ge 40, 3) := by decide +kernel
theorem dX2_tellCarried_38 : decode cX2_tellCarried 38 = .ok (.aload_n 0, 1) := by decide +kernel
theorem dX2_tellCarried_39 : decode cX2_tellCarried 39 = .ok (.iload_n 3, 1) := by decide +kernel
theorem dX2_tellCarried_40 : decode cX2_tellCarried 40 = .ok (.iload_n 1, 1) := by decide +kernel
theorem dX2_tellCarried_41 : decode cX2_tellCarried 41 = .ok (.invokevirtual 157, 3) := by decide +kernel
theorem dX2_tellCarried_44 : decode cX2_tellCarried 44 = .ok (.ifCond .eq 25, 3) := by decide +kernel
theorem dX2_tellCarried_47 : decode cX2_tellCarried 47 = .ok (.aload_n 0, 1) := by decide +kernel
theorem dX2_tellCarried_48 : decode cX2_tellCarried 48 = .ok (.iload 4, 2) := by decide +kernel
theorem dX2_tellCarried_50 : decode cX2_tellCarried 50 = .ok (.iload_n 1, 1) := by decide +kernel
theorem dX2_tellCarried_51 : decode cX2_tellCarried 51 = .ok (.invokevirtual 157, 3) := by decide +kernel
theorem dX2_tellCarried_54 : decode cX2_tellCarried 54 = .ok (.ifCond .eq 15, 3) := by decide +kernel
theorem dX2_tellCarried_57 : decode cX2_tellCarried 57 = .ok (.aload_n 0, 1) := by decide +kernel
theorem dX2_tellCarried_58 : decode cX2_tellCarried 58 = .ok (.iload_n 1, 1) := by decide +kernel
theorem dX2_tellCarried_59 : decode cX2_tellCarried 59 = .ok (.iload_n 3, 1) := by decide +kernel
theorem dX2_tellCarried_60 : decode cX2_tellCarried 60 = .ok (.iload 4, 2) := by decide +kernel
theorem dX2_tellCarried_62 : decode cX2_tellCarried 62 = .ok (.aload_n 2, 1) := by decide +kernel
theorem dX2_tellCarried_63 : decode cX2_tellCarried 63 = .ok (.getfield 141, 3) := by decide +kernel
theorem dX2_tellCarried_66 : decode cX2_tellCarried 66 = .ok (.invokevirtual 160, 3) := by decide +kernel
theorem dX2_tellCarried_69 : decode cX2_tellCarried 69 = .ok (.iinc 4 1, 3) := by decide +kernel
theorem dX2_tellCarried_72 : decode cX2_tellCarried 72 = .ok (.goto (-46), 3) := by decide +kernel
theorem dX2_tellCarried_75 : decode cX2_tellCarried 75 = .ok (.iinc 3 1, 3) := by decide +kernel
theorem dX2_tellCarried_78 : decode cX2_tellCarried 78 = .ok (.goto (-68), 3) := by decide +kernel
theorem dX2_tellCarried_81 : decode cX2_tellCarried 81 = .ok (.aload_n 2, 1) := by decide +kernel
theorem dX2_tellCarried_82 : decode cX2_tellCarried 82 = .ok (.getfield 150, 3) := by decide +kernel
theorem dX2_tellCarried_85 : decode cX2_tellCarried 85 = .ok (.aload_n 0, 1) := by decide +kernel
theorem dX2_tellCarried_86 : decode cX2_tellCarried 86 = .ok (.getfield 29, 3) := by decide +kernel
theorem dX2_tellCarried_89 : decode cX2_tellCarried 89 = .ok (.invokevirtual 112, 3) := by decide +kernel
theorem dX2_tellCarried_92 : decode cX2_tellCarried 92 = .ok (.aload_n 2, 1) := by decide +kernel
theorem dX2_tellCarried_93 : decode cX2_tellCarried 93 = .ok (.getfield 150, 3) := by decide +kernel
theorem dX2_tellCarried_96 : decode cX2_tellCarried 96 = .ok (.ldc2_w 136, 3) := by decide +kernel
theorem dX2_tellCarried_99 : decode cX2_tellCarried 99 = .ok (.invokevirtual 138, 3) := by decide +kernel
theorem dX2_tellCarried_102 : decode cX2_tellCarried 102 = .ok (.aload_n 0, 1) := by decide +kernel
theorem dX2_tellCarried_103 : decode cX2_tellCarried 103 = .ok (.getfield 45, 3) := by decide +kernel
theorem dX2_tellCarried_106 : decode cX2_tellCarried 106 = .ok (.aload_n 2, 1) := by decide +kernel
theorem dX2_tellCarried_107 : decode cX2_tellCarried 107 = .ok (.invokevirtual 153, 3) := by decide +kernel
theorem dX2_tellCarried_110 : decode cX2_tellCarried 110 = .ok (.return_, 1) := by decide +kernel
theorem dX2_isOther_0 : decode cX2_isOther 0 = .ok (.iload_n 1, 1) := by decide +kernel
theorem dX2_isOther_1 : decode cX2_isOther 1 = .ok (.iload_n 2, 1) := by decide +kernel
theorem dX2_isOther_2 : decode cX2_isOther 2 = .ok (.if_icmp .eq 22, 3) := by decide +kernel
theorem dX2_isOther_5 : decode cX2_isOther 5 = .ok (.aload_n 0, 1) := by decide +kernel
theorem dX2_isOther_6 : decode cX2_isOther 6 = .ok (.getfield 9, 3) := by decide +kernel
theorem dX2_isOther_9 : decode cX2_isOther 9 = .ok (.iload_n 1, 1) := by decide +kernel
theorem dX2_isOther_10 : decode cX2_isOther 10 = .ok (.iaload, 1) := by decide +kernel
theorem dX2_isOther_11 : decode cX2_isOther 11 = .ok (.aload_n 0, 1) := by decide +kernel
theorem dX2_isOther_12 : decode cX2_isOther 12 = .ok (.getfield 9, 3) := by decide +kernel
theorem dX2_isOther_15 : decode cX2_isOther 15 = .ok (.iload_n 2, 1) := by decide +kernel
theorem dX2_isOther_16 : decode cX2_isOther 16 = .ok (.iaload, 1) := by decide +kernel
theorem dX2_isOther_17 : decode cX2_isOther 17 = .ok (.if_icmp .ne 7, 3) := by decide +kernel
theorem dX2_isOther_20 : decode cX2_isOther 20 = .ok (.iconst 1, 1) := by decide +kernel
theorem dX2_isOther_21 : decode cX2_isOther 21 = .ok (.goto 4, 3) := by decide +kernel
theorem dX2_isOther_24 : decode cX2_isOther 24 = .ok (.iconst 0, 1) := by decide +kernel
theorem dX2_isOther_25 : decode cX2_isOther 25 = .ok (.ireturn, 1) := by decide +kernel
theorem dX2_addFlows_0 : decode cX2_addFlows 0 = .ok (.iconst 0, 1) := by decide +kernel
theorem dX2_addFlows_1 : decode cX2_addFlows 1 = .ok (.istore 5, 2) := by decide +kernel
theorem dX2_addFlows_3 : decode cX2_addFlows 3 = .ok (.iload 5, 2) := by decide +kernel
theorem dX2_addFlows_5 : decode cX2_addFlows 5 = .ok (.aload_n 0, 1) := by decide +kernel
theorem dX2_addFlows_6 : decode cX2_addFlows 6 = .ok (.getfield 57, 3) := by decide +kernel
theorem dX2_addFlows_9 : decode cX2_addFlows 9 = .ok (.getfield 61, 3) := by decide +kernel
theorem dX2_addFlows_12 : decode cX2_addFlows 12 = .ok (.if_icmp .ge 45, 3) := by decide +kernel
theorem dX2_addFlows_15 : decode cX2_addFlows 15 = .ok (.aload_n 0, 1) := by decide +kernel
theorem dX2_addFlows_16 : decode cX2_addFlows 16 = .ok (.getfield 17, 3) := by decide +kernel
theorem dX2_addFlows_19 : decode cX2_addFlows 19 = .ok (.iload_n 1, 1) := by decide +kernel
theorem dX2_addFlows_20 : decode cX2_addFlows 20 = .ok (.aaload, 1) := by decide +kernel
theorem dX2_addFlows_21 : decode cX2_addFlows 21 = .ok (.iload 5, 2) := by decide +kernel
theorem dX2_addFlows_23 : decode cX2_addFlows 23 = .ok (.iaload, 1) := by decide +kernel
theorem dX2_addFlows_24 : decode cX2_addFlows 24 = .ok (.ifCond .le 27, 3) := by decide +kernel
theorem dX2_addFlows_27 : decode cX2_addFlows 27 = .ok (.aload 4, 2) := by decide +kernel
theorem dX2_addFlows_29 : decode cX2_addFlows 29 = .ok (.aload_n 0, 1) := by decide +kernel
theorem dX2_addFlows_30 : decode cX2_addFlows 30 = .ok (.iload_n 1, 1) := by decide +kernel
theorem dX2_addFlows_31 : decode cX2_addFlows 31 = .ok (.iload 5, 2) := by decide +kernel
theorem dX2_addFlows_33 : decode cX2_addFlows 33 = .ok (.iload_n 2, 1) := by decide +kernel
theorem dX2_addFlows_34 : decode cX2_addFlows 34 = .ok (.iload_n 3, 1) := by decide +kernel
theorem dX2_addFlows_35 : decode cX2_addFlows 35 = .ok (.invokevirtual 164, 3) := by decide +kernel
theorem dX2_addFlows_38 : decode cX2_addFlows 38 = .ok (.aload_n 0, 1) := by decide +kernel
theorem dX2_addFlows_39 : decode cX2_addFlows 39 = .ok (.getfield 17, 3) := by decide +kernel
theorem dX2_addFlows_42 : decode cX2_addFlows 42 = .ok (.iload_n 1, 1) := by decide +kernel
theorem dX2_addFlows_43 : decode cX2_addFlows 43 = .ok (.aaload, 1) := by decide +kernel
theorem dX2_addFlows_44 : decode cX2_addFlows 44 = .ok (.iload 5, 2) := by decide +kernel
theorem dX2_addFlows_46 : decode cX2_addFlows 46 = .ok (.iaload, 1) := by decide +kernel
theorem dX2_addFlows_47 : decode cX2_addFlows 47 = .ok (.i2l, 1) := by decide +kernel
theorem dX2_addFlows_48 : decode cX2_addFlows 48 = .ok (.invokevirtual 146, 3) := by decide +kernel
theorem dX2_addFlows_51 : decode cX2_addFlows 51 = .ok (.iinc 5 1, 3) := by decide +kernel
theorem dX2_addFlows_54 : decode cX2_addFlows 54 = .ok (.goto (-51), 3) := by decide +kernel
theorem dX2_addFlows_57 : decode cX2_addFlows 57 = .ok (.return_, 1) := by decide +kernel
theorem dX2_dropOf_0 : decode cX2_dropOf 0 = .ok (.aload_n 0, 1) := by decide +kernel
theorem dX2_dropOf_1 : decode cX2_dropOf 1 = .ok (.getfield 36, 3) := by decide +kernel
theorem dX2_dropOf_4 : decode cX2_dropOf 4 = .ok (.aload_n 0, 1) := by decide +kernel
theorem dX2_dropOf_5 : decode cX2_dropOf 5 = .ok (.iload_n 1, 1) := by decide +kernel
theorem dX2_dropOf_6 : decode cX2_dropOf 6 = .ok (.iload_n 3, 1) := by decide +kernel
theorem dX2_dropOf_7 : decode cX2_dropOf 7 = .ok (.invokevirtual 101, 3) := by decide +kernel
theorem dX2_dropOf_10 : decode cX2_dropOf 10 = .ok (.invokevirtual 112, 3) := by decide +kernel
theorem dX2_dropOf_13 : decode cX2_dropOf 13 = .ok (.aload_n 0, 1) := by decide +kernel
theorem dX2_dropOf_14 : decode cX2_dropOf 14 = .ok (.getfield 36, 3) := by decide +kernel
theorem dX2_dropOf_17 : decode cX2_dropOf 17 = .ok (.aload_n 0, 1) := by decide +kernel
theorem dX2_dropOf_18 : decode cX2_dropOf 18 = .ok (.iload_n 2, 1) := by decide +kernel
theorem dX2_dropOf_19 : decode cX2_dropOf 19 = .ok (.iload 4, 2) := by decide +kernel
theorem dX2_dropOf_21 : decode cX2_dropOf 21 = .ok (.invokevirtual 101, 3) := by decide +kernel
theorem dX2_dropOf_24 : decode cX2_dropOf 24 = .ok (.lconst 1, 1) := by decide +kernel
theorem dX2_dropOf_25 : decode cX2_dropOf 25 = .ok (.invokevirtual 146, 3) := by decide +kernel
theorem dX2_dropOf_28 : decode cX2_dropOf 28 = .ok (.aload_n 0, 1) := by decide +kernel
theorem dX2_dropOf_29 : decode cX2_dropOf 29 = .ok (.getfield 39, 3) := by decide +kernel
theorem dX2_dropOf_32 : decode cX2_dropOf 32 = .ok (.aload_n 0, 1) := by decide +kernel
theorem dX2_dropOf_33 : decode cX2_dropOf 33 = .ok (.iload_n 1, 1) := by decide +kernel
theorem dX2_dropOf_34 : decode cX2_dropOf 34 = .ok (.iload 4, 2) := by decide +kernel
theorem dX2_dropOf_36 : decode cX2_dropOf 36 = .ok (.invokevirtual 101, 3) := by decide +kernel
theorem dX2_dropOf_39 : decode cX2_dropOf 39 = .ok (.invokevirtual 112, 3) := by decide +kernel
theorem dX2_dropOf_42 : decode cX2_dropOf 42 = .ok (.aload_n 0, 1) := by decide +kernel
theorem dX2_dropOf_43 : decode cX2_dropOf 43 = .ok (.getfield 39, 3) := by decide +kernel
theorem dX2_dropOf_46 : decode cX2_dropOf 46 = .ok (.aload_n 0, 1) := by decide +kernel
theorem dX2_dropOf_47 : decode cX2_dropOf 47 = .ok (.iload_n 2, 1) := by decide +kernel
theorem dX2_dropOf_48 : decode cX2_dropOf 48 = .ok (.iload_n 3, 1) := by decide +kernel
theorem dX2_dropOf_49 : decode cX2_dropOf 49 = .ok (.invokevirtual 101, 3) := by decide +kernel
theorem dX2_dropOf_52 : decode cX2_dropOf 52 = .ok (.lconst 1, 1) := by decide +kernel
theorem dX2_dropOf_53 : decode cX2_dropOf 53 = .ok (.invokevirtual 146, 3) := by decide +kernel
theorem dX2_dropOf_56 : decode cX2_dropOf 56 = .ok (.aload_n 0, 1) := by decide +kernel
theorem dX2_dropOf_57 : decode cX2_dropOf 57 = .ok (.getfield 36, 3) := by decide +kernel
theorem dX2_dropOf_60 : decode cX2_dropOf 60 = .ok (.aload_n 0, 1) := by decide +kernel
theorem dX2_dropOf_61 : decode cX2_dropOf 61 = .ok (.getfield 39, 3) := by decide +kernel
theorem dX2_dropOf_64 : decode cX2_dropOf 64 = .ok (.invokevirtual 168, 3) := by decide +kernel
theorem dX2_dropOf_67 : decode cX2_dropOf 67 = .ok (.ifCond .ge 19, 3) := by decide +kernel
theorem dX2_dropOf_70 : decode cX2_dropOf 70 = .ok (.aload_n 0, 1) := by decide +kernel
theorem dX2_dropOf_71 : decode cX2_dropOf 71 = .ok (.getfield 39, 3) := by decide +kernel
theorem dX2_dropOf_74 : decode cX2_dropOf 74 = .ok (.aload_n 0, 1) := by decide +kernel
theorem dX2_dropOf_75 : decode cX2_dropOf 75 = .ok (.getfield 36, 3) := by decide +kernel
theorem dX2_dropOf_78 : decode cX2_dropOf 78 = .ok (.invokevirtual 124, 3) := by decide +kernel
theorem dX2_dropOf_81 : decode cX2_dropOf 81 = .ok (.aload_n 0, 1) := by decide +kernel
theorem dX2_dropOf_82 : decode cX2_dropOf 82 = .ok (.getfield 39, 3) := by decide +kernel
theorem dX2_dropOf_85 : decode cX2_dropOf 85 = .ok (.areturn, 1) := by decide +kernel
theorem dX2_dropOf_86 : decode cX2_dropOf 86 = .ok (.aload_n 0, 1) := by decide +kernel
theorem dX2_dropOf_87 : decode cX2_dropOf 87 = .ok (.getfield 36, 3) := by decide +kernel
theorem dX2_dropOf_90 : decode cX2_dropOf 90 = .ok (.aload_n 0, 1) := by decide +kernel
theorem dX2_dropOf_91 : decode cX2_dropOf 91 = .ok (.getfield 39, 3) := by decide +kernel
theorem dX2_dropOf_94 : decode cX2_dropOf 94 = .ok (.invokevirtual 124, 3) := by decide +kernel
theorem dX2_dropOf_97 : decode cX2_dropOf 97 = .ok (.aload_n 0, 1) := by decide +kernel
theorem dX2_dropOf_98 : decode cX2_dropOf 98 = .ok (.getfield 36, 3) := by decide +kernel
theorem dX2_dropOf_101 : decode cX2_dropOf 101 = .ok (.areturn, 1) := by decide +kernel
theorem dX3_init_0 : decode cX3_init 0 = .ok (.aload_n 0, 1) := by decide +kernel
theorem dX3_init_1 : decode cX3_init 1 = .ok (.invokespecial 3, 3) := by decide +kernel
theorem dX3_init_4 : decode cX3_init 4 = .ok (.aload_n 0, 1) := by decide +kernel
theorem dX3_init_5 : decode cX3_init 5 = .ok (.new 9, 3) := by decide +kernel
theorem dX3_init_8 : decode cX3_init 8 = .ok (.dup, 1) := by decide +kernel
theorem dX3_init_9 : decode cX3_init 9 = .ok (.bipush 50, 2) := by decide +kernel
theorem dX3_init_11 : decode cX3_init 11 = .ok (.invokespecial 11, 3) := by decide +kernel
theorem dX3_init_14 : decode cX3_init 14 = .ok (.putfield 14, 3) := by decide +kernel
theorem dX3_init_17 : decode cX3_init 17 = .ok (.aload_n 0, 1) := by decide +kernel
theorem dX3_init_18 : decode cX3_init 18 = .ok (.new 9, 3) := by decide +kernel
theorem dX3_init_21 : decode cX3_init 21 = .ok (.dup, 1) := by decide +kernel
theorem dX3_init_22 : decode cX3_init 22 = .ok (.bipush 50, 2) := by decide +kernel
theorem dX3_init_24 : decode cX3_init 24 = .ok (.invokespecial 11, 3) := by decide +kernel
theorem dX3_init_27 : decode cX3_init 27 = .ok (.putfield 20, 3) := by decide +kernel
theorem dX3_init_30 : decode cX3_init 30 = .ok (.aload_n 0, 1) := by decide +kernel
theorem dX3_init_31 : decode cX3_init 31 = .ok (.getfield 20, 3) := by decide +kernel
theorem dX3_init_34 : decode cX3_init 34 = .ok (.lconst 1, 1) := by decide +kernel
theorem dX3_init_35 : decode cX3_init 35 = .ok (.invokevirtual 23, 3) := by decide +kernel
theorem dX3_init_38 : decode cX3_init 38 = .ok (.return_, 1) := by decide +kernel
theorem dX3_clear_0 : decode cX3_clear 0 = .ok (.aload_n 0, 1) := by decide +kernel
theorem dX3_clear_1 : decode cX3_clear 1 = .ok (.getfield 14, 3) := by decide +kernel
theorem dX3_clear_4 : decode cX3_clear 4 = .ok (.lconst 0, 1) := by decide +kernel
theorem dX3_clear_5 : decode cX3_clear 5 = .ok (.invokevirtual 23, 3) := by decide +kernel
theorem dX3_clear_8 : decode cX3_clear 8 = .ok (.aload_n 0, 1) := by decide +kernel
theorem dX3_clear_9 : decode cX3_clear 9 = .ok (.getfield 20, 3) := by decide +kernel
theorem dX3_clear_12 : decode cX3_clear 12 = .ok (.lconst 1, 1) := by decide +kernel
theorem dX3_clear_13 : decode cX3_clear 13 = .ok (.invokevirtual 23, 3) := by decide +kernel
theorem dX3_clear_16 : decode cX3_clear 16 = .ok (.return_, 1) := by decide +kernel
theorem dX3_limb_0 : decode cX3_limb 0 = .ok (.iload_n 1, 1) := by decide +kernel
theorem dX3_limb_1 : decode cX3_limb 1 = .ok (.ifCond .ne 14, 3) := by decide +kernel
theorem dX3_limb_4 : decode cX3_limb 4 = .ok (.aload_n 0, 1) := by decide +kernel
theorem dX3_limb_5 : decode cX3_limb 5 = .ok (.getfield 14, 3) := by decide +kernel
theorem dX3_limb_8 : decode cX3_limb 8 = .ok (.iload_n 2, 1) := by decide +kernel
theorem dX3_limb_9 : decode cX3_limb 9 = .ok (.invokevirtual 27, 3) := by decide +kernel
theorem dX3_limb_12 : decode cX3_limb 12 = .ok (.goto 11, 3) := by decide +kernel
theorem dX3_limb_15 : decode cX3_limb 15 = .ok (.aload_n 0, 1) := by decide +kernel
theorem dX3_limb_16 : decode cX3_limb 16 = .ok (.getfield 20, 3) := by decide +kernel
theorem dX3_limb_19 : decode cX3_limb 19 = .ok (.iload_n 2, 1) := by decide +kernel
theorem dX3_limb_20 : decode cX3_limb 20 = .ok (.invokevirtual 27, 3) := by decide +kernel
theorem dX3_limb_23 : decode cX3_limb 23 = .ok (.lreturn, 1) := by decide +kernel
theorem dX3_addRatio_0 : decode cX3_addRatio 0 = .ok (.iload_n 1, 1) := by decide +kernel
theorem dX3_addRatio_1 : decode cX3_addRatio 1 = .ok (.ifCond .le 7, 3) := by decide +kernel
theorem dX3_addRatio_4 : decode cX3_addRatio 4 = .ok (.iload_n 2, 1) := by decide +kernel
theorem dX3_addRatio_5 : decode cX3_addRatio 5 = .ok (.ifCond .gt 4, 3) := by decide +kernel
theorem dX3_addRatio_8 : decode cX3_addRatio 8 = .ok (.return_, 1) := by decide +kernel
theorem dX3_addRatio_9 : decode cX3_addRatio 9 = .ok (.iload_n 1, 1) := by decide +kernel
theorem dX3_addRatio_10 : decode cX3_addRatio 10 = .ok (.iload_n 2, 1) := by decide +kernel
theorem dX3_addRatio_11 : decode cX3_addRatio 11 = .ok (.invokestatic 31, 3) := by decide +kernel
theorem dX3_addRatio_14 : decode cX3_addRatio 14 = .ok (.istore_n 3, 1) := by decide +kernel
theorem dX3_addRatio_15 : decode cX3_addRatio 15 = .ok (.iload_n 2, 1) := by decide +kernel
theorem dX3_addRatio_16 : decode cX3_addRatio 16 = .ok (.iload_n 3, 1) := by decide +kernel
theorem dX3_addRatio_17 : decode cX3_addRatio 17 = .ok (.idiv, 1) := by decide +kernel
theorem dX3_addRatio_18 : decode cX3_addRatio 18 = .ok (.istore 4, 2) := by decide +kernel
theorem dX3_addRatio_20 : decode cX3_addRatio 20 = .ok (.iload 4, 2) := by decide +kernel
theorem dX3_addRatio_22 : decode cX3_addRatio 22 = .ok (.aload_n 0, 1) := by decide +kernel
theorem dX3_addRatio_23 : decode cX3_addRatio 23 = .ok (.getfield 20, 3) := by decide +kernel
theorem dX3_addRatio_26 : decode cX3_addRatio 26 = .ok (.iload 4, 2) := by decide +kernel
theorem dX3_addRatio_28 : decode cX3_addRatio 28 = .ok (.invokevirtual 35, 3) := by decide +kernel
theorem dX3_addRatio_31 : decode cX3_addRatio 31 = .ok (.invokestatic 31, 3) := by decide +kernel
theorem dX3_addRatio_34 : decode cX3_addRatio 34 = .ok (.istore 5, 2) := by decide +kernel
theorem dX3_addRatio_36 : decode cX3_addRatio 36 = .ok (.aload_n 0, 1) := by decide +kernel
theorem dX3_addRatio_37 : decode cX3_addRatio 37 = .ok (.getfield 20, 3) := by decide +kernel
theorem dX3_addRatio_40 : decode cX3_addRatio 40 = .ok (.iload 5, 2) := by decide +kernel
theorem dX3_addRatio_42 : decode cX3_addRatio 42 = .ok (.i2l, 1) := by decide +kernel
theorem dX3_addRatio_43 : decode cX3_addRatio 43 = .ok (.invokevirtual 39, 3) := by decide +kernel
theorem dX3_addRatio_46 : decode cX3_addRatio 46 = .ok (.pop2, 1) := by decide +kernel
theorem dX3_addRatio_47 : decode cX3_addRatio 47 = .ok (.aload_n 0, 1) := by decide +kernel
theorem dX3_addRatio_48 : decode cX3_addRatio 48 = .ok (.getfield 14, 3) := by decide +kernel
theorem dX3_addRatio_51 : decode cX3_addRatio 51 = .ok (.iload 4, 2) := by decide +kernel
theorem dX3_addRatio_53 : decode cX3_addRatio 53 = .ok (.iload 5, 2) := by decide +kernel
theorem dX3_addRatio_55 : decode cX3_addRatio 55 = .ok (.idiv, 1) := by decide +kernel
theorem dX3_addRatio_56 : decode cX3_addRatio 56 = .ok (.i2l, 1) := by decide +kernel
theorem dX3_addRatio_57 : decode cX3_addRatio 57 = .ok (.invokevirtual 43, 3) := by decide +kernel
theorem dX3_addRatio_60 : decode cX3_addRatio 60 = .ok (.aload_n 0, 1) := by decide +kernel
theorem dX3_addRatio_61 : decode cX3_addRatio 61 = .ok (.getfield 14, 3) := by decide +kernel
theorem dX3_addRatio_64 : decode cX3_addRatio 64 = .ok (.aload_n 0, 1) := by decide +kernel
theorem dX3_addRatio_65 : decode cX3_addRatio 65 = .ok (.getfield 20, 3) := by decide +kernel
theorem dX3_addRatio_68 : decode cX3_addRatio 68 = .ok (.iload_n 1, 1) := by decide +kernel
theorem dX3_addRatio_69 : decode cX3_addRatio 69 = .ok (.iload_n 3, 1) := by decide +kernel
theorem dX3_addRatio_70 : decode cX3_addRatio 70 = .ok (.idiv, 1) := by decide +kernel
theorem dX3_addRatio_71 : decode cX3_addRatio 71 = .ok (.i2l, 1) := by decide +kernel
theorem dX3_addRatio_72 : decode cX3_addRatio 72 = .ok (.invokevirtual 46, 3) := by decide +kernel
theorem dX3_addRatio_75 : decode cX3_addRatio 75 = .ok (.iload 5, 2) := by decide +kernel
theorem dX3_addRatio_77 : decode cX3_addRatio 77 = .ok (.aload_n 0, 1) := by decide +kernel
theorem dX3_addRatio_78 : decode cX3_addRatio 78 = .ok (.getfield 14, 3) := by decide +kernel
theorem dX3_addRatio_81 : decode cX3_addRatio 81 = .ok (.iload 5, 2) := by decide +kernel
theorem dX3_addRatio_83 : decode cX3_addRatio 83 = .ok (.invokevirtual 35, 3) := by decide +kernel
theorem dX3_addRatio_86 : decode cX3_addRatio 86 = .ok (.invokestatic 31, 3) := by decide +kernel
theorem dX3_addRatio_89 : decode cX3_addRatio 89 = .ok (.istore 6, 2) := by decide +kernel
theorem dX3_addRatio_91 : decode cX3_addRatio 91 = .ok (.aload_n 0, 1) := by decide +kernel
theorem dX3_addRatio_92 : decode cX3_addRatio 92 = .ok (.getfield 14, 3) := by decide +kernel
theorem dX3_addRatio_95 : decode cX3_addRatio 95 = .ok (.iload 6, 2) := by decide +kernel
theorem dX3_addRatio_97 : decode cX3_addRatio 97 = .ok (.i2l, 1) := by decide +kernel
theorem dX3_addRatio_98 : decode cX3_addRatio 98 = .ok (.invokevirtual 39, 3) := by decide +kernel
theorem dX3_addRatio_101 : decode cX3_addRatio 101 = .ok (.pop2, 1) := by decide +kernel
theorem dX3_addRatio_102 : decode cX3_addRatio 102 = .ok (.aload_n 0, 1) := by decide +kernel
theorem dX3_addRatio_103 : decode cX3_addRatio 103 = .ok (.getfield 20, 3) := by decide +kernel
theorem dX3_addRatio_106 : decode cX3_addRatio 106 = .ok (.iload 4, 2) := by decide +kernel
theorem dX3_addRatio_108 : decode cX3_addRatio 108 = .ok (.iload 6, 2) := by decide +kernel
theorem dX3_addRatio_110 : decode cX3_addRatio 110 = .ok (.idiv, 1) := by decide +kernel
theorem dX3_addRatio_111 : decode cX3_addRatio 111 = .ok (.i2l, 1) := by decide +kernel
theorem dX3_addRatio_112 : decode cX3_addRatio 112 = .ok (.invokevirtual 43, 3) := by decide +kernel
theorem dX3_addRatio_115 : decode cX3_addRatio 115 = .ok (.return_, 1) := by decide +kernel
theorem dX3_commonDivisor_0 : decode cX3_commonDivisor 0 = .ok (.iload_n 0, 1) := by decide +kernel
theorem dX3_commonDivisor_1 : decode cX3_commonDivisor 1 = .ok (.istore_n 2, 1) := by decide +kernel
theorem dX3_commonDivisor_2 : decode cX3_commonDivisor 2 = .ok (.iload_n 1, 1) := by decide +kernel
theorem dX3_commonDivisor_3 : decode cX3_commonDivisor 3 = .ok (.istore_n 3, 1) := by decide +kernel
theorem dX3_commonDivisor_4 : decode cX3_commonDivisor 4 = .ok (.iconst 0, 1) := by decide +kernel
theorem dX3_commonDivisor_5 : decode cX3_commonDivisor 5 = .ok (.istore 4, 2) := by decide +kernel
theorem dX3_commonDivisor_7 : decode cX3_commonDivisor 7 = .ok (.iload 4, 2) := by decide +kernel
theorem dX3_commonDivisor_9 : decode cX3_commonDivisor 9 = .ok (.sipush 400, 3) := by decide +kernel
theorem dX3_commonDivisor_12 : decode cX3_commonDivisor 12 = .ok (.if_icmp .ge 23, 3) := by decide +kernel
theorem dX3_commonDivisor_15 : decode cX3_commonDivisor 15 = .ok (.iload_n 3, 1) := by decide +kernel
theorem dX3_commonDivisor_16 : decode cX3_commonDivisor 16 = .ok (.ifCond .eq 19, 3) := by decide +kernel
theorem dX3_commonDivisor_19 : decode cX3_commonDivisor 19 = .ok (.iload_n 2, 1) := by decide +kernel
theorem dX3_commonDivisor_20 : decode cX3_commonDivisor 20 = .ok (.iload_n 3, 1) := by decide +kernel
theorem dX3_commonDivisor_21 : decode cX3_commonDivisor 21 = .ok (.irem, 1) := by decide +kernel
theorem dX3_commonDivisor_22 : decode cX3_commonDivisor 22 = .ok (.istore 5, 2) := by decide +kernel
theorem dX3_commonDivisor_24 : decode cX3_commonDivisor 24 = .ok (.iload_n 3, 1) := by decide +kernel
theorem dX3_commonDivisor_25 : decode cX3_commonDivisor 25 = .ok (.istore_n 2, 1) := by decide +kernel
theorem dX3_commonDivisor_26 : decode cX3_commonDivisor 26 = .ok (.iload 5, 2) := by decide +kernel
theorem dX3_commonDivisor_28 : decode cX3_commonDivisor 28 = .ok (.istore_n 3, 1) := by decide +kernel
theorem dX3_commonDivisor_29 : decode cX3_commonDivisor 29 = .ok (.iinc 4 1, 3) := by decide +kernel
theorem dX3_commonDivisor_32 : decode cX3_commonDivisor 32 = .ok (.goto (-25), 3) := by decide +kernel
theorem dX3_commonDivisor_35 : decode cX3_commonDivisor 35 = .ok (.iload_n 2, 1) := by decide +kernel
theorem dX3_commonDivisor_36 : decode cX3_commonDivisor 36 = .ok (.iconst 1, 1) := by decide +kernel
theorem dX3_commonDivisor_37 : decode cX3_commonDivisor 37 = .ok (.invokestatic 50, 3) := by decide +kernel
theorem dX3_commonDivisor_40 : decode cX3_commonDivisor 40 = .ok (.ireturn, 1) := by decide +kernel
theorem dX4_init_0 : decode cX4_init 0 = .ok (.aload_n 0, 1) := by decide +kernel
theorem dX4_init_1 : decode cX4_init 1 = .ok (.invokespecial 3, 3) := by decide +kernel
theorem dX4_init_4 : decode cX4_init 4 = .ok (.aload_n 0, 1) := by decide +kernel
theorem dX4_init_5 : decode cX4_init 5 = .ok (.iconst 0, 1) := by decide +kernel
theorem dX4_init_6 : decode cX4_init 6 = .ok (.putfield 9, 3) := by decide +kernel
theorem dX4_init_9 : decode cX4_init 9 = .ok (.aload_n 0, 1) := by decide +kernel
theorem dX4_init_10 : decode cX4_init 10 = .ok (.iconst 0, 1) := by decide +kernel
theorem dX4_init_11 : decode cX4_init 11 = .ok (.putfield 15, 3) := by decide +kernel
theorem dX4_init_14 : decode cX4_init 14 = .ok (.aload_n 0, 1) := by decide +kernel
theorem dX4_init_15 : decode cX4_init 15 = .ok (.bipush 30, 2) := by decide +kernel
theorem dX4_init_17 : decode cX4_init 17 = .ok (.newarray .int, 2) := by decide +kernel
theorem dX4_init_19 : decode cX4_init 19 = .ok (.putfield 18, 3) := by decide +kernel
theorem dX4_init_22 : decode cX4_init 22 = .ok (.aload_n 0, 1) := by decide +kernel
theorem dX4_init_23 : decode cX4_init 23 = .ok (.bipush 30, 2) := by decide +kernel
theorem dX4_init_25 : decode cX4_init 25 = .ok (.newarray .int, 2) := by decide +kernel
theorem dX4_init_27 : decode cX4_init 27 = .ok (.putfield 22, 3) := by decide +kernel
theorem dX4_init_30 : decode cX4_init 30 = .ok (.aload_n 0, 1) := by decide +kernel
theorem dX4_init_31 : decode cX4_init 31 = .ok (.bipush 30, 2) := by decide +kernel
theorem dX4_init_33 : decode cX4_init 33 = .ok (.newarray .int, 2) := by decide +kernel
theorem dX4_init_35 : decode cX4_init 35 = .ok (.putfield 25, 3) := by decide +kernel
theorem dX4_init_38 : decode cX4_init 38 = .ok (.return_, 1) := by decide +kernel
theorem dX4_hasNode_0 : decode cX4_hasNode 0 = .ok (.iload_n 1, 1) := by decide +kernel
theorem dX4_hasNode_1 : decode cX4_hasNode 1 = .ok (.ifCond .lt 15, 3) := by decide +kernel
theorem dX4_hasNode_4 : decode cX4_hasNode 4 = .ok (.iload_n 1, 1) := by decide +kernel
theorem dX4_hasNode_5 : decode cX4_hasNode 5 = .ok (.aload_n 0, 1) := by decide +kernel
theorem dX4_hasNode_6 : decode cX4_hasNode 6 = .ok (.getfield 9, 3) := by decide +kernel
theorem dX4_hasNode_9 : decode cX4_hasNode 9 = .ok (.if_icmp .ge 7, 3) := by decide +kernel
theorem dX4_hasNode_12 : decode cX4_hasNode 12 = .ok (.iconst 1, 1) := by decide +kernel
theorem dX4_hasNode_13 : decode cX4_hasNode 13 = .ok (.goto 4, 3) := by decide +kernel
theorem dX4_hasNode_16 : decode cX4_hasNode 16 = .ok (.iconst 0, 1) := by decide +kernel
theorem dX4_hasNode_17 : decode cX4_hasNode 17 = .ok (.ireturn, 1) := by decide +kernel
theorem dX4_hasArc_0 : decode cX4_hasArc 0 = .ok (.iload_n 1, 1) := by decide +kernel
theorem dX4_hasArc_1 : decode cX4_hasArc 1 = .ok (.ifCond .lt 15, 3) := by decide +kernel
theorem dX4_hasArc_4 : decode cX4_hasArc 4 = .ok (.iload_n 1, 1) := by decide +kernel
theorem dX4_hasArc_5 : decode cX4_hasArc 5 = .ok (.aload_n 0, 1) := by decide +kernel
theorem dX4_hasArc_6 : decode cX4_hasArc 6 = .ok (.getfield 15, 3) := by decide +kernel
theorem dX4_hasArc_9 : decode cX4_hasArc 9 = .ok (.if_icmp .ge 7, 3) := by decide +kernel
theorem dX4_hasArc_12 : decode cX4_hasArc 12 = .ok (.iconst 1, 1) := by decide +kernel
theorem dX4_hasArc_13 : decode cX4_hasArc 13 = .ok (.goto 4, 3) := by decide +kernel
theorem dX4_hasArc_16 : decode cX4_hasArc 16 = .ok (.iconst 0, 1) := by decide +kernel
theorem dX4_hasArc_17 : decode cX4_hasArc 17 = .ok (.ireturn, 1) := by decide +kernel
theorem dX4_isWeight_0 : decode cX4_isWeight 0 = .ok (.iload_n 1, 1) := by decide +kernel
theorem dX4_isWeight_1 : decode cX4_isWeight 1 = .ok (.ifCond .lt 14, 3) := by decide +kernel
theorem dX4_isWeight_4 : decode cX4_isWeight 4 = .ok (.iload_n 1, 1) := by decide +kernel
theorem dX4_isWeight_5 : decode cX4_isWeight 5 = .ok (.sipush 1000, 3) := by decide +kernel
theorem dX4_isWeight_8 : decode cX4_isWeight 8 = .ok (.if_icmp .gt 7, 3) := by decide +kernel
theorem dX4_isWeight_11 : decode cX4_isWeight 11 = .ok (.iconst 1, 1) := by decide +kernel
theorem dX4_isWeight_12 : decode cX4_isWeight 12 = .ok (.goto 4, 3) := by decide +kernel
theorem dX4_isWeight_15 : decode cX4_isWeight 15 = .ok (.iconst 0, 1) := by decide +kernel
theorem dX4_isWeight_16 : decode cX4_isWeight 16 = .ok (.ireturn, 1) := by decide +kernel
theorem dX4_addNode_0 : decode cX4_addNode 0 = .ok (.aload_n 0, 1) := by decide +kernel
theorem dX4_addNode_1 : decode cX4_addNode 1 = .ok (.getfield 9, 3) := by decide +kernel
theorem dX4_addNode_4 : decode cX4_addNode 4 = .ok (.bipush 10, 2) := by decide +kernel
theorem dX4_addNode_6 : decode cX4_addNode 6 = .ok (.if_icmp .lt 5, 3) := by decide +kernel
theorem dX4_addNode_9 : decode cX4_addNode 9 = .ok (.iconst (-1), 1) := by decide +kernel
theorem dX4_addNode_10 : decode cX4_addNode 10 = .ok (.ireturn, 1) := by decide +kernel
theorem dX4_addNode_11 : decode cX4_addNode 11 = .ok (.aload_n 0, 1) := by decide +kernel
theorem dX4_addNode_12 : decode cX4_addNode 12 = .ok (.dup, 1) := by decide +kernel
theorem dX4_addNode_13 : decode cX4_addNode 13 = .ok (.getfield 9, 3) := by decide +kernel
theorem dX4_addNode_16 : decode cX4_addNode 16 = .ok (.iconst 1, 1) := by decide +kernel
theorem dX4_addNode_17 : decode cX4_addNode 17 = .ok (.iadd, 1) := by decide +kernel
theorem dX4_addNode_18 : decode cX4_addNode 18 = .ok (.putfield 9, 3) := by decide +kernel
theorem dX4_addNode_21 : decode cX4_addNode 21 = .ok (.aload_n 0, 1) := by decide +kernel
theorem dX4_addNode_22 : decode cX4_addNode 22 = .ok (.getfield 9, 3) := by decide +kernel
theorem dX4_addNode_25 : decode cX4_addNode 25 = .ok (.iconst 1, 1) := by decide +kernel
theorem dX4_addNode_26 : decode cX4_addNode 26 = .ok (.isub, 1) := by decide +kernel
theorem dX4_addNode_27 : decode cX4_addNode 27 = .ok (.ireturn, 1) := by decide +kernel
theorem dX4_addArc_0 : decode cX4_addArc 0 = .ok (.aload_n 0, 1) := by decide +kernel
theorem dX4_addArc_1 : decode cX4_addArc 1 = .ok (.iload_n 1, 1) := by decide +kernel
theorem dX4_addArc_2 : decode cX4_addArc 2 = .ok (.invokevirtual 28, 3) := by decide +kernel
theorem dX4_addArc_5 : decode cX4_addArc 5 = .ok (.ifCond .eq 16, 3) := by decide +kernel
theorem dX4_addArc_8 : decode cX4_addArc 8 = .ok (.aload_n 0, 1) := by decide +kernel
theorem dX4_addArc_9 : decode cX4_addArc 9 = .ok (.iload_n 2, 1) := by decide +kernel
theorem dX4_addArc_10 : decode cX4_addArc 10 = .ok (.invokevirtual 28, 3) := by decide +kernel
theorem dX4_addArc_13 : decode cX4_addArc 13 = .ok (.ifCond .eq 8, 3) := by decide +kernel
theorem dX4_addArc_16 : decode cX4_addArc 16 = .ok (.iload_n 1, 1) := by decide +kernel
theorem dX4_addArc_17 : decode cX4_addArc 17 = .ok (.iload_n 2, 1) := by decide +kernel
theorem dX4_addArc_18 : decode cX4_addArc 18 = .ok (.if_icmp .ne 5, 3) := by decide +kernel
theorem dX4_addArc_21 : decode cX4_addArc 21 = .ok (.iconst (-1), 1) := by decide +kernel
theorem dX4_addArc_22 : decode cX4_addArc 22 = .ok (.ireturn, 1) := by decide +kernel
theorem dX4_addArc_23 : decode cX4_addArc 23 = .ok (.aload_n 0, 1) := by decide +kernel
theorem dX4_addArc_24 : decode cX4_addArc 24 = .ok (.iload_n 3, 1) := by decide +kernel
theorem dX4_addArc_25 : decode cX4_addArc 25 = .ok (.invokevirtual 32, 3) := by decide +kernel
theorem dX4_addArc_28 : decode cX4_addArc 28 = .ok (.ifCond .eq 12, 3) := by decide +kernel
theorem dX4_addArc_31 : decode cX4_addArc 31 = .ok (.aload_n 0, 1) := by decide +kernel
theorem dX4_addArc_32 : decode cX4_addArc 32 = .ok (.getfield 15, 3) := by decide +kernel
theorem dX4_addArc_35 : decode cX4_addArc 35 = .ok (.bipush 30, 2) := by decide +kernel
theorem dX4_addArc_37 : decode cX4_addArc 37 = .ok (.if_icmp .lt 5, 3) := by decide +kernel
theorem dX4_addArc_40 : decode cX4_addArc 40 = .ok (.iconst (-1), 1) := by decide +kernel
theorem dX4_addArc_41 : decode cX4_addArc 41 = .ok (.ireturn, 1) := by decide +kernel
theorem dX4_addArc_42 : decode cX4_addArc 42 = .ok (.aload_n 0, 1) := by decide +kernel
theorem dX4_addArc_43 : decode cX4_addArc 43 = .ok (.getfield 18, 3) := by decide +kernel
theorem dX4_addArc_46 : decode cX4_addArc 46 = .ok (.aload_n 0, 1) := by decide +kernel
theorem dX4_addArc_47 : decode cX4_addArc 47 = .ok (.getfield 15, 3) := by decide +kernel
theorem dX4_addArc_50 : decode cX4_addArc 50 = .ok (.iload_n 1, 1) := by decide +kernel
theorem dX4_addArc_51 : decode cX4_addArc 51 = .ok (.iastore, 1) := by decide +kernel
theorem dX4_addArc_52 : decode cX4_addArc 52 = .ok (.aload_n 0, 1) := by decide +kernel
theorem dX4_addArc_53 : decode cX4_addArc 53 = .ok (.getfield 22, 3) := by decide +kernel
theorem dX4_addArc_56 : decode cX4_addArc 56 = .ok (.aload_n 0, 1) := by decide +kernel
theorem dX4_addArc_57 : decode cX4_addArc 57 = .ok (.getfield 15, 3) := by decide +kernel
theorem dX4_addArc_60 : decode cX4_addArc 60 = .ok (.iload_n 2, 1) := by decide +kernel
theorem dX4_addArc_61 : decode cX4_addArc 61 = .ok (.iastore, 1) := by decide +kernel
theorem dX4_addArc_62 : decode cX4_addArc 62 = .ok (.aload_n 0, 1) := by decide +kernel
theorem dX4_addArc_63 : decode cX4_addArc 63 = .ok (.getfield 25, 3) := by decide +kernel
theorem dX4_addArc_66 : decode cX4_addArc 66 = .ok (.aload_n 0, 1) := by decide +kernel
theorem dX4_addArc_67 : decode cX4_addArc 67 = .ok (.getfield 15, 3) := by decide +kernel
theorem dX4_addArc_70 : decode cX4_addArc 70 = .ok (.iload_n 3, 1) := by decide +kernel
theorem dX4_addArc_71 : decode cX4_addArc 71 = .ok (.iastore, 1) := by decide +kernel
theorem dX4_addArc_72 : decode cX4_addArc 72 = .ok (.aload_n 0, 1) := by decide +kernel
theorem dX4_addArc_73 : decode cX4_addArc 73 = .ok (.dup, 1) := by decide +kernel
theorem dX4_addArc_74 : decode cX4_addArc 74 = .ok (.getfield 15, 3) := by decide +kernel
theorem dX4_addArc_77 : decode cX4_addArc 77 = .ok (.iconst 1, 1) := by decide +kernel
theorem dX4_addArc_78 : decode cX4_addArc 78 = .ok (.iadd, 1) := by decide +kernel
theorem dX4_addArc_79 : decode cX4_addArc 79 = .ok (.putfield 15, 3) := by decide +kernel
theorem dX4_addArc_82 : decode cX4_addArc 82 = .ok (.aload_n 0, 1) := by decide +kernel
theorem dX4_addArc_83 : decode cX4_addArc 83 = .ok (.getfield 15, 3) := by decide +kernel
theorem dX4_addArc_86 : decode cX4_addArc 86 = .ok (.iconst 1, 1) := by decide +kernel
theorem dX4_addArc_87 : decode cX4_addArc 87 = .ok (.isub, 1) := by decide +kernel
theorem dX4_addArc_88 : decode cX4_addArc 88 = .ok (.ireturn, 1) := by decide +kernel
theorem dX4_arcsThere_0 : decode cX4_arcsThere 0 = .ok (.iconst 0, 1) := by decide +kernel
theorem dX4_arcsThere_1 : decode cX4_arcsThere 1 = .ok (.istore_n 1, 1) := by decide +kernel
theorem dX4_arcsThere_2 : decode cX4_arcsThere 2 = .ok (.iconst 0, 1) := by decide +kernel
theorem dX4_arcsThere_3 : decode cX4_arcsThere 3 = .ok (.istore_n 2, 1) := by decide +kernel
theorem dX4_arcsThere_4 : decode cX4_arcsThere 4 = .ok (.iload_n 2, 1) := by decide +kernel
theorem dX4_arcsThere_5 : decode cX4_arcsThere 5 = .ok (.aload_n 0, 1) := by decide +kernel
theorem dX4_arcsThere_6 : decode cX4_arcsThere 6 = .ok (.getfield 15, 3) := by decide +kernel
theorem dX4_arcsThere_9 : decode cX4_arcsThere 9 = .ok (.if_icmp .ge 21, 3) := by decide +kernel
theorem dX4_arcsThere_12 : decode cX4_arcsThere 12 = .ok (.aload_n 0, 1) := by decide +kernel
theorem dX4_arcsThere_13 : decode cX4_arcsThere 13 = .ok (.getfield 25, 3) := by decide +kernel
theorem dX4_arcsThere_16 : decode cX4_arcsThere 16 = .ok (.iload_n 2, 1) := by decide +kernel
theorem dX4_arcsThere_17 : decode cX4_arcsThere 17 = .ok (.iaload, 1) := by decide +kernel
theorem dX4_arcsThere_18 : decode cX4_arcsThere 18 = .ok (.ifCond .le 6, 3) := by decide +kernel
theorem dX4_arcsThere_21 : decode cX4_arcsThere 21 = .ok (.iinc 1 1, 3) := by decide +kernel
theorem dX4_arcsThere_24 : decode cX4_arcsThere 24 = .ok (.iinc 2 1, 3) := by decide +kernel
theorem dX4_arcsThere_27 : decode cX4_arcsThere 27 = .ok (.goto (-23), 3) := by decide +kernel
theorem dX4_arcsThere_30 : decode cX4_arcsThere 30 = .ok (.iload_n 1, 1) := by decide +kernel
theorem dX4_arcsThere_31 : decode cX4_arcsThere 31 = .ok (.ireturn, 1) := by decide +kernel
theorem dX5_init_0 : decode cX5_init 0 = .ok (.aload_n 0, 1) := by decide +kernel
theorem dX5_init_1 : decode cX5_init 1 = .ok (.invokespecial 3, 3) := by decide +kernel
theorem dX5_init_4 : decode cX5_init 4 = .ok (.aload_n 0, 1) := by decide +kernel
theorem dX5_init_5 : decode cX5_init 5 = .ok (.bipush 10, 2) := by decide +kernel
theorem dX5_init_7 : decode cX5_init 7 = .ok (.anewarray 9, 3) := by decide +kernel
theorem dX5_init_10 : decode cX5_init 10 = .ok (.putfield 11, 3) := by decide +kernel
theorem dX5_init_13 : decode cX5_init 13 = .ok (.aload_n 0, 1) := by decide +kernel
theorem dX5_init_14 : decode cX5_init 14 = .ok (.bipush 10, 2) := by decide +kernel
theorem dX5_init_16 : decode cX5_init 16 = .ok (.newarray .boolean, 2) := by decide +kernel
theorem dX5_init_18 : decode cX5_init 18 = .ok (.putfield 17, 3) := by decide +kernel
theorem dX5_init_21 : decode cX5_init 21 = .ok (.aload_n 0, 1) := by decide +kernel
theorem dX5_init_22 : decode cX5_init 22 = .ok (.bipush 10, 2) := by decide +kernel
theorem dX5_init_24 : decode cX5_init 24 = .ok (.newarray .int, 2) := by decide +kernel
theorem dX5_init_26 : decode cX5_init 26 = .ok (.putfield 21, 3) := by decide +kernel
theorem dX5_init_29 : decode cX5_init 29 = .ok (.aload_n 0, 1) := by decide +kernel
theorem dX5_init_30 : decode cX5_init 30 = .ok (.iconst 0, 1) := by decide +kernel
theorem dX5_init_31 : decode cX5_init 31 = .ok (.putfield 25, 3) := by decide +kernel
theorem dX5_init_34 : decode cX5_init 34 = .ok (.aload_n 0, 1) := by decide +kernel
theorem dX5_init_35 : decode cX5_init 35 = .ok (.new 29, 3) := by decide +kernel
theorem dX5_init_38 : decode cX5_init 38 = .ok (.dup, 1) := by decide +kernel
theorem dX5_init_39 : decode cX5_init 39 = .ok (.bipush 100, 2) := by decide +kernel
theorem dX5_init_41 : decode cX5_init 41 = .ok (.invokespecial 31, 3) := by decide +kernel
theorem dX5_init_44 : decode cX5_init 44 = .ok (.putfield 34, 3) := by decide +kernel
theorem dX5_init_47 : decode cX5_init 47 = .ok (.aload_n 0, 1) := by decide +kernel
theorem dX5_init_48 : decode cX5_init 48 = .ok (.new 29, 3) := by decide +kernel
theorem dX5_init_51 : decode cX5_init 51 = .ok (.dup, 1) := by decide +kernel
theorem dX5_init_52 : decode cX5_init 52 = .ok (.bipush 100, 2) := by decide +kernel
theorem dX5_init_54 : decode cX5_init 54 = .ok (.invokespecial 31, 3) := by decide +kernel
theorem dX5_init_57 : decode cX5_init 57 = .ok (.putfield 38, 3) := by decide +kernel
theorem dX5_init_60 : decode cX5_init 60 = .ok (.iconst 0, 1) := by decide +kernel
theorem dX5_init_61 : decode cX5_init 61 = .ok (.istore_n 1, 1) := by decide +kernel
theorem dX5_init_62 : decode cX5_init 62 = .ok (.iload_n 1, 1) := by decide +kernel
theorem dX5_init_63 : decode cX5_init 63 = .ok (.bipush 10, 2) := by decide +kernel
theorem dX5_init_65 : decode cX5_init 65 = .ok (.if_icmp .ge 22, 3) := by decide +kernel
theorem dX5_init_68 : decode cX5_init 68 = .ok (.aload_n 0, 1) := by decide +kernel
theorem dX5_init_69 : decode cX5_init 69 = .ok (.getfield 11, 3) := by decide +kernel
theorem dX5_init_72 : decode cX5_init 72 = .ok (.iload_n 1, 1) := by decide +kernel
theorem dX5_init_73 : decode cX5_init 73 = .ok (.new 9, 3) := by decide +kernel
theorem dX5_init_76 : decode cX5_init 76 = .ok (.dup, 1) := by decide +kernel
theorem dX5_init_77 : decode cX5_init 77 = .ok (.invokespecial 41, 3) := by decide +kernel
theorem dX5_init_80 : decode cX5_init 80 = .ok (.aastore, 1) := by decide +kernel
theorem dX5_init_81 : decode cX5_init 81 = .ok (.iinc 1 1, 3) := by decide +kernel
theorem dX5_init_84 : decode cX5_init 84 = .ok (.goto (-22), 3) := by decide +kernel
theorem dX5_init_87 : decode cX5_init 87 = .ok (.return_, 1) := by decide +kernel
theorem dX5_forget_0 : decode cX5_forget 0 = .ok (.iconst 0, 1) := by decide +kernel
theorem dX5_forget_1 : decode cX5_forget 1 = .ok (.istore_n 1, 1) := by decide +kernel
theorem dX5_forget_2 : decode cX5_forget 2 = .ok (.iload_n 1, 1) := by decide +kernel
theorem dX5_forget_3 : decode cX5_forget 3 = .ok (.bipush 10, 2) := by decide +kernel
theorem dX5_forget_5 : decode cX5_forget 5 = .ok (.if_icmp .ge 16, 3) := by decide +kernel
theorem dX5_forget_8 : decode cX5_forget 8 = .ok (.aload_n 0, 1) := by decide +kernel
theorem dX5_forget_9 : decode cX5_forget 9 = .ok (.getfield 17, 3) := by decide +kernel
theorem dX5_forget_12 : decode cX5_forget 12 = .ok (.iload_n 1, 1) := by decide +kernel
theorem dX5_forget_13 : decode cX5_forget 13 = .ok (.iconst 0, 1) := by decide +kernel
theorem dX5_forget_14 : decode cX5_forget 14 = .ok (.bastore, 1) := by decide +kernel
theorem dX5_forget_15 : decode cX5_forget 15 = .ok (.iinc 1 1, 3) := by decide +kernel
theorem dX5_forget_18 : decode cX5_forget 18 = .ok (.goto (-16), 3) := by decide +kernel
theorem dX5_forget_21 : decode cX5_forget 21 = .ok (.aload_n 0, 1) := by decide +kernel
theorem dX5_forget_22 : decode cX5_forget 22 = .ok (.iconst 0, 1) := by decide +kernel
theorem dX5_forget_23 : decode cX5_forget 23 = .ok (.putfield 25, 3) := by decide +kernel
theorem dX5_forget_26 : decode cX5_forget 26 = .ok (.return_, 1) := by decide +kernel
theorem dX5_nodeAt_0 : decode cX5_nodeAt 0 = .ok (.aload_n 0, 1) := by decide +kernel
theorem dX5_nodeAt_1 : decode cX5_nodeAt 1 = .ok (.getfield 25, 3) := by decide +kernel
theorem dX5_nodeAt_4 : decode cX5_nodeAt 4 = .ok (.ifCond .ne 13, 3) := by decide +kernel
theorem dX5_nodeAt_7 : decode cX5_nodeAt 7 = .ok (.aload_n 0, 1) := by decide +kernel
theorem dX5_nodeAt_8 : decode cX5_nodeAt 8 = .ok (.iload_n 2, 1) := by decide +kernel
theorem dX5_nodeAt_9 : decode cX5_nodeAt 9 = .ok (.invokevirtual 42, 3) := by decide +kernel
theorem dX5_nodeAt_12 : decode cX5_nodeAt 12 = .ok (.aload_n 0, 1) := by decide +kernel
theorem dX5_nodeAt_13 : decode cX5_nodeAt 13 = .ok (.iconst 1, 1) := by decide +kernel
theorem dX5_nodeAt_14 : decode cX5_nodeAt 14 = .ok (.putfield 25, 3) := by decide +kernel
theorem dX5_nodeAt_17 : decode cX5_nodeAt 17 = .ok (.iconst 0, 1) := by decide +kernel
theorem dX5_nodeAt_18 : decode cX5_nodeAt 18 = .ok (.istore_n 3, 1) := by decide +kernel
theorem dX5_nodeAt_19 : decode cX5_nodeAt 19 = .ok (.iload_n 3, 1) := by decide +kernel
theorem dX5_nodeAt_20 : decode cX5_nodeAt 20 = .ok (.iload_n 2, 1) := by decide +kernel
theorem dX5_nodeAt_21 : decode cX5_nodeAt 21 = .ok (.if_icmp .ge 21, 3) := by decide +kernel
theorem dX5_nodeAt_24 : decode cX5_nodeAt 24 = .ok (.aload_n 0, 1) := by decide +kernel
theorem dX5_nodeAt_25 : decode cX5_nodeAt 25 = .ok (.getfield 21, 3) := by decide +kernel
theorem dX5_nodeAt_28 : decode cX5_nodeAt 28 = .ok (.iload_n 3, 1) := by decide +kernel
theorem dX5_nodeAt_29 : decode cX5_nodeAt 29 = .ok (.iaload, 1) := by decide +kernel
theorem dX5_nodeAt_30 : decode cX5_nodeAt 30 = .ok (.iload_n 1, 1) := by decide +kernel
theorem dX5_nodeAt_31 : decode cX5_nodeAt 31 = .ok (.if_icmp .ne 5, 3) := by decide +kernel
theorem dX5_nodeAt_34 : decode cX5_nodeAt 34 = .ok (.iload_n 3, 1) := by decide +kernel
theorem dX5_nodeAt_35 : decode cX5_nodeAt 35 = .ok (.ireturn, 1) := by decide +kernel
theorem dX5_nodeAt_36 : decode cX5_nodeAt 36 = .ok (.iinc 3 1, 3) := by decide +kernel
theorem dX5_nodeAt_39 : decode cX5_nodeAt 39 = .ok (.goto (-20), 3) := by decide +kernel
theorem dX5_nodeAt_42 : decode cX5_nodeAt 42 = .ok (.iconst (-1), 1) := by decide +kernel
theorem dX5_nodeAt_43 : decode cX5_nodeAt 43 = .ok (.ireturn, 1) := by decide +kernel
theorem dX5_countAhead_0 : decode cX5_countAhead 0 = .ok (.aload_n 0, 1) := by decide +kernel
theorem dX5_countAhead_1 : decode cX5_countAhead 1 = .ok (.getfield 21, 3) := by decide +kernel
theorem dX5_countAhead_4 : decode cX5_countAhead 4 = .ok (.iconst 0, 1) := by decide +kernel
theorem dX5_countAhead_5 : decode cX5_countAhead 5 = .ok (.invokestatic 45, 3) := by decide +kernel
theorem dX5_countAhead_8 : decode cX5_countAhead 8 = .ok (.iconst 0, 1) := by decide +kernel
theorem dX5_countAhead_9 : decode cX5_countAhead 9 = .ok (.istore_n 2, 1) := by decide +kernel
theorem dX5_countAhead_10 : decode cX5_countAhead 10 = .ok (.iload_n 2, 1) := by decide +kernel
theorem dX5_countAhead_11 : decode cX5_countAhead 11 = .ok (.iload_n 1, 1) := by decide +kernel
theorem dX5_countAhead_12 : decode cX5_countAhead 12 = .ok (.if_icmp .ge 66, 3) := by decide +kernel
theorem dX5_countAhead_15 : decode cX5_countAhead 15 = .ok (.iload_n 2, 1) := by decide +kernel
theorem dX5_countAhead_16 : decode cX5_countAhead 16 = .ok (.iconst 1, 1) := by decide +kernel
theorem dX5_countAhead_17 : decode cX5_countAhead 17 = .ok (.iadd, 1) := by decide +kernel
theorem dX5_countAhead_18 : decode cX5_countAhead 18 = .ok (.istore_n 3, 1) := by decide +kernel
theorem dX5_countAhead_19 : decode cX5_countAhead 19 = .ok (.iload_n 3, 1) := by decide +kernel
theorem dX5_countAhead_20 : decode cX5_countAhead 20 = .ok (.iload_n 1, 1) := by decide +kernel
theorem dX5_countAhead_21 : decode cX5_countAhead 21 = .ok (.if_icmp .ge 51, 3) := by decide +kernel
theorem dX5_countAhead_24 : decode cX5_countAhead 24 = .ok (.aload_n 0, 1) := by decide +kernel
theorem dX5_countAhead_25 : decode cX5_countAhead 25 = .ok (.aload_n 0, 1) := by decide +kernel
theorem dX5_countAhead_26 : decode cX5_countAhead 26 = .ok (.getfield 11, 3) := by decide +kernel
theorem dX5_countAhead_29 : decode cX5_countAhead 29 = .ok (.iload_n 2, 1) := by decide +kernel
theorem dX5_countAhead_30 : decode cX5_countAhead 30 = .ok (.aaload, 1) := by decide +kernel
theorem dX5_countAhead_31 : decode cX5_countAhead 31 = .ok (.aload_n 0, 1) := by decide +kernel
theorem dX5_countAhead_32 : decode cX5_countAhead 32 = .ok (.getfield 11, 3) := by decide +kernel
theorem dX5_countAhead_35 : decode cX5_countAhead 35 = .ok (.iload_n 3, 1) := by decide +kernel
theorem dX5_countAhead_36 : decode cX5_countAhead 36 = .ok (.aaload, 1) := by decide +kernel
theorem dX5_countAhead_37 : decode cX5_countAhead 37 = .ok (.invokevirtual 51, 3) := by decide +kernel
theorem dX5_countAhead_40 : decode cX5_countAhead 40 = .ok (.ifCond .eq 16, 3) := by decide +kernel
theorem dX5_countAhead_43 : decode cX5_countAhead 43 = .ok (.aload_n 0, 1) := by decide +kernel
theorem dX5_countAhead_44 : decode cX5_countAhead 44 = .ok (.getfield 21, 3) := by decide +kernel
theorem dX5_countAhead_47 : decode cX5_countAhead 47 = .ok (.iload_n 2, 1) := by decide +kernel
theorem dX5_countAhead_48 : decode cX5_countAhead 48 = .ok (.dup2, 1) := by decide +kernel
theorem dX5_countAhead_49 : decode cX5_countAhead 49 = .ok (.iaload, 1) := by decide +kernel
theorem dX5_countAhead_50 : decode cX5_countAhead 50 = .ok (.iconst 1, 1) := by decide +kernel
theorem dX5_countAhead_51 : decode cX5_countAhead 51 = .ok (.iadd, 1) := by decide +kernel
theorem dX5_countAhead_52 : decode cX5_countAhead 52 = .ok (.iastore, 1) := by decide +kernel
theorem dX5_countAhead_53 : decode cX5_countAhead 53 = .ok (.goto 13, 3) := by decide +kernel
theorem dX5_countAhead_56 : decode cX5_countAhead 56 = .ok (.aload_n 0, 1) := by decide +kernel
theorem dX5_countAhead_57 : decode cX5_countAhead 57 = .ok (.getfield 21, 3) := by decide +kernel
theorem dX5_countAhead_60 : decode cX5_countAhead 60 = .ok (.iload_n 3, 1) := by decide +kernel
theorem dX5_countAhead_61 : decode cX5_countAhead 61 = .ok (.dup2, 1) := by decide +kernel
theorem dX5_countAhead_62 : decode cX5_countAhead 62 = .ok (.iaload, 1) := by decide +kernel
theorem dX5_countAhead_63 : decode cX5_countAhead 63 = .ok (.iconst 1, 1) := by decide +kernel
theorem dX5_countAhead_64 : decode cX5_countAhead 64 = .ok (.iadd, 1) := by decide +kernel
theorem dX5_countAhead_65 : decode cX5_countAhead 65 = .ok (.iastore, 1) := by decide +kernel
theorem dX5_countAhead_66 : decode cX5_countAhead 66 = .ok (.iinc 3 1, 3) := by decide +kernel
theorem dX5_countAhead_69 : decode cX5_countAhead 69 = .ok (.goto (-50), 3) := by decide +kernel
theorem dX5_countAhead_72 : decode cX5_countAhead 72 = .ok (.iinc 2 1, 3) := by decide +kernel
theorem dX5_countAhead_75 : decode cX5_countAhead 75 = .ok (.goto (-65), 3) := by decide +kernel
theorem dX5_countAhead_78 : decode cX5_countAhead 78 = .ok (.return_, 1) := by decide +kernel
theorem dX5_isLess_0 : decode cX5_isLess 0 = .ok (.aload_n 0, 1) := by decide +kernel
theorem dX5_isLess_1 : decode cX5_isLess 1 = .ok (.getfield 34, 3) := by decide +kernel
theorem dX5_isLess_4 : decode cX5_isLess 4 = .ok (.aload_n 1, 1) := by decide +kernel
theorem dX5_isLess_5 : decode cX5_isLess 5 = .ok (.getfield 55, 3) := by decide +kernel
theorem dX5_isLess_8 : decode cX5_isLess 8 = .ok (.aload_n 2, 1) := by decide +kernel
theorem dX5_isLess_9 : decode cX5_isLess 9 = .ok (.getfield 58, 3) := by decide +kernel
theorem dX5_isLess_12 : decode cX5_isLess 12 = .ok (.invokevirtual 61, 3) := by decide +kernel
theorem dX5_isLess_15 : decode cX5_isLess 15 = .ok (.aload_n 0, 1) := by decide +kernel
theorem dX5_isLess_16 : decode cX5_isLess 16 = .ok (.getfield 38, 3) := by decide +kernel
theorem dX5_isLess_19 : decode cX5_isLess 19 = .ok (.aload_n 2, 1) := by decide +kernel
theorem dX5_isLess_20 : decode cX5_isLess 20 = .ok (.getfield 55, 3) := by decide +kernel
theorem dX5_isLess_23 : decode cX5_isLess 23 = .ok (.aload_n 1, 1) := by decide +kernel
theorem dX5_isLess_24 : decode cX5_isLess 24 = .ok (.getfield 58, 3) := by decide +kernel
theorem dX5_isLess_27 : decode cX5_isLess 27 = .ok (.invokevirtual 61, 3) := by decide +kernel
theorem dX5_isLess_30 : decode cX5_isLess 30 = .ok (.aload_n 0, 1) := by decide +kernel
theorem dX5_isLess_31 : decode cX5_isLess 31 = .ok (.getfield 34, 3) := by decide +kernel
theorem dX5_isLess_34 : decode cX5_isLess 34 = .ok (.aload_n 0, 1) := by decide +kernel
theorem dX5_isLess_35 : decode cX5_isLess 35 = .ok (.getfield 38, 3) := by decide +kernel
theorem dX5_isLess_38 : decode cX5_isLess 38 = .ok (.invokevirtual 65, 3) := by decide +kernel
theorem dX5_isLess_41 : decode cX5_isLess 41 = .ok (.ifCond .ge 7, 3) := by decide +kernel
theorem dX5_isLess_44 : decode cX5_isLess 44 = .ok (.iconst 1, 1) := by decide +kernel
theorem dX5_isLess_45 : decode cX5_isLess 45 = .ok (.goto 4, 3) := by decide +kernel
theorem dX5_isLess_48 : decode cX5_isLess 48 = .ok (.iconst 0, 1) := by decide +kernel
theorem dX5_isLess_49 : decode cX5_isLess 49 = .ok (.ireturn, 1) := by decide +kernel
theorem dX6_init_0 : decode cX6_init 0 = .ok (.aload_n 0, 1) := by decide +kernel
theorem dX6_init_1 : decode cX6_init 1 = .ok (.invokespecial 3, 3) := by decide +kernel
theorem dX6_init_4 : decode cX6_init 4 = .ok (.aload_n 0, 1) := by decide +kernel
theorem dX6_init_5 : decode cX6_init 5 = .ok (.bipush 10, 2) := by decide +kernel
theorem dX6_init_7 : decode cX6_init 7 = .ok (.bipush 10, 2) := by decide +kernel
theorem dX6_init_9 : decode cX6_init 9 = .ok (.multianewarray 9 2, 4) := by decide +kernel
theorem dX6_init_13 : decode cX6_init 13 = .ok (.putfield 11, 3) := by decide +kernel
theorem dX6_init_16 : decode cX6_init 16 = .ok (.aload_n 0, 1) := by decide +kernel
theorem dX6_init_17 : decode cX6_init 17 = .ok (.bipush 10, 2) := by decide +kernel
theorem dX6_init_19 : decode cX6_init 19 = .ok (.bipush 10, 2) := by decide +kernel
theorem dX6_init_21 : decode cX6_init 21 = .ok (.multianewarray 9 2, 4) := by decide +kernel
theorem dX6_init_25 : decode cX6_init 25 = .ok (.putfield 16, 3) := by decide +kernel
theorem dX6_init_28 : decode cX6_init 28 = .ok (.aload_n 0, 1) := by decide +kernel
theorem dX6_init_29 : decode cX6_init 29 = .ok (.bipush 10, 2) := by decide +kernel
theorem dX6_init_31 : decode cX6_init 31 = .ok (.newarray .boolean, 2) := by decide +kernel
theorem dX6_init_33 : decode cX6_init 33 = .ok (.putfield 19, 3) := by decide +kernel
theorem dX6_init_36 : decode cX6_init 36 = .ok (.aload_n 0, 1) := by decide +kernel
theorem dX6_init_37 : decode cX6_init 37 = .ok (.iconst 0, 1) := by decide +kernel
theorem dX6_init_38 : decode cX6_init 38 = .ok (.putfield 23, 3) := by decide +kernel
theorem dX6_init_41 : decode cX6_init 41 = .ok (.aload_n 0, 1) := by decide +kernel
theorem dX6_init_42 : decode cX6_init 42 = .ok (.aload_n 1, 1) := by decide +kernel
theorem dX6_init_43 : decode cX6_init 43 = .ok (.putfield 27, 3) := by decide +kernel
theorem dX6_init_46 : decode cX6_init 46 = .ok (.aload_n 0, 1) := by decide +kernel
theorem dX6_init_47 : decode cX6_init 47 = .ok (.aload_n 2, 1) := by decide +kernel
theorem dX6_init_48 : decode cX6_init 48 = .ok (.putfield 31, 3) := by decide +kernel
theorem dX6_init_51 : decode cX6_init 51 = .ok (.return_, 1) := by decide +kernel
theorem dX6_forget_0 : decode cX6_forget 0 = .ok (.aload_n 0, 1) := by decide +kernel
theorem dX6_forget_1 : decode cX6_forget 1 = .ok (.iconst 0, 1) := by decide +kernel
theorem dX6_forget_2 : decode cX6_forget 2 = .ok (.putfield 23, 3) := by decide +kernel
theorem dX6_forget_5 : decode cX6_forget 5 = .ok (.return_, 1) := by decide +kernel
theorem dX6_refresh_0 : decode cX6_refresh 0 = .ok (.aload_n 0, 1) := by decide +kernel
theorem dX6_refresh_1 : decode cX6_refresh 1 = .ok (.getfield 23, 3) := by decide +kernel
theorem dX6_refresh_4 : decode cX6_refresh 4 = .ok (.ifCond .eq 4, 3) := by decide +kernel
theorem dX6_refresh_7 : decode cX6_refresh 7 = .ok (.return_, 1) := by decide +kernel
theorem dX6_refresh_8 : decode cX6_refresh 8 = .ok (.aload_n 0, 1) := by decide +kernel
theorem dX6_refresh_9 : decode cX6_refresh 9 = .ok (.iconst 1, 1) := by decide +kernel
theorem dX6_refresh_10 : decode cX6_refresh 10 = .ok (.putfield 23, 3) := by decide +kernel
theorem dX6_refresh_13 : decode cX6_refresh 13 = .ok (.iconst 0, 1) := by decide +kernel
theorem dX6_refresh_14 : decode cX6_refresh 14 = .ok (.istore_n 1, 1) := by decide +kernel
theorem dX6_refresh_15 : decode cX6_refresh 15 = .ok (.iload_n 1, 1) := by decide +kernel
theorem dX6_refresh_16 : decode cX6_refresh 16 = .ok (.aload_n 0, 1) := by decide +kernel
theorem dX6_refresh_17 : decode cX6_refresh 17 = .ok (.getfield 27, 3) := by decide +kernel
theorem dX6_refresh_20 : decode cX6_refresh 20 = .ok (.getfield 34, 3) := by decide +kernel
theorem dX6_refresh_23 : decode cX6_refresh 23 = .ok (.if_icmp .ge 55, 3) := by decide +kernel
theorem dX6_refresh_26 : decode cX6_refresh 26 = .ok (.aload_n 0, 1) := by decide +kernel
theorem dX6_refresh_27 : decode cX6_refresh 27 = .ok (.getfield 11, 3) := by decide +kernel
theorem dX6_refresh_30 : decode cX6_refresh 30 = .ok (.iload_n 1, 1) := by decide +kernel
theorem dX6_refresh_31 : decode cX6_refresh 31 = .ok (.aaload, 1) := by decide +kernel
theorem dX6_refresh_32 : decode cX6_refresh 32 = .ok (.iconst (-1), 1) := by decide +kernel
theorem dX6_refresh_33 : decode cX6_refresh 33 = .ok (.invokestatic 40, 3) := by decide +kernel
theorem dX6_refresh_36 : decode cX6_refresh 36 = .ok (.aload_n 0, 1) := by decide +kernel
theorem dX6_refresh_37 : decode cX6_refresh 37 = .ok (.getfield 16, 3) := by decide +kernel
theorem dX6_refresh_40 : decode cX6_refresh 40 = .ok (.iload_n 1, 1) := by decide +kernel
theorem dX6_refresh_41 : decode cX6_refresh 41 = .ok (.aaload, 1) := by decide +kernel
theorem dX6_refresh_42 : decode cX6_refresh 42 = .ok (.iconst 0, 1) := by decide +kernel
theorem dX6_refresh_43 : decode cX6_refresh 43 = .ok (.invokestatic 40, 3) := by decide +kernel
theorem dX6_refresh_46 : decode cX6_refresh 46 = .ok (.aload_n 0, 1) := by decide +kernel
theorem dX6_refresh_47 : decode cX6_refresh 47 = .ok (.getfield 31, 3) := by decide +kernel
theorem dX6_refresh_50 : decode cX6_refresh 50 = .ok (.iload_n 1, 1) := by decide +kernel
theorem dX6_refresh_51 : decode cX6_refresh 51 = .ok (.baload, 1) := by decide +kernel
theorem dX6_refresh_52 : decode cX6_refresh 52 = .ok (.ifCond .ne 20, 3) := by decide +kernel
theorem dX6_refresh_55 : decode cX6_refresh 55 = .ok (.aload_n 0, 1) := by decide +kernel
theorem dX6_refresh_56 : decode cX6_refresh 56 = .ok (.iload_n 1, 1) := by decide +kernel
theorem dX6_refresh_57 : decode cX6_refresh 57 = .ok (.aload_n 0, 1) := by decide +kernel
theorem dX6_refresh_58 : decode cX6_refresh 58 = .ok (.getfield 11, 3) := by decide +kernel
theorem dX6_refresh_61 : decode cX6_refresh 61 = .ok (.iload_n 1, 1) := by decide +kernel
theorem dX6_refresh_62 : decode cX6_refresh 62 = .ok (.aaload, 1) := by decide +kernel
theorem dX6_refresh_63 : decode cX6_refresh 63 = .ok (.aload_n 0, 1) := by decide +kernel
theorem dX6_refresh_64 : decode cX6_refresh 64 = .ok (.getfield 16, 3) := by decide +kernel
theorem dX6_refresh_67 : decode cX6_refresh 67 = .ok (.iload_n 1, 1) := by decide +kernel
theorem dX6_refresh_68 : decode cX6_refresh 68 = .ok (.aaload, 1) := by decide +kernel
theorem dX6_refresh_69 : decode cX6_refresh 69 = .ok (.invokevirtual 46, 3) := by decide +kernel
theorem dX6_refresh_72 : decode cX6_refresh 72 = .ok (.iinc 1 1, 3) := by decide +kernel
theorem dX6_refresh_75 : decode cX6_refresh 75 = .ok (.goto (-60), 3) := by decide +kernel
theorem dX6_refresh_78 : decode cX6_refresh 78 = .ok (.return_, 1) := by decide +kernel
theorem dX6_spreadFrom_0 : decode cX6_spreadFrom 0 = .ok (.iconst 0, 1) := by decide +kernel
theorem dX6_spreadFrom_1 : decode cX6_spreadFrom 1 = .ok (.istore 4, 2) := by decide +kernel
theorem dX6_spreadFrom_3 : decode cX6_spreadFrom 3 = .ok (.iload 4, 2) := by decide +kernel
theorem dX6_spreadFrom_5 : decode cX6_spreadFrom 5 = .ok (.aload_n 0, 1) := by decide +kernel
theorem dX6_spreadFrom_6 : decode cX6_spreadFrom 6 = .ok (.getfield 27, 3) := by decide +kernel
theorem dX6_spreadFrom_9 : decode cX6_spreadFrom 9 = .ok (.getfield 34, 3) := by decide +kernel
theorem dX6_spreadFrom_12 : decode cX6_spreadFrom 12 = .ok (.if_icmp .ge 17, 3) := by decide +kernel
theorem dX6_spreadFrom_15 : decode cX6_spreadFrom 15 = .ok (.aload_n 0, 1) := by decide +kernel
theorem dX6_spreadFrom_16 : decode cX6_spreadFrom 16 = .ok (.getfield 19, 3) := by decide +kernel
theorem dX6_spreadFrom_19 : decode cX6_spreadFrom 19 = .ok (.iload 4, 2) := by decide +kernel
theorem dX6_spreadFrom_21 : decode cX6_spreadFrom 21 = .ok (.iconst 0, 1) := by decide +kernel
theorem dX6_spreadFrom_22 : decode cX6_spreadFrom 22 = .ok (.bastore, 1) := by decide +kernel
theorem dX6_spreadFrom_23 : decode cX6_spreadFrom 23 = .ok (.iinc 4 1, 3) := by decide +kernel
theorem dX6_spreadFrom_26 : decode cX6_spreadFrom 26 = .ok (.goto (-23), 3) := by decide +kernel
theorem dX6_spreadFrom_29 : decode cX6_spreadFrom 29 = .ok (.aload_n 2, 1) := by decide +kernel
theorem dX6_spreadFrom_30 : decode cX6_spreadFrom 30 = .ok (.iload_n 1, 1) := by decide +kernel
theorem dX6_spreadFrom_31 : decode cX6_spreadFrom 31 = .ok (.iconst 0, 1) := by decide +kernel
theorem dX6_spreadFrom_32 : decode cX6_spreadFrom 32 = .ok (.iastore, 1) := by decide +kernel
theorem dX6_spreadFrom_33 : decode cX6_spreadFrom 33 = .ok (.aload_n 3, 1) := by decide +kernel
theorem dX6_spreadFrom_34 : decode cX6_spreadFrom 34 = .ok (.iload_n 1, 1) := by decide +kernel
theorem dX6_spreadFrom_35 : decode cX6_spreadFrom 35 = .ok (.iconst 1, 1) := by decide +kernel
theorem dX6_spreadFrom_36 : decode cX6_spreadFrom 36 = .ok (.iastore, 1) := by decide +kernel
theorem dX6_spreadFrom_37 : decode cX6_spreadFrom 37 = .ok (.iconst 0, 1) := by decide +kernel
theorem dX6_spreadFrom_38 : decode cX6_spreadFrom 38 = .ok (.istore 4, 2) := by decide +kernel
theorem dX6_spreadFrom_40 : decode cX6_spreadFrom 40 = .ok (.iload 4, 2) := by decide +kernel
theorem dX6_spreadFrom_42 : decode cX6_spreadFrom 42 = .ok (.aload_n 0, 1) := by decide +kernel
theorem dX6_spreadFrom_43 : decode cX6_spreadFrom 43 = .ok (.getfield 27, 3) := by decide +kernel
theorem dX6_spreadFrom_46 : decode cX6_spreadFrom 46 = .ok (.getfield 34, 3) := by decide +kernel
theorem dX6_spreadFrom_49 : decode cX6_spreadFrom 49 = .ok (.if_icmp .ge 106, 3) := by decide +kernel
theorem dX6_spreadFrom_52 : decode cX6_spreadFrom 52 = .ok (.aload_n 0, 1) := by decide +kernel
theorem dX6_spreadFrom_53 : decode cX6_spreadFrom 53 = .ok (.aload_n 2, 1) := by decide +kernel
theorem dX6_spreadFrom_54 : decode cX6_spreadFrom 54 = .ok (.invokevirtual 50, 3) := by decide +kernel
theorem dX6_spreadFrom_57 : decode cX6_spreadFrom 57 = .ok (.istore 5, 2) := by decide +kernel
theorem dX6_spreadFrom_59 : decode cX6_spreadFrom 59 = .ok (.iload 5, 2) := by decide +kernel
theorem dX6_spreadFrom_61 : decode cX6_spreadFrom 61 = .ok (.iconst (-1), 1) := by decide +kernel
theorem dX6_spreadFrom_62 : decode cX6_spreadFrom 62 = .ok (.if_icmp .ne 4, 3) := by decide +kernel
theorem dX6_spreadFrom_65 : decode cX6_spreadFrom 65 = .ok (.return_, 1) := by decide +kernel
theorem dX6_spreadFrom_66 : decode cX6_spreadFrom 66 = .ok (.aload_n 0, 1) := by decide +kernel
theorem dX6_spreadFrom_67 : decode cX6_spreadFrom 67 = .ok (.getfield 19, 3) := by decide +kernel
theorem dX6_spreadFrom_70 : decode cX6_spreadFrom 70 = .ok (.iload 5, 2) := by decide +kernel
theorem dX6_spreadFrom_72 : decode cX6_spreadFrom 72 = .ok (.iconst 1, 1) := by decide +kernel
theorem dX6_spreadFrom_73 : decode cX6_spreadFrom 73 = .ok (.bastore, 1) := by decide +kernel
theorem dX6_spreadFrom_74 : decode cX6_spreadFrom 74 = .ok (.iconst 0, 1) := by decide +kernel
theorem dX6_spreadFrom_75 : decode cX6_spreadFrom 75 = .ok (.istore 6, 2) := by decide +kernel
theorem dX6_spreadFrom_77 : decode cX6_spreadFrom 77 = .ok (.iload 6, 2) := by decide +kernel
theorem dX6_spreadFrom_79 : decode cX6_spreadFrom 79 = .ok (.aload_n 0, 1) := by decide +kernel
theorem dX6_spreadFrom_80 : decode cX6_spreadFrom 80 = .ok (.getfield 27, 3) := by decide +kernel
theorem dX6_spreadFrom_83 : decode cX6_spreadFrom 83 = .ok (.getfield 54, 3) := by decide +kernel
theorem dX6_spreadFrom_86 : decode cX6_spreadFrom 86 = .ok (.if_icmp .ge 63, 3) := by decide +kernel
theorem dX6_spreadFrom_89 : decode cX6_spreadFrom 89 = .ok (.aload_n 0, 1) := by decide +kernel
theorem dX6_spreadFrom_90 : decode cX6_spreadFrom 90 = .ok (.getfield 27, 3) := by decide +kernel
theorem dX6_spreadFrom_93 : decode cX6_spreadFrom 93 = .ok (.getfield 57, 3) := by decide +kernel
theorem dX6_spreadFrom_96 : decode cX6_spreadFrom 96 = .ok (.iload 6, 2) := by decide +kernel
theorem dX6_spreadFrom_98 : decode cX6_spreadFrom 98 = .ok (.iaload, 1) := by decide +kernel
theorem dX6_spreadFrom_99 : decode cX6_spreadFrom 99 = .ok (.iload 5, 2) := by decide +kernel
theorem dX6_spreadFrom_101 : decode cX6_spreadFrom 101 = .ok (.if_icmp .ne 42, 3) := by decide +kernel
theorem dX6_spreadFrom_104 : decode cX6_spreadFrom 104 = .ok (.aload_n 0, 1) := by decide +kernel
theorem dX6_spreadFrom_105 : decode cX6_spreadFrom 105 = .ok (.getfield 27, 3) := by decide +kernel
theorem dX6_spreadFrom_108 : decode cX6_spreadFrom 108 = .ok (.getfield 61, 3) := by decide +kernel
theorem dX6_spreadFrom_111 : decode cX6_spreadFrom 111 = .ok (.iload 6, 2) := by decide +kernel
theorem dX6_spreadFrom_113 : decode cX6_spreadFrom 113 = .ok (.iaload, 1) := by decide +kernel
theorem dX6_spreadFrom_114 : decode cX6_spreadFrom 114 = .ok (.ifCond .le 29, 3) := by decide +kernel
theorem dX6_spreadFrom_117 : decode cX6_spreadFrom 117 = .ok (.aload_n 0, 1) := by decide +kernel
theorem dX6_spreadFrom_118 : decode cX6_spreadFrom 118 = .ok (.getfield 31, 3) := by decide +kernel
theorem dX6_spreadFrom_121 : decode cX6_spreadFrom 121 = .ok (.aload_n 0, 1) := by decide +kernel
theorem dX6_spreadFrom_122 : decode cX6_spreadFrom 122 = .ok (.getfield 27, 3) := by decide +kernel
theorem dX6_spreadFrom_125 : decode cX6_spreadFrom 125 = .ok (.getfield 64, 3) := by decide +kernel
theorem dX6_spreadFrom_128 : decode cX6_spreadFrom 128 = .ok (.iload 6, 2) := by decide +kernel
theorem dX6_spreadFrom_130 : decode cX6_spreadFrom 130 = .ok (.iaload, 1) := by decide +kernel
theorem dX6_spreadFrom_131 : decode cX6_spreadFrom 131 = .ok (.baload, 1) := by decide +kernel
theorem dX6_spreadFrom_132 : decode cX6_spreadFrom 132 = .ok (.ifCond .ne 11, 3) := by decide +kernel
theorem dX6_spreadFrom_135 : decode cX6_spreadFrom 135 = .ok (.aload_n 0, 1) := by decide +kernel
theorem dX6_spreadFrom_136 : decode cX6_spreadFrom 136 = .ok (.iload 6, 2) := by decide +kernel
theorem dX6_spreadFrom_138 : decode cX6_spreadFrom 138 = .ok (.aload_n 2, 1) := by decide +kernel
theorem dX6_spreadFrom_139 : decode cX6_spreadFrom 139 = .ok (.aload_n 3, 1) := by decide +kernel
theorem dX6_spreadFrom_140 : decode cX6_spreadFrom 140 = .ok (.invokevirtual 67, 3) := by decide +kernel
theorem dX6_spreadFrom_143 : decode cX6_spreadFrom 143 = .ok (.iinc 6 1, 3) := by decide +kernel
theorem dX6_spreadFrom_146 : decode cX6_spreadFrom 146 = .ok (.goto (-69), 3) := by decide +kernel
theorem dX6_spreadFrom_149 : decode cX6_spreadFrom 149 = .ok (.iinc 4 1, 3) := by decide +kernel
theorem dX6_spreadFrom_152 : decode cX6_spreadFrom 152 = .ok (.goto (-112), 3) := by decide +kernel
theorem dX6_spreadFrom_155 : decode cX6_spreadFrom 155 = .ok (.return_, 1) := by decide +kernel
theorem dX6_nearestLeft_0 : decode cX6_nearestLeft 0 = .ok (.iconst (-1), 1) := by decide +kernel
theorem dX6_nearestLeft_1 : decode cX6_nearestLeft 1 = .ok (.istore_n 2, 1) := by decide +kernel
theorem dX6_nearestLeft_2 : decode cX6_nearestLeft 2 = .ok (.iconst 0, 1) := by decide +kernel
theorem dX6_nearestLeft_3 : decode cX6_nearestLeft 3 = .ok (.istore_n 3, 1) := by decide +kernel
theorem dX6_nearestLeft_4 : decode cX6_nearestLeft 4 = .ok (.iload_n 3, 1) := by decide +kernel
theorem dX6_nearestLeft_5 : decode cX6_nearestLeft 5 = .ok (.aload_n 0, 1) := by decide +kernel
theorem dX6_nearestLeft_6 : decode cX6_nearestLeft 6 = .ok (.getfield 27, 3) := by decide +kernel
theorem dX6_nearestLeft_9 : decode cX6_nearestLeft 9 = .ok (.getfield 34, 3) := by decide +kernel
theorem dX6_nearestLeft_12 : decode cX6_nearestLeft 12 = .ok (.if_icmp .ge 41, 3) := by decide +kernel
theorem dX6_nearestLeft_15 : decode cX6_nearestLeft 15 = .ok (.aload_n 0, 1) := by decide +kernel
theorem dX6_nearestLeft_16 : decode cX6_nearestLeft 16 = .ok (.getfield 19, 3) := by decide +kernel
theorem dX6_nearestLeft_19 : decode cX6_nearestLeft 19 = .ok (.iload_n 3, 1) := by decide +kernel
theorem dX6_nearestLeft_20 : decode cX6_nearestLeft 20 = .ok (.baload, 1) := by decide +kernel
theorem dX6_nearestLeft_21 : decode cX6_nearestLeft 21 = .ok (.ifCond .ne 26, 3) := by decide +kernel
theorem dX6_nearestLeft_24 : decode cX6_nearestLeft 24 = .ok (.aload_n 1, 1) := by decide +kernel
theorem dX6_nearestLeft_25 : decode cX6_nearestLeft 25 = .ok (.iload_n 3, 1) := by decide +kernel
theorem dX6_nearestLeft_26 : decode cX6_nearestLeft 26 = .ok (.iaload, 1) := by decide +kernel
theorem dX6_nearestLeft_27 : decode cX6_nearestLeft 27 = .ok (.iconst (-1), 1) := by decide +kernel
theorem dX6_nearestLeft_28 : decode cX6_nearestLeft 28 = .ok (.if_icmp .eq 19, 3) := by decide +kernel
theorem dX6_nearestLeft_31 : decode cX6_nearestLeft 31 = .ok (.iload_n 2, 1) := by decide +kernel
theorem dX6_nearestLeft_32 : decode cX6_nearestLeft 32 = .ok (.iconst (-1), 1) := by decide +kernel
theorem dX6_nearestLeft_33 : decode cX6_nearestLeft 33 = .ok (.if_icmp .eq 12, 3) := by decide +kernel
theorem dX6_nearestLeft_36 : decode cX6_nearestLeft 36 = .ok (.aload_n 1, 1) := by decide +kernel
theorem dX6_nearestLeft_37 : decode cX6_nearestLeft 37 = .ok (.iload_n 3, 1) := by decide +kernel
theorem dX6_nearestLeft_38 : decode cX6_nearestLeft 38 = .ok (.iaload, 1) := by decide +kernel
theorem dX6_nearestLeft_39 : decode cX6_nearestLeft 39 = .ok (.aload_n 1, 1) := by decide +kernel
theorem dX6_nearestLeft_40 : decode cX6_nearestLeft 40 = .ok (.iload_n 2, 1) := by decide +kernel
theorem dX6_nearestLeft_41 : decode cX6_nearestLeft 41 = .ok (.iaload, 1) := by decide +kernel
theorem dX6_nearestLeft_42 : decode cX6_nearestLeft 42 = .ok (.if_icmp .ge 5, 3) := by decide +kernel
theorem dX6_nearestLeft_45 : decode cX6_nearestLeft 45 = .ok (.iload_n 3, 1) := by decide +kernel
theorem dX6_nearestLeft_46 : decode cX6_nearestLeft 46 = .ok (.istore_n 2, 1) := by decide +kernel
theorem dX6_nearestLeft_47 : decode cX6_nearestLeft 47 = .ok (.iinc 3 1, 3) := by decide +kernel
theorem dX6_nearestLeft_50 : decode cX6_nearestLeft 50 = .ok (.goto (-46), 3) := by decide +kernel
theorem dX6_nearestLeft_53 : decode cX6_nearestLeft 53 = .ok (.iload_n 2, 1) := by decide +kernel
theorem dX6_nearestLeft_54 : decode cX6_nearestLeft 54 = .ok (.ireturn, 1) := by decide +kernel
theorem dX6_goBy_0 : decode cX6_goBy 0 = .ok (.aload_n 0, 1) := by decide +kernel
theorem dX6_goBy_1 : decode cX6_goBy 1 = .ok (.getfield 27, 3) := by decide +kernel
theorem dX6_goBy_4 : decode cX6_goBy 4 = .ok (.getfield 57, 3) := by decide +kernel
theorem dX6_goBy_7 : decode cX6_goBy 7 = .ok (.iload_n 1, 1) := by decide +kernel
theorem dX6_goBy_8 : decode cX6_goBy 8 = .ok (.iaload, 1) := by decide +kernel
theorem dX6_goBy_9 : decode cX6_goBy 9 = .ok (.istore 4, 2) := by decide +kernel
theorem dX6_goBy_11 : decode cX6_goBy 11 = .ok (.aload_n 0, 1) := by decide +kernel
theorem dX6_goBy_12 : decode cX6_goBy 12 = .ok (.getfield 27, 3) := by decide +kernel
theorem dX6_goBy_15 : decode cX6_goBy 15 = .ok (.getfield 64, 3) := by decide +kernel
theorem dX6_goBy_18 : decode cX6_goBy 18 = .ok (.iload_n 1, 1) := by decide +kernel
theorem dX6_goBy_19 : decode cX6_goBy 19 = .ok (.iaload, 1) := by decide +kernel
theorem dX6_goBy_20 : decode cX6_goBy 20 = .ok (.istore 5, 2) := by decide +kernel
theorem dX6_goBy_22 : decode cX6_goBy 22 = .ok (.aload_n 2, 1) := by decide +kernel
theorem dX6_goBy_23 : decode cX6_goBy 23 = .ok (.iload 4, 2) := by decide +kernel
theorem dX6_goBy_25 : decode cX6_goBy 25 = .ok (.iaload, 1) := by decide +kernel
theorem dX6_goBy_26 : decode cX6_goBy 26 = .ok (.aload_n 0, 1) := by decide +kernel
theorem dX6_goBy_27 : decode cX6_goBy 27 = .ok (.getfield 27, 3) := by decide +kernel
theorem dX6_goBy_30 : decode cX6_goBy 30 = .ok (.getfield 61, 3) := by decide +kernel
theorem dX6_goBy_33 : decode cX6_goBy 33 = .ok (.iload_n 1, 1) := by decide +kernel
theorem dX6_goBy_34 : decode cX6_goBy 34 = .ok (.iaload, 1) := by decide +kernel
theorem dX6_goBy_35 : decode cX6_goBy 35 = .ok (.iadd, 1) := by decide +kernel
theorem dX6_goBy_36 : decode cX6_goBy 36 = .ok (.istore 6, 2) := by decide +kernel
theorem dX6_goBy_38 : decode cX6_goBy 38 = .ok (.aload_n 2, 1) := by decide +kernel
theorem dX6_goBy_39 : decode cX6_goBy 39 = .ok (.iload 5, 2) := by decide +kernel
theorem dX6_goBy_41 : decode cX6_goBy 41 = .ok (.iaload, 1) := by decide +kernel
theorem dX6_goBy_42 : decode cX6_goBy 42 = .ok (.iconst (-1), 1) := by decide +kernel
theorem dX6_goBy_43 : decode cX6_goBy 43 = .ok (.if_icmp .eq 12, 3) := by decide +kernel
theorem dX6_goBy_46 : decode cX6_goBy 46 = .ok (.iload 6, 2) := by decide +kernel
theorem dX6_goBy_48 : decode cX6_goBy 48 = .ok (.aload_n 2, 1) := by decide +kernel
theorem dX6_goBy_49 : decode cX6_goBy 49 = .ok (.iload 5, 2) := by decide +kernel
theorem dX6_goBy_51 : decode cX6_goBy 51 = .ok (.iaload, 1) := by decide +kernel
theorem dX6_goBy_52 : decode cX6_goBy 52 = .ok (.if_icmp .ge 20, 3) := by decide +kernel
theorem dX6_goBy_55 : decode cX6_goBy 55 = .ok (.aload_n 2, 1) := by decide +kernel
theorem dX6_goBy_56 : decode cX6_goBy 56 = .ok (.iload 5, 2) := by decide +kernel
theorem dX6_goBy_58 : decode cX6_goBy 58 = .ok (.iload 6, 2) := by decide +kernel
theorem dX6_goBy_60 : decode cX6_goBy 60 = .ok (.iastore, 1) := by decide +kernel
theorem dX6_goBy_61 : decode cX6_goBy 61 = .ok (.aload_n 3, 1) := by decide +kernel
theorem dX6_goBy_62 : decode cX6_goBy 62 = .ok (.iload 5, 2) := by decide +kernel
theorem dX6_goBy_64 : decode cX6_goBy 64 = .ok (.aload_n 3, 1) := by decide +kernel
theorem dX6_goBy_65 : decode cX6_goBy 65 = .ok (.iload 4, 2) := by decide +kernel
theorem dX6_goBy_67 : decode cX6_goBy 67 = .ok (.iaload, 1) := by decide +kernel
theorem dX6_goBy_68 : decode cX6_goBy 68 = .ok (.iastore, 1) := by decide +kernel
theorem dX6_goBy_69 : decode cX6_goBy 69 = .ok (.goto 23, 3) := by decide +kernel
theorem dX6_goBy_72 : decode cX6_goBy 72 = .ok (.iload 6, 2) := by decide +kernel
theorem dX6_goBy_74 : decode cX6_goBy 74 = .ok (.aload_n 2, 1) := by decide +kernel
theorem dX6_goBy_75 : decode cX6_goBy 75 = .ok (.iload 5, 2) := by decide +kernel
theorem dX6_goBy_77 : decode cX6_goBy 77 = .ok (.iaload, 1) := by decide +kernel
theorem dX6_goBy_78 : decode cX6_goBy 78 = .ok (.if_icmp .ne 14, 3) := by decide +kernel
theorem dX6_goBy_81 : decode cX6_goBy 81 = .ok (.aload_n 3, 1) := by decide +kernel
theorem dX6_goBy_82 : decode cX6_goBy 82 = .ok (.iload 5, 2) := by decide +kernel
theorem dX6_goBy_84 : decode cX6_goBy 84 = .ok (.dup2, 1) := by decide +kernel
theorem dX6_goBy_85 : decode cX6_goBy 85 = .ok (.iaload, 1) := by decide +kernel
theorem dX6_goBy_86 : decode cX6_goBy 86 = .ok (.aload_n 3, 1) := by decide +kernel
theorem dX6_goBy_87 : decode cX6_goBy 87 = .ok (.iload 4, 2) := by decide +kernel
theorem dX6_goBy_89 : decode cX6_goBy 89 = .ok (.iaload, 1) := by decide +kernel
theorem dX6_goBy_90 : decode cX6_goBy 90 = .ok (.iadd, 1) := by decide +kernel
theorem dX6_goBy_91 : decode cX6_goBy 91 = .ok (.iastore, 1) := by decide +kernel
theorem dX6_goBy_92 : decode cX6_goBy 92 = .ok (.return_, 1) := by decide +kernel
theorem dX6_countThrough_0 : decode cX6_countThrough 0 = .ok (.aload_n 0, 1) := by decide +kernel
theorem dX6_countThrough_1 : decode cX6_countThrough 1 = .ok (.getfield 11, 3) := by decide +kernel
theorem dX6_countThrough_4 : decode cX6_countThrough 4 = .ok (.iload_n 1, 1) := by decide +kernel
theorem dX6_countThrough_5 : decode cX6_countThrough 5 = .ok (.aaload, 1) := by decide +kernel
theorem dX6_countThrough_6 : decode cX6_countThrough 6 = .ok (.iload_n 2, 1) := by decide +kernel
theorem dX6_countThrough_7 : decode cX6_countThrough 7 = .ok (.iaload, 1) := by decide +kernel
theorem dX6_countThrough_8 : decode cX6_countThrough 8 = .ok (.istore 4, 2) := by decide +kernel
theorem dX6_countThrough_10 : decode cX6_countThrough 10 = .ok (.aload_n 0, 1) := by decide +kernel
theorem dX6_countThrough_11 : decode cX6_countThrough 11 = .ok (.getfield 11, 3) := by decide +kernel
theorem dX6_countThrough_14 : decode cX6_countThrough 14 = .ok (.iload_n 2, 1) := by decide +kernel
theorem dX6_countThrough_15 : decode cX6_countThrough 15 = .ok (.aaload, 1) := by decide +kernel
theorem dX6_countThrough_16 : decode cX6_countThrough 16 = .ok (.iload_n 3, 1) := by decide +kernel
theorem dX6_countThrough_17 : decode cX6_countThrough 17 = .ok (.iaload, 1) := by decide +kernel
theorem dX6_countThrough_18 : decode cX6_countThrough 18 = .ok (.istore 5, 2) := by decide +kernel
theorem dX6_countThrough_20 : decode cX6_countThrough 20 = .ok (.iload 4, 2) := by decide +kernel
theorem dX6_countThrough_22 : decode cX6_countThrough 22 = .ok (.iconst (-1), 1) := by decide +kernel
theorem dX6_countThrough_23 : decode cX6_countThrough 23 = .ok (.if_icmp .eq 25, 3) := by decide +kernel
theorem dX6_countThrough_26 : decode cX6_countThrough 26 = .ok (.iload 5, 2) := by decide +kernel
theorem dX6_countThrough_28 : decode cX6_countThrough 28 = .ok (.iconst (-1), 1) := by decide +kernel
theorem dX6_countThrough_29 : decode cX6_countThrough 29 = .ok (.if_icmp .eq 19, 3) := by decide +kernel
theorem dX6_countThrough_32 : decode cX6_countThrough 32 = .ok (.iload 4, 2) := by decide +kernel
theorem dX6_countThrough_34 : decode cX6_countThrough 34 = .ok (.iload 5, 2) := by decide +kernel
theorem dX6_countThrough_36 : decode cX6_countThrough 36 = .ok (.iadd, 1) := by decide +kernel
theorem dX6_countThrough_37 : decode cX6_countThrough 37 = .ok (.aload_n 0, 1) := by decide +kernel
theorem dX6_countThrough_38 : decode cX6_countThrough 38 = .ok (.getfield 11, 3) := by decide +kernel
theorem dX6_countThrough_41 : decode cX6_countThrough 41 = .ok (.iload_n 1, 1) := by decide +kernel
theorem dX6_countThrough_42 : decode cX6_countThrough 42 = .ok (.aaload, 1) := by decide +kernel
theorem dX6_countThrough_43 : decode cX6_countThrough 43 = .ok (.iload_n 3, 1) := by decide +kernel
theorem dX6_countThrough_44 : decode cX6_countThrough 44 = .ok (.iaload, 1) := by decide +kernel
theorem dX6_countThrough_45 : decode cX6_countThrough 45 = .ok (.if_icmp .eq 5, 3) := by decide +kernel
theorem dX6_countThrough_48 : decode cX6_countThrough 48 = .ok (.iconst 0, 1) := by decide +kernel
theorem dX6_countThrough_49 : decode cX6_countThrough 49 = .ok (.ireturn, 1) := by decide +kernel
theorem dX6_countThrough_50 : decode cX6_countThrough 50 = .ok (.aload_n 0, 1) := by decide +kernel
theorem dX6_countThrough_51 : decode cX6_countThrough 51 = .ok (.getfield 16, 3) := by decide +kernel
theorem dX6_countThrough_54 : decode cX6_countThrough 54 = .ok (.iload_n 1, 1) := by decide +kernel
theorem dX6_countThrough_55 : decode cX6_countThrough 55 = .ok (.aaload, 1) := by decide +kernel
theorem dX6_countThrough_56 : decode cX6_countThrough 56 = .ok (.iload_n 2, 1) := by decide +kernel
theorem dX6_countThrough_57 : decode cX6_countThrough 57 = .ok (.iaload, 1) := by decide +kernel
theorem dX6_countThrough_58 : decode cX6_countThrough 58 = .ok (.aload_n 0, 1) := by decide +kernel
theorem dX6_countThrough_59 : decode cX6_countThrough 59 = .ok (.getfield 16, 3) := by decide +kernel
theorem dX6_countThrough_62 : decode cX6_countThrough 62 = .ok (.iload_n 2, 1) := by decide +kernel
theorem dX6_countThrough_63 : decode cX6_countThrough 63 = .ok (.aaload, 1) := by decide +kernel
theorem dX6_countThrough_64 : decode cX6_countThrough 64 = .ok (.iload_n 3, 1) := by decide +kernel
theorem dX6_countThrough_65 : decode cX6_countThrough 65 = .ok (.iaload, 1) := by decide +kernel
theorem dX6_countThrough_66 : decode cX6_countThrough 66 = .ok (.imul, 1) := by decide +kernel
theorem dX6_countThrough_67 : decode cX6_countThrough 67 = .ok (.ireturn, 1) := by decide +kernel
theorem dX6_countBy_0 : decode cX6_countBy 0 = .ok (.aload_n 0, 1) := by decide +kernel
theorem dX6_countBy_1 : decode cX6_countBy 1 = .ok (.getfield 11, 3) := by decide +kernel
theorem dX6_countBy_4 : decode cX6_countBy 4 = .ok (.iload_n 1, 1) := by decide +kernel
theorem dX6_countBy_5 : decode cX6_countBy 5 = .ok (.aaload, 1) := by decide +kernel
theorem dX6_countBy_6 : decode cX6_countBy 6 = .ok (.aload_n 0, 1) := by decide +kernel
theorem dX6_countBy_7 : decode cX6_countBy 7 = .ok (.getfield 27, 3) := by decide +kernel
theorem dX6_countBy_10 : decode cX6_countBy 10 = .ok (.getfield 57, 3) := by decide +kernel
theorem dX6_countBy_13 : decode cX6_countBy 13 = .ok (.iload_n 2, 1) := by decide +kernel
theorem dX6_countBy_14 : decode cX6_countBy 14 = .ok (.iaload, 1) := by decide +kernel
theorem dX6_countBy_15 : decode cX6_countBy 15 = .ok (.iaload, 1) := by decide +kernel
theorem dX6_countBy_16 : decode cX6_countBy 16 = .ok (.istore 4, 2) := by decide +kernel
theorem dX6_countBy_18 : decode cX6_countBy 18 = .ok (.aload_n 0, 1) := by decide +kernel
theorem dX6_countBy_19 : decode cX6_countBy 19 = .ok (.getfield 11, 3) := by decide +kernel
theorem dX6_countBy_22 : decode cX6_countBy 22 = .ok (.aload_n 0, 1) := by decide +kernel
theorem dX6_countBy_23 : decode cX6_countBy 23 = .ok (.getfield 27, 3) := by decide +kernel
theorem dX6_countBy_26 : decode cX6_countBy 26 = .ok (.getfield 64, 3) := by decide +kernel
theorem dX6_countBy_29 : decode cX6_countBy 29 = .ok (.iload_n 2, 1) := by decide +kernel
theorem dX6_countBy_30 : decode cX6_countBy 30 = .ok (.iaload, 1) := by decide +kernel
theorem dX6_countBy_31 : decode cX6_countBy 31 = .ok (.aaload, 1) := by decide +kernel
theorem dX6_countBy_32 : decode cX6_countBy 32 = .ok (.iload_n 3, 1) := by decide +kernel
theorem dX6_countBy_33 : decode cX6_countBy 33 = .ok (.iaload, 1) := by decide +kernel
theorem dX6_countBy_34 : decode cX6_countBy 34 = .ok (.istore 5, 2) := by decide +kernel
theorem dX6_countBy_36 : decode cX6_countBy 36 = .ok (.aload_n 0, 1) := by decide +kernel
theorem dX6_countBy_37 : decode cX6_countBy 37 = .ok (.getfield 27, 3) := by decide +kernel
theorem dX6_countBy_40 : decode cX6_countBy 40 = .ok (.getfield 61, 3) := by decide +kernel
theorem dX6_countBy_43 : decode cX6_countBy 43 = .ok (.iload_n 2, 1) := by decide +kernel
theorem dX6_countBy_44 : decode cX6_countBy 44 = .ok (.iaload, 1) := by decide +kernel
theorem dX6_countBy_45 : decode cX6_countBy 45 = .ok (.ifCond .eq 15, 3) := by decide +kernel
theorem dX6_countBy_48 : decode cX6_countBy 48 = .ok (.iload 4, 2) := by decide +kernel
theorem dX6_countBy_50 : decode cX6_countBy 50 = .ok (.iconst (-1), 1) := by decide +kernel
theorem dX6_countBy_51 : decode cX6_countBy 51 = .ok (.if_icmp .eq 9, 3) := by decide +kernel
theorem dX6_countBy_54 : decode cX6_countBy 54 = .ok (.iload 5, 2) := by decide +kernel
theorem dX6_countBy_56 : decode cX6_countBy 56 = .ok (.iconst (-1), 1) := by decide +kernel
theorem dX6_countBy_57 : decode cX6_countBy 57 = .ok (.if_icmp .ne 5, 3) := by decide +kernel
theorem dX6_countBy_60 : decode cX6_countBy 60 = .ok (.iconst 0, 1) := by decide +kernel
theorem dX6_countBy_61 : decode cX6_countBy 61 = .ok (.ireturn, 1) := by decide +kernel
theorem dX6_countBy_62 : decode cX6_countBy 62 = .ok (.iload 4, 2) := by decide +kernel
theorem dX6_countBy_64 : decode cX6_countBy 64 = .ok (.aload_n 0, 1) := by decide +kernel
theorem dX6_countBy_65 : decode cX6_countBy 65 = .ok (.getfield 27, 3) := by decide +kernel
theorem dX6_countBy_68 : decode cX6_countBy 68 = .ok (.getfield 61, 3) := by decide +kernel
theorem dX6_countBy_71 : decode cX6_countBy 71 = .ok (.iload_n 2, 1) := by decide +kernel
theorem dX6_countBy_72 : decode cX6_countBy 72 = .ok (.iaload, 1) := by decide +kernel
theorem dX6_countBy_73 : decode cX6_countBy 73 = .ok (.iadd, 1) := by decide +kernel
theorem dX6_countBy_74 : decode cX6_countBy 74 = .ok (.iload 5, 2) := by decide +kernel
theorem dX6_countBy_76 : decode cX6_countBy 76 = .ok (.iadd, 1) := by decide +kernel
theorem dX6_countBy_77 : decode cX6_countBy 77 = .ok (.aload_n 0, 1) := by decide +kernel
theorem dX6_countBy_78 : decode cX6_countBy 78 = .ok (.getfield 11, 3) := by decide +kernel
theorem dX6_countBy_81 : decode cX6_countBy 81 = .ok (.iload_n 1, 1) := by decide +kernel
theorem dX6_countBy_82 : decode cX6_countBy 82 = .ok (.aaload, 1) := by decide +kernel
theorem dX6_countBy_83 : decode cX6_countBy 83 = .ok (.iload_n 3, 1) := by decide +kernel
theorem dX6_countBy_84 : decode cX6_countBy 84 = .ok (.iaload, 1) := by decide +kernel
theorem dX6_countBy_85 : decode cX6_countBy 85 = .ok (.if_icmp .eq 5, 3) := by decide +kernel
theorem dX6_countBy_88 : decode cX6_countBy 88 = .ok (.iconst 0, 1) := by decide +kernel
theorem dX6_countBy_89 : decode cX6_countBy 89 = .ok (.ireturn, 1) := by decide +kernel
theorem dX6_countBy_90 : decode cX6_countBy 90 = .ok (.aload_n 0, 1) := by decide +kernel
theorem dX6_countBy_91 : decode cX6_countBy 91 = .ok (.getfield 16, 3) := by decide +kernel
theorem dX6_countBy_94 : decode cX6_countBy 94 = .ok (.iload_n 1, 1) := by decide +kernel
theorem dX6_countBy_95 : decode cX6_countBy 95 = .ok (.aaload, 1) := by decide +kernel
theorem dX6_countBy_96 : decode cX6_countBy 96 = .ok (.aload_n 0, 1) := by decide +kernel
theorem dX6_countBy_97 : decode cX6_countBy 97 = .ok (.getfield 27, 3) := by decide +kernel
theorem dX6_countBy_100 : decode cX6_countBy 100 = .ok (.getfield 57, 3) := by decide +kernel
theorem dX6_countBy_103 : decode cX6_countBy 103 = .ok (.iload_n 2, 1) := by decide +kernel
theorem dX6_countBy_104 : decode cX6_countBy 104 = .ok (.iaload, 1) := by decide +kernel
theorem dX6_countBy_105 : decode cX6_countBy 105 = .ok (.iaload, 1) := by decide +kernel
theorem dX6_countBy_106 : decode cX6_countBy 106 = .ok (.aload_n 0, 1) := by decide +kernel
theorem dX6_countBy_107 : decode cX6_countBy 107 = .ok (.getfield 16, 3) := by decide +kernel
theorem dX6_countBy_110 : decode cX6_countBy 110 = .ok (.aload_n 0, 1) := by decide +kernel
theorem dX6_countBy_111 : decode cX6_countBy 111 = .ok (.getfield 27, 3) := by decide +kernel
theorem dX6_countBy_114 : decode cX6_countBy 114 = .ok (.getfield 64, 3) := by decide +kernel
theorem dX6_countBy_117 : decode cX6_countBy 117 = .ok (.iload_n 2, 1) := by decide +kernel
theorem dX6_countBy_118 : decode cX6_countBy 118 = .ok (.iaload, 1) := by decide +kernel
theorem dX6_countBy_119 : decode cX6_countBy 119 = .ok (.aaload, 1) := by decide +kernel
theorem dX6_countBy_120 : decode cX6_countBy 120 = .ok (.iload_n 3, 1) := by decide +kernel
theorem dX6_countBy_121 : decode cX6_countBy 121 = .ok (.iaload, 1) := by decide +kernel
theorem dX6_countBy_122 : decode cX6_countBy 122 = .ok (.imul, 1) := by decide +kernel
theorem dX6_countBy_123 : decode cX6_countBy 123 = .ok (.ireturn, 1) := by decide +kernel
theorem dX7_init_0 : decode cX7_init 0 = .ok (.aload_n 0, 1) := by decide +kernel
theorem dX7_init_1 : decode cX7_init 1 = .ok (.invokespecial 3, 3) := by decide +kernel
theorem dX7_init_4 : decode cX7_init 4 = .ok (.aload_n 0, 1) := by decide +kernel
theorem dX7_init_5 : decode cX7_init 5 = .ok (.new 9, 3) := by decide +kernel
theorem dX7_init_8 : decode cX7_init 8 = .ok (.dup, 1) := by decide +kernel
theorem dX7_init_9 : decode cX7_init 9 = .ok (.invokespecial 11, 3) := by decide +kernel
theorem dX7_init_12 : decode cX7_init 12 = .ok (.putfield 12, 3) := by decide +kernel
theorem dX7_init_15 : decode cX7_init 15 = .ok (.aload_n 0, 1) := by decide +kernel
theorem dX7_init_16 : decode cX7_init 16 = .ok (.bipush 10, 2) := by decide +kernel
theorem dX7_init_18 : decode cX7_init 18 = .ok (.newarray .boolean, 2) := by decide +kernel
theorem dX7_init_20 : decode cX7_init 20 = .ok (.putfield 16, 3) := by decide +kernel
theorem dX7_init_23 : decode cX7_init 23 = .ok (.aload_n 0, 1) := by decide +kernel
theorem dX7_init_24 : decode cX7_init 24 = .ok (.bipush 10, 2) := by decide +kernel
theorem dX7_init_26 : decode cX7_init 26 = .ok (.newarray .boolean, 2) := by decide +kernel
theorem dX7_init_28 : decode cX7_init 28 = .ok (.putfield 20, 3) := by decide +kernel
theorem dX7_init_31 : decode cX7_init 31 = .ok (.aload_n 0, 1) := by decide +kernel
theorem dX7_init_32 : decode cX7_init 32 = .ok (.bipush 10, 2) := by decide +kernel
theorem dX7_init_34 : decode cX7_init 34 = .ok (.newarray .boolean, 2) := by decide +kernel
theorem dX7_init_36 : decode cX7_init 36 = .ok (.putfield 23, 3) := by decide +kernel
theorem dX7_init_39 : decode cX7_init 39 = .ok (.iconst 0, 1) := by decide +kernel
theorem dX7_init_40 : decode cX7_init 40 = .ok (.istore_n 1, 1) := by decide +kernel
theorem dX7_init_41 : decode cX7_init 41 = .ok (.iload_n 1, 1) := by decide +kernel
theorem dX7_init_42 : decode cX7_init 42 = .ok (.bipush 10, 2) := by decide +kernel
theorem dX7_init_44 : decode cX7_init 44 = .ok (.if_icmp .ge 23, 3) := by decide +kernel
theorem dX7_init_47 : decode cX7_init 47 = .ok (.aload_n 0, 1) := by decide +kernel
theorem dX7_init_48 : decode cX7_init 48 = .ok (.getfield 20, 3) := by decide +kernel
theorem dX7_init_51 : decode cX7_init 51 = .ok (.iload_n 1, 1) := by decide +kernel
theorem dX7_init_52 : decode cX7_init 52 = .ok (.iconst 1, 1) := by decide +kernel
theorem dX7_init_53 : decode cX7_init 53 = .ok (.bastore, 1) := by decide +kernel
theorem dX7_init_54 : decode cX7_init 54 = .ok (.aload_n 0, 1) := by decide +kernel
theorem dX7_init_55 : decode cX7_init 55 = .ok (.getfield 23, 3) := by decide +kernel
theorem dX7_init_58 : decode cX7_init 58 = .ok (.iload_n 1, 1) := by decide +kernel
theorem dX7_init_59 : decode cX7_init 59 = .ok (.iconst 1, 1) := by decide +kernel
theorem dX7_init_60 : decode cX7_init 60 = .ok (.bastore, 1) := by decide +kernel
theorem dX7_init_61 : decode cX7_init 61 = .ok (.iinc 1 1, 3) := by decide +kernel
theorem dX7_init_64 : decode cX7_init 64 = .ok (.goto (-23), 3) := by decide +kernel
theorem dX7_init_67 : decode cX7_init 67 = .ok (.aload_n 0, 1) := by decide +kernel
theorem dX7_init_68 : decode cX7_init 68 = .ok (.new 26, 3) := by decide +kernel
theorem dX7_init_71 : decode cX7_init 71 = .ok (.dup, 1) := by decide +kernel
theorem dX7_init_72 : decode cX7_init 72 = .ok (.aload_n 0, 1) := by decide +kernel
theorem dX7_init_73 : decode cX7_init 73 = .ok (.getfield 12, 3) := by decide +kernel
theorem dX7_init_76 : decode cX7_init 76 = .ok (.bipush 10, 2) := by decide +kernel
theorem dX7_init_78 : decode cX7_init 78 = .ok (.newarray .boolean, 2) := by decide +kernel
theorem dX7_init_80 : decode cX7_init 80 = .ok (.invokespecial 28, 3) := by decide +kernel
theorem dX7_init_83 : decode cX7_init 83 = .ok (.putfield 31, 3) := by decide +kernel
theorem dX7_init_86 : decode cX7_init 86 = .ok (.aload_n 0, 1) := by decide +kernel
theorem dX7_init_87 : decode cX7_init 87 = .ok (.new 26, 3) := by decide +kernel
theorem dX7_init_90 : decode cX7_init 90 = .ok (.dup, 1) := by decide +kernel
theorem dX7_init_91 : decode cX7_init 91 = .ok (.aload_n 0, 1) := by decide +kernel
theorem dX7_init_92 : decode cX7_init 92 = .ok (.getfield 12, 3) := by decide +kernel
theorem dX7_init_95 : decode cX7_init 95 = .ok (.aload_n 0, 1) := by decide +kernel
theorem dX7_init_96 : decode cX7_init 96 = .ok (.getfield 16, 3) := by decide +kernel
theorem dX7_init_99 : decode cX7_init 99 = .ok (.invokespecial 28, 3) := by decide +kernel
theorem dX7_init_102 : decode cX7_init 102 = .ok (.putfield 35, 3) := by decide +kernel
theorem dX7_init_105 : decode cX7_init 105 = .ok (.aload_n 0, 1) := by decide +kernel
theorem dX7_init_106 : decode cX7_init 106 = .ok (.new 38, 3) := by decide +kernel
theorem dX7_init_109 : decode cX7_init 109 = .ok (.dup, 1) := by decide +kernel
theorem dX7_init_110 : decode cX7_init 110 = .ok (.aload_n 0, 1) := by decide +kernel
theorem dX7_init_111 : decode cX7_init 111 = .ok (.getfield 12, 3) := by decide +kernel
