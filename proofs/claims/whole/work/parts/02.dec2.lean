theorem dX7_init_114 : decode cX7_init 114 = .ok (.invokespecial 40, 3) := by decide +kernel
theorem dX7_init_117 : decode cX7_init 117 = .ok (.putfield 43, 3) := by decide +kernel
theorem dX7_init_120 : decode cX7_init 120 = .ok (.aload_n 0, 1) := by decide +kernel
theorem dX7_init_121 : decode cX7_init 121 = .ok (.new 47, 3) := by decide +kernel
theorem dX7_init_124 : decode cX7_init 124 = .ok (.dup, 1) := by decide +kernel
theorem dX7_init_125 : decode cX7_init 125 = .ok (.invokespecial 49, 3) := by decide +kernel
theorem dX7_init_128 : decode cX7_init 128 = .ok (.putfield 50, 3) := by decide +kernel
theorem dX7_init_131 : decode cX7_init 131 = .ok (.aload_n 0, 1) := by decide +kernel
theorem dX7_init_132 : decode cX7_init 132 = .ok (.new 54, 3) := by decide +kernel
theorem dX7_init_135 : decode cX7_init 135 = .ok (.dup, 1) := by decide +kernel
theorem dX7_init_136 : decode cX7_init 136 = .ok (.invokespecial 56, 3) := by decide +kernel
theorem dX7_init_139 : decode cX7_init 139 = .ok (.putfield 57, 3) := by decide +kernel
theorem dX7_init_142 : decode cX7_init 142 = .ok (.aload_n 0, 1) := by decide +kernel
theorem dX7_init_143 : decode cX7_init 143 = .ok (.iconst (-1), 1) := by decide +kernel
theorem dX7_init_144 : decode cX7_init 144 = .ok (.putfield 61, 3) := by decide +kernel
theorem dX7_init_147 : decode cX7_init 147 = .ok (.return_, 1) := by decide +kernel
theorem dX7_node_0 : decode cX7_node 0 = .ok (.aload_n 0, 1) := by decide +kernel
theorem dX7_node_1 : decode cX7_node 1 = .ok (.getfield 12, 3) := by decide +kernel
theorem dX7_node_4 : decode cX7_node 4 = .ok (.invokevirtual 65, 3) := by decide +kernel
theorem dX7_node_7 : decode cX7_node 7 = .ok (.istore_n 1, 1) := by decide +kernel
theorem dX7_node_8 : decode cX7_node 8 = .ok (.iload_n 1, 1) := by decide +kernel
theorem dX7_node_9 : decode cX7_node 9 = .ok (.iconst (-1), 1) := by decide +kernel
theorem dX7_node_10 : decode cX7_node 10 = .ok (.if_icmp .eq 7, 3) := by decide +kernel
theorem dX7_node_13 : decode cX7_node 13 = .ok (.aload_n 0, 1) := by decide +kernel
theorem dX7_node_14 : decode cX7_node 14 = .ok (.invokevirtual 69, 3) := by decide +kernel
theorem dX7_node_17 : decode cX7_node 17 = .ok (.iload_n 1, 1) := by decide +kernel
theorem dX7_node_18 : decode cX7_node 18 = .ok (.ireturn, 1) := by decide +kernel
theorem dX7_arc_0 : decode cX7_arc 0 = .ok (.aload_n 0, 1) := by decide +kernel
theorem dX7_arc_1 : decode cX7_arc 1 = .ok (.getfield 12, 3) := by decide +kernel
theorem dX7_arc_4 : decode cX7_arc 4 = .ok (.iload_n 1, 1) := by decide +kernel
theorem dX7_arc_5 : decode cX7_arc 5 = .ok (.iload_n 2, 1) := by decide +kernel
theorem dX7_arc_6 : decode cX7_arc 6 = .ok (.iload_n 3, 1) := by decide +kernel
theorem dX7_arc_7 : decode cX7_arc 7 = .ok (.invokevirtual 72, 3) := by decide +kernel
theorem dX7_arc_10 : decode cX7_arc 10 = .ok (.istore 4, 2) := by decide +kernel
theorem dX7_arc_12 : decode cX7_arc 12 = .ok (.iload 4, 2) := by decide +kernel
theorem dX7_arc_14 : decode cX7_arc 14 = .ok (.iconst (-1), 1) := by decide +kernel
theorem dX7_arc_15 : decode cX7_arc 15 = .ok (.if_icmp .eq 7, 3) := by decide +kernel
theorem dX7_arc_18 : decode cX7_arc 18 = .ok (.aload_n 0, 1) := by decide +kernel
theorem dX7_arc_19 : decode cX7_arc 19 = .ok (.invokevirtual 69, 3) := by decide +kernel
theorem dX7_arc_22 : decode cX7_arc 22 = .ok (.iload 4, 2) := by decide +kernel
theorem dX7_arc_24 : decode cX7_arc 24 = .ok (.ireturn, 1) := by decide +kernel
theorem dX7_change_0 : decode cX7_change 0 = .ok (.aload_n 0, 1) := by decide +kernel
theorem dX7_change_1 : decode cX7_change 1 = .ok (.getfield 12, 3) := by decide +kernel
theorem dX7_change_4 : decode cX7_change 4 = .ok (.iload_n 1, 1) := by decide +kernel
theorem dX7_change_5 : decode cX7_change 5 = .ok (.invokevirtual 76, 3) := by decide +kernel
theorem dX7_change_8 : decode cX7_change 8 = .ok (.ifCond .eq 14, 3) := by decide +kernel
theorem dX7_change_11 : decode cX7_change 11 = .ok (.aload_n 0, 1) := by decide +kernel
theorem dX7_change_12 : decode cX7_change 12 = .ok (.getfield 12, 3) := by decide +kernel
theorem dX7_change_15 : decode cX7_change 15 = .ok (.iload_n 2, 1) := by decide +kernel
theorem dX7_change_16 : decode cX7_change 16 = .ok (.invokevirtual 80, 3) := by decide +kernel
theorem dX7_change_19 : decode cX7_change 19 = .ok (.ifCond .ne 5, 3) := by decide +kernel
theorem dX7_change_22 : decode cX7_change 22 = .ok (.iconst (-1), 1) := by decide +kernel
theorem dX7_change_23 : decode cX7_change 23 = .ok (.ireturn, 1) := by decide +kernel
theorem dX7_change_24 : decode cX7_change 24 = .ok (.aload_n 0, 1) := by decide +kernel
theorem dX7_change_25 : decode cX7_change 25 = .ok (.getfield 12, 3) := by decide +kernel
theorem dX7_change_28 : decode cX7_change 28 = .ok (.getfield 83, 3) := by decide +kernel
theorem dX7_change_31 : decode cX7_change 31 = .ok (.iload_n 1, 1) := by decide +kernel
theorem dX7_change_32 : decode cX7_change 32 = .ok (.iaload, 1) := by decide +kernel
theorem dX7_change_33 : decode cX7_change 33 = .ok (.istore_n 3, 1) := by decide +kernel
theorem dX7_change_34 : decode cX7_change 34 = .ok (.aload_n 0, 1) := by decide +kernel
theorem dX7_change_35 : decode cX7_change 35 = .ok (.getfield 12, 3) := by decide +kernel
theorem dX7_change_38 : decode cX7_change 38 = .ok (.getfield 83, 3) := by decide +kernel
theorem dX7_change_41 : decode cX7_change 41 = .ok (.iload_n 1, 1) := by decide +kernel
theorem dX7_change_42 : decode cX7_change 42 = .ok (.iload_n 2, 1) := by decide +kernel
theorem dX7_change_43 : decode cX7_change 43 = .ok (.iastore, 1) := by decide +kernel
theorem dX7_change_44 : decode cX7_change 44 = .ok (.aload_n 0, 1) := by decide +kernel
theorem dX7_change_45 : decode cX7_change 45 = .ok (.invokevirtual 69, 3) := by decide +kernel
theorem dX7_change_48 : decode cX7_change 48 = .ok (.iload_n 3, 1) := by decide +kernel
theorem dX7_change_49 : decode cX7_change 49 = .ok (.ireturn, 1) := by decide +kernel
theorem dX7_choose_0 : decode cX7_choose 0 = .ok (.aload_n 0, 1) := by decide +kernel
theorem dX7_choose_1 : decode cX7_choose 1 = .ok (.getfield 12, 3) := by decide +kernel
theorem dX7_choose_4 : decode cX7_choose 4 = .ok (.iload_n 1, 1) := by decide +kernel
theorem dX7_choose_5 : decode cX7_choose 5 = .ok (.invokevirtual 87, 3) := by decide +kernel
theorem dX7_choose_8 : decode cX7_choose 8 = .ok (.ifCond .eq 12, 3) := by decide +kernel
theorem dX7_choose_11 : decode cX7_choose 11 = .ok (.iload_n 2, 1) := by decide +kernel
theorem dX7_choose_12 : decode cX7_choose 12 = .ok (.ifCond .lt 8, 3) := by decide +kernel
theorem dX7_choose_15 : decode cX7_choose 15 = .ok (.iload_n 2, 1) := by decide +kernel
theorem dX7_choose_16 : decode cX7_choose 16 = .ok (.iconst 2, 1) := by decide +kernel
theorem dX7_choose_17 : decode cX7_choose 17 = .ok (.if_icmp .le 5, 3) := by decide +kernel
theorem dX7_choose_20 : decode cX7_choose 20 = .ok (.iconst 0, 1) := by decide +kernel
theorem dX7_choose_21 : decode cX7_choose 21 = .ok (.ireturn, 1) := by decide +kernel
theorem dX7_choose_22 : decode cX7_choose 22 = .ok (.iload_n 2, 1) := by decide +kernel
theorem dX7_choose_23 : decode cX7_choose 23 = .ok (.ifCond .ne 10, 3) := by decide +kernel
theorem dX7_choose_26 : decode cX7_choose 26 = .ok (.aload_n 0, 1) := by decide +kernel
theorem dX7_choose_27 : decode cX7_choose 27 = .ok (.getfield 16, 3) := by decide +kernel
theorem dX7_choose_30 : decode cX7_choose 30 = .ok (.goto 19, 3) := by decide +kernel
theorem dX7_choose_33 : decode cX7_choose 33 = .ok (.iload_n 2, 1) := by decide +kernel
theorem dX7_choose_34 : decode cX7_choose 34 = .ok (.iconst 1, 1) := by decide +kernel
theorem dX7_choose_35 : decode cX7_choose 35 = .ok (.if_icmp .ne 10, 3) := by decide +kernel
theorem dX7_choose_38 : decode cX7_choose 38 = .ok (.aload_n 0, 1) := by decide +kernel
theorem dX7_choose_39 : decode cX7_choose 39 = .ok (.getfield 20, 3) := by decide +kernel
theorem dX7_choose_42 : decode cX7_choose 42 = .ok (.goto 7, 3) := by decide +kernel
theorem dX7_choose_45 : decode cX7_choose 45 = .ok (.aload_n 0, 1) := by decide +kernel
theorem dX7_choose_46 : decode cX7_choose 46 = .ok (.getfield 23, 3) := by decide +kernel
theorem dX7_choose_49 : decode cX7_choose 49 = .ok (.astore_n 3, 1) := by decide +kernel
theorem dX7_choose_50 : decode cX7_choose 50 = .ok (.aload_n 3, 1) := by decide +kernel
theorem dX7_choose_51 : decode cX7_choose 51 = .ok (.iload_n 1, 1) := by decide +kernel
theorem dX7_choose_52 : decode cX7_choose 52 = .ok (.aload_n 3, 1) := by decide +kernel
theorem dX7_choose_53 : decode cX7_choose 53 = .ok (.iload_n 1, 1) := by decide +kernel
theorem dX7_choose_54 : decode cX7_choose 54 = .ok (.baload, 1) := by decide +kernel
theorem dX7_choose_55 : decode cX7_choose 55 = .ok (.ifCond .ne 7, 3) := by decide +kernel
theorem dX7_choose_58 : decode cX7_choose 58 = .ok (.iconst 1, 1) := by decide +kernel
theorem dX7_choose_59 : decode cX7_choose 59 = .ok (.goto 4, 3) := by decide +kernel
theorem dX7_choose_62 : decode cX7_choose 62 = .ok (.iconst 0, 1) := by decide +kernel
theorem dX7_choose_63 : decode cX7_choose 63 = .ok (.bastore, 1) := by decide +kernel
theorem dX7_choose_64 : decode cX7_choose 64 = .ok (.aload_n 0, 1) := by decide +kernel
theorem dX7_choose_65 : decode cX7_choose 65 = .ok (.invokevirtual 90, 3) := by decide +kernel
theorem dX7_choose_68 : decode cX7_choose 68 = .ok (.aload_n 3, 1) := by decide +kernel
theorem dX7_choose_69 : decode cX7_choose 69 = .ok (.iload_n 1, 1) := by decide +kernel
theorem dX7_choose_70 : decode cX7_choose 70 = .ok (.baload, 1) := by decide +kernel
theorem dX7_choose_71 : decode cX7_choose 71 = .ok (.ireturn, 1) := by decide +kernel
theorem dX7_far_0 : decode cX7_far 0 = .ok (.aload_n 0, 1) := by decide +kernel
theorem dX7_far_1 : decode cX7_far 1 = .ok (.getfield 12, 3) := by decide +kernel
theorem dX7_far_4 : decode cX7_far 4 = .ok (.iload_n 1, 1) := by decide +kernel
theorem dX7_far_5 : decode cX7_far 5 = .ok (.invokevirtual 87, 3) := by decide +kernel
theorem dX7_far_8 : decode cX7_far 8 = .ok (.ifCond .eq 14, 3) := by decide +kernel
theorem dX7_far_11 : decode cX7_far 11 = .ok (.aload_n 0, 1) := by decide +kernel
theorem dX7_far_12 : decode cX7_far 12 = .ok (.getfield 12, 3) := by decide +kernel
theorem dX7_far_15 : decode cX7_far 15 = .ok (.iload_n 2, 1) := by decide +kernel
theorem dX7_far_16 : decode cX7_far 16 = .ok (.invokevirtual 87, 3) := by decide +kernel
theorem dX7_far_19 : decode cX7_far 19 = .ok (.ifCond .ne 5, 3) := by decide +kernel
theorem dX7_far_22 : decode cX7_far 22 = .ok (.iconst (-1), 1) := by decide +kernel
theorem dX7_far_23 : decode cX7_far 23 = .ok (.ireturn, 1) := by decide +kernel
theorem dX7_far_24 : decode cX7_far 24 = .ok (.aload_n 0, 1) := by decide +kernel
theorem dX7_far_25 : decode cX7_far 25 = .ok (.getfield 31, 3) := by decide +kernel
theorem dX7_far_28 : decode cX7_far 28 = .ok (.invokevirtual 93, 3) := by decide +kernel
theorem dX7_far_31 : decode cX7_far 31 = .ok (.aload_n 0, 1) := by decide +kernel
theorem dX7_far_32 : decode cX7_far 32 = .ok (.getfield 31, 3) := by decide +kernel
theorem dX7_far_35 : decode cX7_far 35 = .ok (.getfield 96, 3) := by decide +kernel
theorem dX7_far_38 : decode cX7_far 38 = .ok (.iload_n 1, 1) := by decide +kernel
theorem dX7_far_39 : decode cX7_far 39 = .ok (.aaload, 1) := by decide +kernel
theorem dX7_far_40 : decode cX7_far 40 = .ok (.iload_n 2, 1) := by decide +kernel
theorem dX7_far_41 : decode cX7_far 41 = .ok (.iaload, 1) := by decide +kernel
theorem dX7_far_42 : decode cX7_far 42 = .ok (.ireturn, 1) := by decide +kernel
theorem dX7_ways_0 : decode cX7_ways 0 = .ok (.aload_n 0, 1) := by decide +kernel
theorem dX7_ways_1 : decode cX7_ways 1 = .ok (.getfield 12, 3) := by decide +kernel
theorem dX7_ways_4 : decode cX7_ways 4 = .ok (.iload_n 1, 1) := by decide +kernel
theorem dX7_ways_5 : decode cX7_ways 5 = .ok (.invokevirtual 87, 3) := by decide +kernel
theorem dX7_ways_8 : decode cX7_ways 8 = .ok (.ifCond .eq 14, 3) := by decide +kernel
theorem dX7_ways_11 : decode cX7_ways 11 = .ok (.aload_n 0, 1) := by decide +kernel
theorem dX7_ways_12 : decode cX7_ways 12 = .ok (.getfield 12, 3) := by decide +kernel
theorem dX7_ways_15 : decode cX7_ways 15 = .ok (.iload_n 2, 1) := by decide +kernel
theorem dX7_ways_16 : decode cX7_ways 16 = .ok (.invokevirtual 87, 3) := by decide +kernel
theorem dX7_ways_19 : decode cX7_ways 19 = .ok (.ifCond .ne 5, 3) := by decide +kernel
theorem dX7_ways_22 : decode cX7_ways 22 = .ok (.iconst (-1), 1) := by decide +kernel
theorem dX7_ways_23 : decode cX7_ways 23 = .ok (.ireturn, 1) := by decide +kernel
theorem dX7_ways_24 : decode cX7_ways 24 = .ok (.aload_n 0, 1) := by decide +kernel
theorem dX7_ways_25 : decode cX7_ways 25 = .ok (.getfield 31, 3) := by decide +kernel
theorem dX7_ways_28 : decode cX7_ways 28 = .ok (.invokevirtual 93, 3) := by decide +kernel
theorem dX7_ways_31 : decode cX7_ways 31 = .ok (.aload_n 0, 1) := by decide +kernel
theorem dX7_ways_32 : decode cX7_ways 32 = .ok (.getfield 31, 3) := by decide +kernel
theorem dX7_ways_35 : decode cX7_ways 35 = .ok (.getfield 100, 3) := by decide +kernel
theorem dX7_ways_38 : decode cX7_ways 38 = .ok (.iload_n 1, 1) := by decide +kernel
theorem dX7_ways_39 : decode cX7_ways 39 = .ok (.aaload, 1) := by decide +kernel
theorem dX7_ways_40 : decode cX7_ways 40 = .ok (.iload_n 2, 1) := by decide +kernel
theorem dX7_ways_41 : decode cX7_ways 41 = .ok (.iaload, 1) := by decide +kernel
theorem dX7_ways_42 : decode cX7_ways 42 = .ok (.ireturn, 1) := by decide +kernel
theorem dX7_stress_0 : decode cX7_stress 0 = .ok (.aload_n 0, 1) := by decide +kernel
theorem dX7_stress_1 : decode cX7_stress 1 = .ok (.getfield 12, 3) := by decide +kernel
theorem dX7_stress_4 : decode cX7_stress 4 = .ok (.iload_n 1, 1) := by decide +kernel
theorem dX7_stress_5 : decode cX7_stress 5 = .ok (.invokevirtual 87, 3) := by decide +kernel
theorem dX7_stress_8 : decode cX7_stress 8 = .ok (.ifCond .ne 7, 3) := by decide +kernel
theorem dX7_stress_11 : decode cX7_stress 11 = .ok (.ldc2_w 103, 3) := by decide +kernel
theorem dX7_stress_14 : decode cX7_stress 14 = .ok (.lreturn, 1) := by decide +kernel
theorem dX7_stress_15 : decode cX7_stress 15 = .ok (.aload_n 0, 1) := by decide +kernel
theorem dX7_stress_16 : decode cX7_stress 16 = .ok (.getfield 31, 3) := by decide +kernel
theorem dX7_stress_19 : decode cX7_stress 19 = .ok (.invokevirtual 93, 3) := by decide +kernel
theorem dX7_stress_22 : decode cX7_stress 22 = .ok (.lconst 0, 1) := by decide +kernel
theorem dX7_stress_23 : decode cX7_stress 23 = .ok (.lstore_n 2, 1) := by decide +kernel
theorem dX7_stress_24 : decode cX7_stress 24 = .ok (.iconst 0, 1) := by decide +kernel
theorem dX7_stress_25 : decode cX7_stress 25 = .ok (.istore 4, 2) := by decide +kernel
theorem dX7_stress_27 : decode cX7_stress 27 = .ok (.iload 4, 2) := by decide +kernel
theorem dX7_stress_29 : decode cX7_stress 29 = .ok (.aload_n 0, 1) := by decide +kernel
theorem dX7_stress_30 : decode cX7_stress 30 = .ok (.getfield 12, 3) := by decide +kernel
theorem dX7_stress_33 : decode cX7_stress 33 = .ok (.getfield 105, 3) := by decide +kernel
theorem dX7_stress_36 : decode cX7_stress 36 = .ok (.if_icmp .ge 69, 3) := by decide +kernel
theorem dX7_stress_39 : decode cX7_stress 39 = .ok (.iconst 0, 1) := by decide +kernel
theorem dX7_stress_40 : decode cX7_stress 40 = .ok (.istore 5, 2) := by decide +kernel
theorem dX7_stress_42 : decode cX7_stress 42 = .ok (.iload 5, 2) := by decide +kernel
theorem dX7_stress_44 : decode cX7_stress 44 = .ok (.aload_n 0, 1) := by decide +kernel
theorem dX7_stress_45 : decode cX7_stress 45 = .ok (.getfield 12, 3) := by decide +kernel
theorem dX7_stress_48 : decode cX7_stress 48 = .ok (.getfield 105, 3) := by decide +kernel
theorem dX7_stress_51 : decode cX7_stress 51 = .ok (.if_icmp .ge 48, 3) := by decide +kernel
theorem dX7_stress_54 : decode cX7_stress 54 = .ok (.iload 4, 2) := by decide +kernel
theorem dX7_stress_56 : decode cX7_stress 56 = .ok (.iload_n 1, 1) := by decide +kernel
theorem dX7_stress_57 : decode cX7_stress 57 = .ok (.if_icmp .eq 36, 3) := by decide +kernel
theorem dX7_stress_60 : decode cX7_stress 60 = .ok (.iload 5, 2) := by decide +kernel
theorem dX7_stress_62 : decode cX7_stress 62 = .ok (.iload_n 1, 1) := by decide +kernel
theorem dX7_stress_63 : decode cX7_stress 63 = .ok (.if_icmp .eq 30, 3) := by decide +kernel
theorem dX7_stress_66 : decode cX7_stress 66 = .ok (.aload_n 0, 1) := by decide +kernel
theorem dX7_stress_67 : decode cX7_stress 67 = .ok (.iload 4, 2) := by decide +kernel
theorem dX7_stress_69 : decode cX7_stress 69 = .ok (.iload 5, 2) := by decide +kernel
theorem dX7_stress_71 : decode cX7_stress 71 = .ok (.invokevirtual 108, 3) := by decide +kernel
theorem dX7_stress_74 : decode cX7_stress 74 = .ok (.ifCond .eq 19, 3) := by decide +kernel
theorem dX7_stress_77 : decode cX7_stress 77 = .ok (.lload_n 2, 1) := by decide +kernel
theorem dX7_stress_78 : decode cX7_stress 78 = .ok (.aload_n 0, 1) := by decide +kernel
theorem dX7_stress_79 : decode cX7_stress 79 = .ok (.getfield 31, 3) := by decide +kernel
theorem dX7_stress_82 : decode cX7_stress 82 = .ok (.iload 4, 2) := by decide +kernel
theorem dX7_stress_84 : decode cX7_stress 84 = .ok (.iload_n 1, 1) := by decide +kernel
theorem dX7_stress_85 : decode cX7_stress 85 = .ok (.iload 5, 2) := by decide +kernel
theorem dX7_stress_87 : decode cX7_stress 87 = .ok (.invokevirtual 112, 3) := by decide +kernel
theorem dX7_stress_90 : decode cX7_stress 90 = .ok (.i2l, 1) := by decide +kernel
theorem dX7_stress_91 : decode cX7_stress 91 = .ok (.ladd, 1) := by decide +kernel
theorem dX7_stress_92 : decode cX7_stress 92 = .ok (.lstore_n 2, 1) := by decide +kernel
theorem dX7_stress_93 : decode cX7_stress 93 = .ok (.iinc 5 1, 3) := by decide +kernel
theorem dX7_stress_96 : decode cX7_stress 96 = .ok (.goto (-54), 3) := by decide +kernel
theorem dX7_stress_99 : decode cX7_stress 99 = .ok (.iinc 4 1, 3) := by decide +kernel
theorem dX7_stress_102 : decode cX7_stress 102 = .ok (.goto (-75), 3) := by decide +kernel
theorem dX7_stress_105 : decode cX7_stress 105 = .ok (.lload_n 2, 1) := by decide +kernel
theorem dX7_stress_106 : decode cX7_stress 106 = .ok (.lreturn, 1) := by decide +kernel
theorem dX7_between_0 : decode cX7_between 0 = .ok (.aload_n 0, 1) := by decide +kernel
theorem dX7_between_1 : decode cX7_between 1 = .ok (.getfield 12, 3) := by decide +kernel
theorem dX7_between_4 : decode cX7_between 4 = .ok (.iload_n 1, 1) := by decide +kernel
theorem dX7_between_5 : decode cX7_between 5 = .ok (.invokevirtual 87, 3) := by decide +kernel
theorem dX7_between_8 : decode cX7_between 8 = .ok (.ifCond .eq 11, 3) := by decide +kernel
theorem dX7_between_11 : decode cX7_between 11 = .ok (.iload_n 2, 1) := by decide +kernel
theorem dX7_between_12 : decode cX7_between 12 = .ok (.iload_n 3, 1) := by decide +kernel
theorem dX7_between_13 : decode cX7_between 13 = .ok (.invokestatic 115, 3) := by decide +kernel
theorem dX7_between_16 : decode cX7_between 16 = .ok (.ifCond .ne 7, 3) := by decide +kernel
theorem dX7_between_19 : decode cX7_between 19 = .ok (.ldc2_w 103, 3) := by decide +kernel
theorem dX7_between_22 : decode cX7_between 22 = .ok (.lreturn, 1) := by decide +kernel
theorem dX7_between_23 : decode cX7_between 23 = .ok (.aload_n 0, 1) := by decide +kernel
theorem dX7_between_24 : decode cX7_between 24 = .ok (.iload_n 1, 1) := by decide +kernel
theorem dX7_between_25 : decode cX7_between 25 = .ok (.invokevirtual 118, 3) := by decide +kernel
theorem dX7_between_28 : decode cX7_between 28 = .ok (.aload_n 0, 1) := by decide +kernel
theorem dX7_between_29 : decode cX7_between 29 = .ok (.getfield 50, 3) := by decide +kernel
theorem dX7_between_32 : decode cX7_between 32 = .ok (.getfield 122, 3) := by decide +kernel
theorem dX7_between_35 : decode cX7_between 35 = .ok (.iload_n 1, 1) := by decide +kernel
theorem dX7_between_36 : decode cX7_between 36 = .ok (.aaload, 1) := by decide +kernel
theorem dX7_between_37 : decode cX7_between 37 = .ok (.iload_n 2, 1) := by decide +kernel
theorem dX7_between_38 : decode cX7_between 38 = .ok (.iload_n 3, 1) := by decide +kernel
theorem dX7_between_39 : decode cX7_between 39 = .ok (.invokevirtual 126, 3) := by decide +kernel
theorem dX7_between_42 : decode cX7_between 42 = .ok (.lreturn, 1) := by decide +kernel
theorem dX7_arcBetween_0 : decode cX7_arcBetween 0 = .ok (.aload_n 0, 1) := by decide +kernel
theorem dX7_arcBetween_1 : decode cX7_arcBetween 1 = .ok (.getfield 12, 3) := by decide +kernel
theorem dX7_arcBetween_4 : decode cX7_arcBetween 4 = .ok (.iload_n 1, 1) := by decide +kernel
theorem dX7_arcBetween_5 : decode cX7_arcBetween 5 = .ok (.invokevirtual 76, 3) := by decide +kernel
theorem dX7_arcBetween_8 : decode cX7_arcBetween 8 = .ok (.ifCond .eq 11, 3) := by decide +kernel
theorem dX7_arcBetween_11 : decode cX7_arcBetween 11 = .ok (.iload_n 2, 1) := by decide +kernel
theorem dX7_arcBetween_12 : decode cX7_arcBetween 12 = .ok (.iload_n 3, 1) := by decide +kernel
theorem dX7_arcBetween_13 : decode cX7_arcBetween 13 = .ok (.invokestatic 115, 3) := by decide +kernel
theorem dX7_arcBetween_16 : decode cX7_arcBetween 16 = .ok (.ifCond .ne 7, 3) := by decide +kernel
theorem dX7_arcBetween_19 : decode cX7_arcBetween 19 = .ok (.ldc2_w 103, 3) := by decide +kernel
theorem dX7_arcBetween_22 : decode cX7_arcBetween 22 = .ok (.lreturn, 1) := by decide +kernel
theorem dX7_arcBetween_23 : decode cX7_arcBetween 23 = .ok (.aload_n 0, 1) := by decide +kernel
theorem dX7_arcBetween_24 : decode cX7_arcBetween 24 = .ok (.sipush 1000, 3) := by decide +kernel
theorem dX7_arcBetween_27 : decode cX7_arcBetween 27 = .ok (.iload_n 1, 1) := by decide +kernel
theorem dX7_arcBetween_28 : decode cX7_arcBetween 28 = .ok (.iadd, 1) := by decide +kernel
theorem dX7_arcBetween_29 : decode cX7_arcBetween 29 = .ok (.invokevirtual 130, 3) := by decide +kernel
theorem dX7_arcBetween_32 : decode cX7_arcBetween 32 = .ok (.ifCond .eq 8, 3) := by decide +kernel
theorem dX7_arcBetween_35 : decode cX7_arcBetween 35 = .ok (.aload_n 0, 1) := by decide +kernel
theorem dX7_arcBetween_36 : decode cX7_arcBetween 36 = .ok (.iload_n 1, 1) := by decide +kernel
theorem dX7_arcBetween_37 : decode cX7_arcBetween 37 = .ok (.invokevirtual 133, 3) := by decide +kernel
theorem dX7_arcBetween_40 : decode cX7_arcBetween 40 = .ok (.aload_n 0, 1) := by decide +kernel
theorem dX7_arcBetween_41 : decode cX7_arcBetween 41 = .ok (.getfield 57, 3) := by decide +kernel
theorem dX7_arcBetween_44 : decode cX7_arcBetween 44 = .ok (.iload_n 2, 1) := by decide +kernel
theorem dX7_arcBetween_45 : decode cX7_arcBetween 45 = .ok (.iload_n 3, 1) := by decide +kernel
theorem dX7_arcBetween_46 : decode cX7_arcBetween 46 = .ok (.invokevirtual 126, 3) := by decide +kernel
theorem dX7_arcBetween_49 : decode cX7_arcBetween 49 = .ok (.lreturn, 1) := by decide +kernel
theorem dX7_group_0 : decode cX7_group 0 = .ok (.iload_n 1, 1) := by decide +kernel
theorem dX7_group_1 : decode cX7_group 1 = .ok (.iload_n 2, 1) := by decide +kernel
theorem dX7_group_2 : decode cX7_group 2 = .ok (.invokestatic 115, 3) := by decide +kernel
theorem dX7_group_5 : decode cX7_group 5 = .ok (.ifCond .ne 7, 3) := by decide +kernel
theorem dX7_group_8 : decode cX7_group 8 = .ok (.ldc2_w 103, 3) := by decide +kernel
theorem dX7_group_11 : decode cX7_group 11 = .ok (.lreturn, 1) := by decide +kernel
theorem dX7_group_12 : decode cX7_group 12 = .ok (.aload_n 0, 1) := by decide +kernel
theorem dX7_group_13 : decode cX7_group 13 = .ok (.sipush 2000, 3) := by decide +kernel
theorem dX7_group_16 : decode cX7_group 16 = .ok (.invokevirtual 130, 3) := by decide +kernel
theorem dX7_group_19 : decode cX7_group 19 = .ok (.ifCond .eq 7, 3) := by decide +kernel
theorem dX7_group_22 : decode cX7_group 22 = .ok (.aload_n 0, 1) := by decide +kernel
theorem dX7_group_23 : decode cX7_group 23 = .ok (.invokevirtual 136, 3) := by decide +kernel
theorem dX7_group_26 : decode cX7_group 26 = .ok (.aload_n 0, 1) := by decide +kernel
theorem dX7_group_27 : decode cX7_group 27 = .ok (.getfield 57, 3) := by decide +kernel
theorem dX7_group_30 : decode cX7_group 30 = .ok (.iload_n 1, 1) := by decide +kernel
theorem dX7_group_31 : decode cX7_group 31 = .ok (.iload_n 2, 1) := by decide +kernel
theorem dX7_group_32 : decode cX7_group 32 = .ok (.invokevirtual 126, 3) := by decide +kernel
theorem dX7_group_35 : decode cX7_group 35 = .ok (.lreturn, 1) := by decide +kernel
theorem dX7_harmonic_0 : decode cX7_harmonic 0 = .ok (.aload_n 0, 1) := by decide +kernel
theorem dX7_harmonic_1 : decode cX7_harmonic 1 = .ok (.getfield 12, 3) := by decide +kernel
theorem dX7_harmonic_4 : decode cX7_harmonic 4 = .ok (.iload_n 1, 1) := by decide +kernel
theorem dX7_harmonic_5 : decode cX7_harmonic 5 = .ok (.invokevirtual 87, 3) := by decide +kernel
theorem dX7_harmonic_8 : decode cX7_harmonic 8 = .ok (.ifCond .eq 11, 3) := by decide +kernel
theorem dX7_harmonic_11 : decode cX7_harmonic 11 = .ok (.iload_n 2, 1) := by decide +kernel
theorem dX7_harmonic_12 : decode cX7_harmonic 12 = .ok (.iload_n 3, 1) := by decide +kernel
theorem dX7_harmonic_13 : decode cX7_harmonic 13 = .ok (.invokestatic 115, 3) := by decide +kernel
theorem dX7_harmonic_16 : decode cX7_harmonic 16 = .ok (.ifCond .ne 7, 3) := by decide +kernel
theorem dX7_harmonic_19 : decode cX7_harmonic 19 = .ok (.ldc2_w 103, 3) := by decide +kernel
theorem dX7_harmonic_22 : decode cX7_harmonic 22 = .ok (.lreturn, 1) := by decide +kernel
theorem dX7_harmonic_23 : decode cX7_harmonic 23 = .ok (.aload_n 0, 1) := by decide +kernel
theorem dX7_harmonic_24 : decode cX7_harmonic 24 = .ok (.sipush 3000, 3) := by decide +kernel
theorem dX7_harmonic_27 : decode cX7_harmonic 27 = .ok (.iload_n 1, 1) := by decide +kernel
theorem dX7_harmonic_28 : decode cX7_harmonic 28 = .ok (.iadd, 1) := by decide +kernel
theorem dX7_harmonic_29 : decode cX7_harmonic 29 = .ok (.invokevirtual 130, 3) := by decide +kernel
theorem dX7_harmonic_32 : decode cX7_harmonic 32 = .ok (.ifCond .eq 8, 3) := by decide +kernel
theorem dX7_harmonic_35 : decode cX7_harmonic 35 = .ok (.aload_n 0, 1) := by decide +kernel
theorem dX7_harmonic_36 : decode cX7_harmonic 36 = .ok (.iload_n 1, 1) := by decide +kernel
theorem dX7_harmonic_37 : decode cX7_harmonic 37 = .ok (.invokevirtual 139, 3) := by decide +kernel
theorem dX7_harmonic_40 : decode cX7_harmonic 40 = .ok (.aload_n 0, 1) := by decide +kernel
theorem dX7_harmonic_41 : decode cX7_harmonic 41 = .ok (.getfield 57, 3) := by decide +kernel
theorem dX7_harmonic_44 : decode cX7_harmonic 44 = .ok (.iload_n 2, 1) := by decide +kernel
theorem dX7_harmonic_45 : decode cX7_harmonic 45 = .ok (.iload_n 3, 1) := by decide +kernel
theorem dX7_harmonic_46 : decode cX7_harmonic 46 = .ok (.invokevirtual 126, 3) := by decide +kernel
theorem dX7_harmonic_49 : decode cX7_harmonic 49 = .ok (.lreturn, 1) := by decide +kernel
theorem dX7_close_0 : decode cX7_close 0 = .ok (.aload_n 0, 1) := by decide +kernel
theorem dX7_close_1 : decode cX7_close 1 = .ok (.getfield 12, 3) := by decide +kernel
theorem dX7_close_4 : decode cX7_close 4 = .ok (.iload_n 1, 1) := by decide +kernel
theorem dX7_close_5 : decode cX7_close 5 = .ok (.invokevirtual 87, 3) := by decide +kernel
theorem dX7_close_8 : decode cX7_close 8 = .ok (.ifCond .eq 11, 3) := by decide +kernel
theorem dX7_close_11 : decode cX7_close 11 = .ok (.iload_n 2, 1) := by decide +kernel
theorem dX7_close_12 : decode cX7_close 12 = .ok (.iload_n 3, 1) := by decide +kernel
theorem dX7_close_13 : decode cX7_close 13 = .ok (.invokestatic 115, 3) := by decide +kernel
theorem dX7_close_16 : decode cX7_close 16 = .ok (.ifCond .ne 7, 3) := by decide +kernel
theorem dX7_close_19 : decode cX7_close 19 = .ok (.ldc2_w 103, 3) := by decide +kernel
theorem dX7_close_22 : decode cX7_close 22 = .ok (.lreturn, 1) := by decide +kernel
theorem dX7_close_23 : decode cX7_close 23 = .ok (.aload_n 0, 1) := by decide +kernel
theorem dX7_close_24 : decode cX7_close 24 = .ok (.sipush 4000, 3) := by decide +kernel
theorem dX7_close_27 : decode cX7_close 27 = .ok (.iload_n 1, 1) := by decide +kernel
theorem dX7_close_28 : decode cX7_close 28 = .ok (.iadd, 1) := by decide +kernel
theorem dX7_close_29 : decode cX7_close 29 = .ok (.invokevirtual 130, 3) := by decide +kernel
theorem dX7_close_32 : decode cX7_close 32 = .ok (.ifCond .eq 8, 3) := by decide +kernel
theorem dX7_close_35 : decode cX7_close 35 = .ok (.aload_n 0, 1) := by decide +kernel
theorem dX7_close_36 : decode cX7_close 36 = .ok (.iload_n 1, 1) := by decide +kernel
theorem dX7_close_37 : decode cX7_close 37 = .ok (.invokevirtual 142, 3) := by decide +kernel
theorem dX7_close_40 : decode cX7_close 40 = .ok (.aload_n 0, 1) := by decide +kernel
theorem dX7_close_41 : decode cX7_close 41 = .ok (.getfield 57, 3) := by decide +kernel
theorem dX7_close_44 : decode cX7_close 44 = .ok (.iload_n 2, 1) := by decide +kernel
theorem dX7_close_45 : decode cX7_close 45 = .ok (.iload_n 3, 1) := by decide +kernel
theorem dX7_close_46 : decode cX7_close 46 = .ok (.invokevirtual 126, 3) := by decide +kernel
theorem dX7_close_49 : decode cX7_close 49 = .ok (.lreturn, 1) := by decide +kernel
theorem dX7_top_0 : decode cX7_top 0 = .ok (.iload_n 1, 1) := by decide +kernel
theorem dX7_top_1 : decode cX7_top 1 = .ok (.ifCond .lt 14, 3) := by decide +kernel
theorem dX7_top_4 : decode cX7_top 4 = .ok (.iload_n 1, 1) := by decide +kernel
theorem dX7_top_5 : decode cX7_top 5 = .ok (.aload_n 0, 1) := by decide +kernel
theorem dX7_top_6 : decode cX7_top 6 = .ok (.getfield 12, 3) := by decide +kernel
theorem dX7_top_9 : decode cX7_top 9 = .ok (.getfield 105, 3) := by decide +kernel
theorem dX7_top_12 : decode cX7_top 12 = .ok (.if_icmp .lt 5, 3) := by decide +kernel
theorem dX7_top_15 : decode cX7_top 15 = .ok (.iconst (-1), 1) := by decide +kernel
theorem dX7_top_16 : decode cX7_top 16 = .ok (.ireturn, 1) := by decide +kernel
theorem dX7_top_17 : decode cX7_top 17 = .ok (.iconst 0, 1) := by decide +kernel
theorem dX7_top_18 : decode cX7_top 18 = .ok (.istore_n 2, 1) := by decide +kernel
theorem dX7_top_19 : decode cX7_top 19 = .ok (.iload_n 2, 1) := by decide +kernel
theorem dX7_top_20 : decode cX7_top 20 = .ok (.aload_n 0, 1) := by decide +kernel
theorem dX7_top_21 : decode cX7_top 21 = .ok (.getfield 12, 3) := by decide +kernel
theorem dX7_top_24 : decode cX7_top 24 = .ok (.getfield 105, 3) := by decide +kernel
theorem dX7_top_27 : decode cX7_top 27 = .ok (.if_icmp .ge 14, 3) := by decide +kernel
theorem dX7_top_30 : decode cX7_top 30 = .ok (.aload_n 0, 1) := by decide +kernel
theorem dX7_top_31 : decode cX7_top 31 = .ok (.iload_n 2, 1) := by decide +kernel
theorem dX7_top_32 : decode cX7_top 32 = .ok (.invokevirtual 118, 3) := by decide +kernel
theorem dX7_top_35 : decode cX7_top 35 = .ok (.iinc 2 1, 3) := by decide +kernel
theorem dX7_top_38 : decode cX7_top 38 = .ok (.goto (-19), 3) := by decide +kernel
theorem dX7_top_41 : decode cX7_top 41 = .ok (.aload_n 0, 1) := by decide +kernel
theorem dX7_top_42 : decode cX7_top 42 = .ok (.getfield 50, 3) := by decide +kernel
theorem dX7_top_45 : decode cX7_top 45 = .ok (.iload_n 1, 1) := by decide +kernel
theorem dX7_top_46 : decode cX7_top 46 = .ok (.aload_n 0, 1) := by decide +kernel
theorem dX7_top_47 : decode cX7_top 47 = .ok (.getfield 12, 3) := by decide +kernel
theorem dX7_top_50 : decode cX7_top 50 = .ok (.getfield 105, 3) := by decide +kernel
theorem dX7_top_53 : decode cX7_top 53 = .ok (.invokevirtual 145, 3) := by decide +kernel
theorem dX7_top_56 : decode cX7_top 56 = .ok (.ireturn, 1) := by decide +kernel
theorem dX7_resistance_0 : decode cX7_resistance 0 = .ok (.aload_n 0, 1) := by decide +kernel
theorem dX7_resistance_1 : decode cX7_resistance 1 = .ok (.getfield 12, 3) := by decide +kernel
theorem dX7_resistance_4 : decode cX7_resistance 4 = .ok (.iload_n 1, 1) := by decide +kernel
theorem dX7_resistance_5 : decode cX7_resistance 5 = .ok (.invokevirtual 87, 3) := by decide +kernel
theorem dX7_resistance_8 : decode cX7_resistance 8 = .ok (.ifCond .eq 23, 3) := by decide +kernel
theorem dX7_resistance_11 : decode cX7_resistance 11 = .ok (.aload_n 0, 1) := by decide +kernel
theorem dX7_resistance_12 : decode cX7_resistance 12 = .ok (.getfield 12, 3) := by decide +kernel
theorem dX7_resistance_15 : decode cX7_resistance 15 = .ok (.iload_n 2, 1) := by decide +kernel
theorem dX7_resistance_16 : decode cX7_resistance 16 = .ok (.invokevirtual 87, 3) := by decide +kernel
theorem dX7_resistance_19 : decode cX7_resistance 19 = .ok (.ifCond .eq 12, 3) := by decide +kernel
theorem dX7_resistance_22 : decode cX7_resistance 22 = .ok (.iload_n 3, 1) := by decide +kernel
theorem dX7_resistance_23 : decode cX7_resistance 23 = .ok (.iload 4, 2) := by decide +kernel
theorem dX7_resistance_25 : decode cX7_resistance 25 = .ok (.invokestatic 115, 3) := by decide +kernel
theorem dX7_resistance_28 : decode cX7_resistance 28 = .ok (.ifCond .ne 7, 3) := by decide +kernel
theorem dX7_resistance_31 : decode cX7_resistance 31 = .ok (.ldc2_w 103, 3) := by decide +kernel
theorem dX7_resistance_34 : decode cX7_resistance 34 = .ok (.lreturn, 1) := by decide +kernel
theorem dX7_resistance_35 : decode cX7_resistance 35 = .ok (.aload_n 0, 1) := by decide +kernel
theorem dX7_resistance_36 : decode cX7_resistance 36 = .ok (.getfield 43, 3) := by decide +kernel
theorem dX7_resistance_39 : decode cX7_resistance 39 = .ok (.invokevirtual 149, 3) := by decide +kernel
theorem dX7_resistance_42 : decode cX7_resistance 42 = .ok (.aload_n 0, 1) := by decide +kernel
theorem dX7_resistance_43 : decode cX7_resistance 43 = .ok (.getfield 43, 3) := by decide +kernel
theorem dX7_resistance_46 : decode cX7_resistance 46 = .ok (.getfield 150, 3) := by decide +kernel
theorem dX7_resistance_49 : decode cX7_resistance 49 = .ok (.iload_n 1, 1) := by decide +kernel
theorem dX7_resistance_50 : decode cX7_resistance 50 = .ok (.iaload, 1) := by decide +kernel
theorem dX7_resistance_51 : decode cX7_resistance 51 = .ok (.aload_n 0, 1) := by decide +kernel
theorem dX7_resistance_52 : decode cX7_resistance 52 = .ok (.getfield 43, 3) := by decide +kernel
theorem dX7_resistance_55 : decode cX7_resistance 55 = .ok (.getfield 150, 3) := by decide +kernel
theorem dX7_resistance_58 : decode cX7_resistance 58 = .ok (.iload_n 2, 1) := by decide +kernel
theorem dX7_resistance_59 : decode cX7_resistance 59 = .ok (.iaload, 1) := by decide +kernel
theorem dX7_resistance_60 : decode cX7_resistance 60 = .ok (.if_icmp .eq 7, 3) := by decide +kernel
theorem dX7_resistance_63 : decode cX7_resistance 63 = .ok (.ldc2_w 103, 3) := by decide +kernel
theorem dX7_resistance_66 : decode cX7_resistance 66 = .ok (.lreturn, 1) := by decide +kernel
theorem dX7_resistance_67 : decode cX7_resistance 67 = .ok (.aload_n 0, 1) := by decide +kernel
theorem dX7_resistance_68 : decode cX7_resistance 68 = .ok (.sipush 5000, 3) := by decide +kernel
theorem dX7_resistance_71 : decode cX7_resistance 71 = .ok (.iload_n 1, 1) := by decide +kernel
theorem dX7_resistance_72 : decode cX7_resistance 72 = .ok (.bipush 10, 2) := by decide +kernel
theorem dX7_resistance_74 : decode cX7_resistance 74 = .ok (.imul, 1) := by decide +kernel
theorem dX7_resistance_75 : decode cX7_resistance 75 = .ok (.iadd, 1) := by decide +kernel
theorem dX7_resistance_76 : decode cX7_resistance 76 = .ok (.iload_n 2, 1) := by decide +kernel
theorem dX7_resistance_77 : decode cX7_resistance 77 = .ok (.iadd, 1) := by decide +kernel
theorem dX7_resistance_78 : decode cX7_resistance 78 = .ok (.invokevirtual 130, 3) := by decide +kernel
theorem dX7_resistance_81 : decode cX7_resistance 81 = .ok (.ifCond .eq 32, 3) := by decide +kernel
theorem dX7_resistance_84 : decode cX7_resistance 84 = .ok (.aload_n 0, 1) := by decide +kernel
theorem dX7_resistance_85 : decode cX7_resistance 85 = .ok (.getfield 43, 3) := by decide +kernel
theorem dX7_resistance_88 : decode cX7_resistance 88 = .ok (.aload_n 0, 1) := by decide +kernel
theorem dX7_resistance_89 : decode cX7_resistance 89 = .ok (.getfield 43, 3) := by decide +kernel
theorem dX7_resistance_92 : decode cX7_resistance 92 = .ok (.getfield 150, 3) := by decide +kernel
theorem dX7_resistance_95 : decode cX7_resistance 95 = .ok (.iload_n 1, 1) := by decide +kernel
theorem dX7_resistance_96 : decode cX7_resistance 96 = .ok (.iaload, 1) := by decide +kernel
theorem dX7_resistance_97 : decode cX7_resistance 97 = .ok (.invokevirtual 153, 3) := by decide +kernel
theorem dX7_resistance_100 : decode cX7_resistance 100 = .ok (.aload_n 0, 1) := by decide +kernel
theorem dX7_resistance_101 : decode cX7_resistance 101 = .ok (.getfield 43, 3) := by decide +kernel
theorem dX7_resistance_104 : decode cX7_resistance 104 = .ok (.iload_n 1, 1) := by decide +kernel
theorem dX7_resistance_105 : decode cX7_resistance 105 = .ok (.iload_n 2, 1) := by decide +kernel
theorem dX7_resistance_106 : decode cX7_resistance 106 = .ok (.aload_n 0, 1) := by decide +kernel
theorem dX7_resistance_107 : decode cX7_resistance 107 = .ok (.getfield 57, 3) := by decide +kernel
theorem dX7_resistance_110 : decode cX7_resistance 110 = .ok (.invokevirtual 156, 3) := by decide +kernel
theorem dX7_resistance_113 : decode cX7_resistance 113 = .ok (.aload_n 0, 1) := by decide +kernel
theorem dX7_resistance_114 : decode cX7_resistance 114 = .ok (.getfield 57, 3) := by decide +kernel
theorem dX7_resistance_117 : decode cX7_resistance 117 = .ok (.iload_n 3, 1) := by decide +kernel
theorem dX7_resistance_118 : decode cX7_resistance 118 = .ok (.iload 4, 2) := by decide +kernel
theorem dX7_resistance_120 : decode cX7_resistance 120 = .ok (.invokevirtual 126, 3) := by decide +kernel
theorem dX7_resistance_123 : decode cX7_resistance 123 = .ok (.lreturn, 1) := by decide +kernel
theorem dX7_carried_0 : decode cX7_carried 0 = .ok (.aload_n 0, 1) := by decide +kernel
theorem dX7_carried_1 : decode cX7_carried 1 = .ok (.getfield 12, 3) := by decide +kernel
theorem dX7_carried_4 : decode cX7_carried 4 = .ok (.iload_n 1, 1) := by decide +kernel
theorem dX7_carried_5 : decode cX7_carried 5 = .ok (.invokevirtual 87, 3) := by decide +kernel
theorem dX7_carried_8 : decode cX7_carried 8 = .ok (.ifCond .eq 11, 3) := by decide +kernel
theorem dX7_carried_11 : decode cX7_carried 11 = .ok (.iload_n 2, 1) := by decide +kernel
theorem dX7_carried_12 : decode cX7_carried 12 = .ok (.iload_n 3, 1) := by decide +kernel
theorem dX7_carried_13 : decode cX7_carried 13 = .ok (.invokestatic 115, 3) := by decide +kernel
theorem dX7_carried_16 : decode cX7_carried 16 = .ok (.ifCond .ne 7, 3) := by decide +kernel
theorem dX7_carried_19 : decode cX7_carried 19 = .ok (.ldc2_w 103, 3) := by decide +kernel
theorem dX7_carried_22 : decode cX7_carried 22 = .ok (.lreturn, 1) := by decide +kernel
theorem dX7_carried_23 : decode cX7_carried 23 = .ok (.aload_n 0, 1) := by decide +kernel
theorem dX7_carried_24 : decode cX7_carried 24 = .ok (.getfield 43, 3) := by decide +kernel
theorem dX7_carried_27 : decode cX7_carried 27 = .ok (.invokevirtual 149, 3) := by decide +kernel
theorem dX7_carried_30 : decode cX7_carried 30 = .ok (.aload_n 0, 1) := by decide +kernel
theorem dX7_carried_31 : decode cX7_carried 31 = .ok (.sipush 6000, 3) := by decide +kernel
theorem dX7_carried_34 : decode cX7_carried 34 = .ok (.iload_n 1, 1) := by decide +kernel
theorem dX7_carried_35 : decode cX7_carried 35 = .ok (.iadd, 1) := by decide +kernel
theorem dX7_carried_36 : decode cX7_carried 36 = .ok (.invokevirtual 130, 3) := by decide +kernel
theorem dX7_carried_39 : decode cX7_carried 39 = .ok (.ifCond .eq 31, 3) := by decide +kernel
theorem dX7_carried_42 : decode cX7_carried 42 = .ok (.aload_n 0, 1) := by decide +kernel
theorem dX7_carried_43 : decode cX7_carried 43 = .ok (.getfield 43, 3) := by decide +kernel
theorem dX7_carried_46 : decode cX7_carried 46 = .ok (.aload_n 0, 1) := by decide +kernel
theorem dX7_carried_47 : decode cX7_carried 47 = .ok (.getfield 43, 3) := by decide +kernel
theorem dX7_carried_50 : decode cX7_carried 50 = .ok (.getfield 150, 3) := by decide +kernel
theorem dX7_carried_53 : decode cX7_carried 53 = .ok (.iload_n 1, 1) := by decide +kernel
theorem dX7_carried_54 : decode cX7_carried 54 = .ok (.iaload, 1) := by decide +kernel
theorem dX7_carried_55 : decode cX7_carried 55 = .ok (.invokevirtual 153, 3) := by decide +kernel
theorem dX7_carried_58 : decode cX7_carried 58 = .ok (.aload_n 0, 1) := by decide +kernel
theorem dX7_carried_59 : decode cX7_carried 59 = .ok (.getfield 43, 3) := by decide +kernel
theorem dX7_carried_62 : decode cX7_carried 62 = .ok (.iload_n 1, 1) := by decide +kernel
theorem dX7_carried_63 : decode cX7_carried 63 = .ok (.aload_n 0, 1) := by decide +kernel
theorem dX7_carried_64 : decode cX7_carried 64 = .ok (.getfield 57, 3) := by decide +kernel
theorem dX7_carried_67 : decode cX7_carried 67 = .ok (.invokevirtual 160, 3) := by decide +kernel
theorem dX7_carried_70 : decode cX7_carried 70 = .ok (.aload_n 0, 1) := by decide +kernel
theorem dX7_carried_71 : decode cX7_carried 71 = .ok (.getfield 57, 3) := by decide +kernel
theorem dX7_carried_74 : decode cX7_carried 74 = .ok (.iload_n 2, 1) := by decide +kernel
theorem dX7_carried_75 : decode cX7_carried 75 = .ok (.iload_n 3, 1) := by decide +kernel
theorem dX7_carried_76 : decode cX7_carried 76 = .ok (.invokevirtual 126, 3) := by decide +kernel
theorem dX7_carried_79 : decode cX7_carried 79 = .ok (.lreturn, 1) := by decide +kernel
theorem dX7_told_0 : decode cX7_told 0 = .ok (.iload_n 1, 1) := by decide +kernel
theorem dX7_told_1 : decode cX7_told 1 = .ok (.tableswitch 88 0 5 #[39, 47, 55, 63, 68, 73], 39) := by decide +kernel
theorem dX7_told_40 : decode cX7_told 40 = .ok (.aload_n 0, 1) := by decide +kernel
theorem dX7_told_41 : decode cX7_told 41 = .ok (.getfield 12, 3) := by decide +kernel
theorem dX7_told_44 : decode cX7_told 44 = .ok (.getfield 105, 3) := by decide +kernel
theorem dX7_told_47 : decode cX7_told 47 = .ok (.ireturn, 1) := by decide +kernel
theorem dX7_told_48 : decode cX7_told 48 = .ok (.aload_n 0, 1) := by decide +kernel
theorem dX7_told_49 : decode cX7_told 49 = .ok (.getfield 12, 3) := by decide +kernel
theorem dX7_told_52 : decode cX7_told 52 = .ok (.getfield 164, 3) := by decide +kernel
theorem dX7_told_55 : decode cX7_told 55 = .ok (.ireturn, 1) := by decide +kernel
theorem dX7_told_56 : decode cX7_told 56 = .ok (.aload_n 0, 1) := by decide +kernel
theorem dX7_told_57 : decode cX7_told 57 = .ok (.getfield 12, 3) := by decide +kernel
theorem dX7_told_60 : decode cX7_told 60 = .ok (.invokevirtual 167, 3) := by decide +kernel
theorem dX7_told_63 : decode cX7_told 63 = .ok (.ireturn, 1) := by decide +kernel
theorem dX7_told_64 : decode cX7_told 64 = .ok (.aload_n 0, 1) := by decide +kernel
theorem dX7_told_65 : decode cX7_told 65 = .ok (.invokevirtual 170, 3) := by decide +kernel
theorem dX7_told_68 : decode cX7_told 68 = .ok (.ireturn, 1) := by decide +kernel
theorem dX7_told_69 : decode cX7_told 69 = .ok (.aload_n 0, 1) := by decide +kernel
theorem dX7_told_70 : decode cX7_told 70 = .ok (.invokevirtual 173, 3) := by decide +kernel
theorem dX7_told_73 : decode cX7_told 73 = .ok (.ireturn, 1) := by decide +kernel
theorem dX7_told_74 : decode cX7_told 74 = .ok (.aload_n 0, 1) := by decide +kernel
theorem dX7_told_75 : decode cX7_told 75 = .ok (.getfield 43, 3) := by decide +kernel
theorem dX7_told_78 : decode cX7_told 78 = .ok (.invokevirtual 149, 3) := by decide +kernel
theorem dX7_told_81 : decode cX7_told 81 = .ok (.aload_n 0, 1) := by decide +kernel
theorem dX7_told_82 : decode cX7_told 82 = .ok (.getfield 43, 3) := by decide +kernel
theorem dX7_told_85 : decode cX7_told 85 = .ok (.invokevirtual 176, 3) := by decide +kernel
theorem dX7_told_88 : decode cX7_told 88 = .ok (.ireturn, 1) := by decide +kernel
theorem dX7_told_89 : decode cX7_told 89 = .ok (.iconst (-1), 1) := by decide +kernel
theorem dX7_told_90 : decode cX7_told 90 = .ok (.ireturn, 1) := by decide +kernel
theorem dX7_forgetNetwork_0 : decode cX7_forgetNetwork 0 = .ok (.aload_n 0, 1) := by decide +kernel
theorem dX7_forgetNetwork_1 : decode cX7_forgetNetwork 1 = .ok (.getfield 31, 3) := by decide +kernel
theorem dX7_forgetNetwork_4 : decode cX7_forgetNetwork 4 = .ok (.invokevirtual 179, 3) := by decide +kernel
theorem dX7_forgetNetwork_7 : decode cX7_forgetNetwork 7 = .ok (.aload_n 0, 1) := by decide +kernel
theorem dX7_forgetNetwork_8 : decode cX7_forgetNetwork 8 = .ok (.getfield 43, 3) := by decide +kernel
theorem dX7_forgetNetwork_11 : decode cX7_forgetNetwork 11 = .ok (.invokevirtual 182, 3) := by decide +kernel
theorem dX7_forgetNetwork_14 : decode cX7_forgetNetwork 14 = .ok (.aload_n 0, 1) := by decide +kernel
theorem dX7_forgetNetwork_15 : decode cX7_forgetNetwork 15 = .ok (.invokevirtual 90, 3) := by decide +kernel
theorem dX7_forgetNetwork_18 : decode cX7_forgetNetwork 18 = .ok (.return_, 1) := by decide +kernel
theorem dX7_forgetChoice_0 : decode cX7_forgetChoice 0 = .ok (.aload_n 0, 1) := by decide +kernel
theorem dX7_forgetChoice_1 : decode cX7_forgetChoice 1 = .ok (.getfield 35, 3) := by decide +kernel
theorem dX7_forgetChoice_4 : decode cX7_forgetChoice 4 = .ok (.invokevirtual 179, 3) := by decide +kernel
theorem dX7_forgetChoice_7 : decode cX7_forgetChoice 7 = .ok (.aload_n 0, 1) := by decide +kernel
theorem dX7_forgetChoice_8 : decode cX7_forgetChoice 8 = .ok (.getfield 50, 3) := by decide +kernel
theorem dX7_forgetChoice_11 : decode cX7_forgetChoice 11 = .ok (.invokevirtual 183, 3) := by decide +kernel
theorem dX7_forgetChoice_14 : decode cX7_forgetChoice 14 = .ok (.aload_n 0, 1) := by decide +kernel
theorem dX7_forgetChoice_15 : decode cX7_forgetChoice 15 = .ok (.iconst (-1), 1) := by decide +kernel
theorem dX7_forgetChoice_16 : decode cX7_forgetChoice 16 = .ok (.putfield 61, 3) := by decide +kernel
theorem dX7_forgetChoice_19 : decode cX7_forgetChoice 19 = .ok (.return_, 1) := by decide +kernel
theorem dX7_isPlace_0 : decode cX7_isPlace 0 = .ok (.iload_n 0, 1) := by decide +kernel
theorem dX7_isPlace_1 : decode cX7_isPlace 1 = .ok (.ifCond .eq 8, 3) := by decide +kernel
theorem dX7_isPlace_4 : decode cX7_isPlace 4 = .ok (.iload_n 0, 1) := by decide +kernel
theorem dX7_isPlace_5 : decode cX7_isPlace 5 = .ok (.iconst 1, 1) := by decide +kernel
theorem dX7_isPlace_6 : decode cX7_isPlace 6 = .ok (.if_icmp .ne 11, 3) := by decide +kernel
theorem dX7_isPlace_9 : decode cX7_isPlace 9 = .ok (.iload_n 1, 1) := by decide +kernel
theorem dX7_isPlace_10 : decode cX7_isPlace 10 = .ok (.ifCond .lt 7, 3) := by decide +kernel
theorem dX7_isPlace_13 : decode cX7_isPlace 13 = .ok (.iconst 1, 1) := by decide +kernel
theorem dX7_isPlace_14 : decode cX7_isPlace 14 = .ok (.goto 4, 3) := by decide +kernel
theorem dX7_isPlace_17 : decode cX7_isPlace 17 = .ok (.iconst 0, 1) := by decide +kernel
theorem dX7_isPlace_18 : decode cX7_isPlace 18 = .ok (.ireturn, 1) := by decide +kernel
theorem dX7_isNewQuestion_0 : decode cX7_isNewQuestion 0 = .ok (.iload_n 1, 1) := by decide +kernel
theorem dX7_isNewQuestion_1 : decode cX7_isNewQuestion 1 = .ok (.aload_n 0, 1) := by decide +kernel
theorem dX7_isNewQuestion_2 : decode cX7_isNewQuestion 2 = .ok (.getfield 61, 3) := by decide +kernel
theorem dX7_isNewQuestion_5 : decode cX7_isNewQuestion 5 = .ok (.if_icmp .ne 5, 3) := by decide +kernel
theorem dX7_isNewQuestion_8 : decode cX7_isNewQuestion 8 = .ok (.iconst 0, 1) := by decide +kernel
theorem dX7_isNewQuestion_9 : decode cX7_isNewQuestion 9 = .ok (.ireturn, 1) := by decide +kernel
theorem dX7_isNewQuestion_10 : decode cX7_isNewQuestion 10 = .ok (.aload_n 0, 1) := by decide +kernel
theorem dX7_isNewQuestion_11 : decode cX7_isNewQuestion 11 = .ok (.iload_n 1, 1) := by decide +kernel
theorem dX7_isNewQuestion_12 : decode cX7_isNewQuestion 12 = .ok (.putfield 61, 3) := by decide +kernel
theorem dX7_isNewQuestion_15 : decode cX7_isNewQuestion 15 = .ok (.aload_n 0, 1) := by decide +kernel
theorem dX7_isNewQuestion_16 : decode cX7_isNewQuestion 16 = .ok (.getfield 57, 3) := by decide +kernel
theorem dX7_isNewQuestion_19 : decode cX7_isNewQuestion 19 = .ok (.invokevirtual 184, 3) := by decide +kernel
theorem dX7_isNewQuestion_22 : decode cX7_isNewQuestion 22 = .ok (.iconst 1, 1) := by decide +kernel
theorem dX7_isNewQuestion_23 : decode cX7_isNewQuestion 23 = .ok (.ireturn, 1) := by decide +kernel
theorem dX7_isPair_0 : decode cX7_isPair 0 = .ok (.iload_n 1, 1) := by decide +kernel
theorem dX7_isPair_1 : decode cX7_isPair 1 = .ok (.iload_n 2, 1) := by decide +kernel
theorem dX7_isPair_2 : decode cX7_isPair 2 = .ok (.if_icmp .eq 40, 3) := by decide +kernel
theorem dX7_isPair_5 : decode cX7_isPair 5 = .ok (.aload_n 0, 1) := by decide +kernel
theorem dX7_isPair_6 : decode cX7_isPair 6 = .ok (.getfield 20, 3) := by decide +kernel
theorem dX7_isPair_9 : decode cX7_isPair 9 = .ok (.iload_n 1, 1) := by decide +kernel
theorem dX7_isPair_10 : decode cX7_isPair 10 = .ok (.baload, 1) := by decide +kernel
theorem dX7_isPair_11 : decode cX7_isPair 11 = .ok (.ifCond .eq 31, 3) := by decide +kernel
theorem dX7_isPair_14 : decode cX7_isPair 14 = .ok (.aload_n 0, 1) := by decide +kernel
theorem dX7_isPair_15 : decode cX7_isPair 15 = .ok (.getfield 23, 3) := by decide +kernel
theorem dX7_isPair_18 : decode cX7_isPair 18 = .ok (.iload_n 2, 1) := by decide +kernel
theorem dX7_isPair_19 : decode cX7_isPair 19 = .ok (.baload, 1) := by decide +kernel
theorem dX7_isPair_20 : decode cX7_isPair 20 = .ok (.ifCond .eq 22, 3) := by decide +kernel
theorem dX7_isPair_23 : decode cX7_isPair 23 = .ok (.aload_n 0, 1) := by decide +kernel
theorem dX7_isPair_24 : decode cX7_isPair 24 = .ok (.getfield 31, 3) := by decide +kernel
theorem dX7_isPair_27 : decode cX7_isPair 27 = .ok (.getfield 96, 3) := by decide +kernel
theorem dX7_isPair_30 : decode cX7_isPair 30 = .ok (.iload_n 1, 1) := by decide +kernel
theorem dX7_isPair_31 : decode cX7_isPair 31 = .ok (.aaload, 1) := by decide +kernel
theorem dX7_isPair_32 : decode cX7_isPair 32 = .ok (.iload_n 2, 1) := by decide +kernel
theorem dX7_isPair_33 : decode cX7_isPair 33 = .ok (.iaload, 1) := by decide +kernel
theorem dX7_isPair_34 : decode cX7_isPair 34 = .ok (.iconst (-1), 1) := by decide +kernel
theorem dX7_isPair_35 : decode cX7_isPair 35 = .ok (.if_icmp .eq 7, 3) := by decide +kernel
theorem dX7_isPair_38 : decode cX7_isPair 38 = .ok (.iconst 1, 1) := by decide +kernel
theorem dX7_isPair_39 : decode cX7_isPair 39 = .ok (.goto 4, 3) := by decide +kernel
theorem dX7_isPair_42 : decode cX7_isPair 42 = .ok (.iconst 0, 1) := by decide +kernel
theorem dX7_isPair_43 : decode cX7_isPair 43 = .ok (.ireturn, 1) := by decide +kernel
theorem dX7_countPairs_0 : decode cX7_countPairs 0 = .ok (.aload_n 0, 1) := by decide +kernel
theorem dX7_countPairs_1 : decode cX7_countPairs 1 = .ok (.getfield 31, 3) := by decide +kernel
theorem dX7_countPairs_4 : decode cX7_countPairs 4 = .ok (.invokevirtual 93, 3) := by decide +kernel
theorem dX7_countPairs_7 : decode cX7_countPairs 7 = .ok (.iconst 0, 1) := by decide +kernel
theorem dX7_countPairs_8 : decode cX7_countPairs 8 = .ok (.istore_n 1, 1) := by decide +kernel
theorem dX7_countPairs_9 : decode cX7_countPairs 9 = .ok (.iconst 0, 1) := by decide +kernel
theorem dX7_countPairs_10 : decode cX7_countPairs 10 = .ok (.istore_n 2, 1) := by decide +kernel
theorem dX7_countPairs_11 : decode cX7_countPairs 11 = .ok (.iload_n 2, 1) := by decide +kernel
theorem dX7_countPairs_12 : decode cX7_countPairs 12 = .ok (.aload_n 0, 1) := by decide +kernel
theorem dX7_countPairs_13 : decode cX7_countPairs 13 = .ok (.getfield 12, 3) := by decide +kernel
theorem dX7_countPairs_16 : decode cX7_countPairs 16 = .ok (.getfield 105, 3) := by decide +kernel
theorem dX7_countPairs_19 : decode cX7_countPairs 19 = .ok (.if_icmp .ge 40, 3) := by decide +kernel
theorem dX7_countPairs_22 : decode cX7_countPairs 22 = .ok (.iconst 0, 1) := by decide +kernel
theorem dX7_countPairs_23 : decode cX7_countPairs 23 = .ok (.istore_n 3, 1) := by decide +kernel
theorem dX7_countPairs_24 : decode cX7_countPairs 24 = .ok (.iload_n 3, 1) := by decide +kernel
theorem dX7_countPairs_25 : decode cX7_countPairs 25 = .ok (.aload_n 0, 1) := by decide +kernel
theorem dX7_countPairs_26 : decode cX7_countPairs 26 = .ok (.getfield 12, 3) := by decide +kernel
theorem dX7_countPairs_29 : decode cX7_countPairs 29 = .ok (.getfield 105, 3) := by decide +kernel
theorem dX7_countPairs_32 : decode cX7_countPairs 32 = .ok (.if_icmp .ge 21, 3) := by decide +kernel
theorem dX7_countPairs_35 : decode cX7_countPairs 35 = .ok (.aload_n 0, 1) := by decide +kernel
theorem dX7_countPairs_36 : decode cX7_countPairs 36 = .ok (.iload_n 2, 1) := by decide +kernel
theorem dX7_countPairs_37 : decode cX7_countPairs 37 = .ok (.iload_n 3, 1) := by decide +kernel
theorem dX7_countPairs_38 : decode cX7_countPairs 38 = .ok (.invokevirtual 108, 3) := by decide +kernel
theorem dX7_countPairs_41 : decode cX7_countPairs 41 = .ok (.ifCond .eq 6, 3) := by decide +kernel
theorem dX7_countPairs_44 : decode cX7_countPairs 44 = .ok (.iinc 1 1, 3) := by decide +kernel
theorem dX7_countPairs_47 : decode cX7_countPairs 47 = .ok (.iinc 3 1, 3) := by decide +kernel
theorem dX7_countPairs_50 : decode cX7_countPairs 50 = .ok (.goto (-26), 3) := by decide +kernel
theorem dX7_countPairs_53 : decode cX7_countPairs 53 = .ok (.iinc 2 1, 3) := by decide +kernel
theorem dX7_countPairs_56 : decode cX7_countPairs 56 = .ok (.goto (-45), 3) := by decide +kernel
theorem dX7_countPairs_59 : decode cX7_countPairs 59 = .ok (.iload_n 1, 1) := by decide +kernel
theorem dX7_countPairs_60 : decode cX7_countPairs 60 = .ok (.ireturn, 1) := by decide +kernel
theorem dX7_countGroup_0 : decode cX7_countGroup 0 = .ok (.iconst 0, 1) := by decide +kernel
theorem dX7_countGroup_1 : decode cX7_countGroup 1 = .ok (.istore_n 1, 1) := by decide +kernel
theorem dX7_countGroup_2 : decode cX7_countGroup 2 = .ok (.iconst 0, 1) := by decide +kernel
theorem dX7_countGroup_3 : decode cX7_countGroup 3 = .ok (.istore_n 2, 1) := by decide +kernel
theorem dX7_countGroup_4 : decode cX7_countGroup 4 = .ok (.iload_n 2, 1) := by decide +kernel
theorem dX7_countGroup_5 : decode cX7_countGroup 5 = .ok (.aload_n 0, 1) := by decide +kernel
theorem dX7_countGroup_6 : decode cX7_countGroup 6 = .ok (.getfield 12, 3) := by decide +kernel
theorem dX7_countGroup_9 : decode cX7_countGroup 9 = .ok (.getfield 105, 3) := by decide +kernel
theorem dX7_countGroup_12 : decode cX7_countGroup 12 = .ok (.if_icmp .ge 21, 3) := by decide +kernel
theorem dX7_countGroup_15 : decode cX7_countGroup 15 = .ok (.aload_n 0, 1) := by decide +kernel
theorem dX7_countGroup_16 : decode cX7_countGroup 16 = .ok (.getfield 16, 3) := by decide +kernel
theorem dX7_countGroup_19 : decode cX7_countGroup 19 = .ok (.iload_n 2, 1) := by decide +kernel
theorem dX7_countGroup_20 : decode cX7_countGroup 20 = .ok (.baload, 1) := by decide +kernel
theorem dX7_countGroup_21 : decode cX7_countGroup 21 = .ok (.ifCond .eq 6, 3) := by decide +kernel
theorem dX7_countGroup_24 : decode cX7_countGroup 24 = .ok (.iinc 1 1, 3) := by decide +kernel
theorem dX7_countGroup_27 : decode cX7_countGroup 27 = .ok (.iinc 2 1, 3) := by decide +kernel
theorem dX7_countGroup_30 : decode cX7_countGroup 30 = .ok (.goto (-26), 3) := by decide +kernel
theorem dX7_countGroup_33 : decode cX7_countGroup 33 = .ok (.iload_n 1, 1) := by decide +kernel
theorem dX7_countGroup_34 : decode cX7_countGroup 34 = .ok (.ireturn, 1) := by decide +kernel
theorem dX7_needBetween_0 : decode cX7_needBetween 0 = .ok (.aload_n 0, 1) := by decide +kernel
theorem dX7_needBetween_1 : decode cX7_needBetween 1 = .ok (.getfield 50, 3) := by decide +kernel
theorem dX7_needBetween_4 : decode cX7_needBetween 4 = .ok (.getfield 187, 3) := by decide +kernel
theorem dX7_needBetween_7 : decode cX7_needBetween 7 = .ok (.iload_n 1, 1) := by decide +kernel
theorem dX7_needBetween_8 : decode cX7_needBetween 8 = .ok (.baload, 1) := by decide +kernel
theorem dX7_needBetween_9 : decode cX7_needBetween 9 = .ok (.ifCond .eq 4, 3) := by decide +kernel
theorem dX7_needBetween_12 : decode cX7_needBetween 12 = .ok (.return_, 1) := by decide +kernel
theorem dX7_needBetween_13 : decode cX7_needBetween 13 = .ok (.aload_n 0, 1) := by decide +kernel
theorem dX7_needBetween_14 : decode cX7_needBetween 14 = .ok (.getfield 50, 3) := by decide +kernel
theorem dX7_needBetween_17 : decode cX7_needBetween 17 = .ok (.getfield 187, 3) := by decide +kernel
theorem dX7_needBetween_20 : decode cX7_needBetween 20 = .ok (.iload_n 1, 1) := by decide +kernel
theorem dX7_needBetween_21 : decode cX7_needBetween 21 = .ok (.iconst 1, 1) := by decide +kernel
theorem dX7_needBetween_22 : decode cX7_needBetween 22 = .ok (.bastore, 1) := by decide +kernel
theorem dX7_needBetween_23 : decode cX7_needBetween 23 = .ok (.aload_n 0, 1) := by decide +kernel
theorem dX7_needBetween_24 : decode cX7_needBetween 24 = .ok (.getfield 31, 3) := by decide +kernel
theorem dX7_needBetween_27 : decode cX7_needBetween 27 = .ok (.invokevirtual 93, 3) := by decide +kernel
theorem dX7_needBetween_30 : decode cX7_needBetween 30 = .ok (.aload_n 0, 1) := by decide +kernel
theorem dX7_needBetween_31 : decode cX7_needBetween 31 = .ok (.getfield 50, 3) := by decide +kernel
theorem dX7_needBetween_34 : decode cX7_needBetween 34 = .ok (.getfield 122, 3) := by decide +kernel
theorem dX7_needBetween_37 : decode cX7_needBetween 37 = .ok (.iload_n 1, 1) := by decide +kernel
theorem dX7_needBetween_38 : decode cX7_needBetween 38 = .ok (.aaload, 1) := by decide +kernel
theorem dX7_needBetween_39 : decode cX7_needBetween 39 = .ok (.astore_n 2, 1) := by decide +kernel
theorem dX7_needBetween_40 : decode cX7_needBetween 40 = .ok (.aload_n 2, 1) := by decide +kernel
theorem dX7_needBetween_41 : decode cX7_needBetween 41 = .ok (.invokevirtual 184, 3) := by decide +kernel
theorem dX7_needBetween_44 : decode cX7_needBetween 44 = .ok (.iconst 0, 1) := by decide +kernel
theorem dX7_needBetween_45 : decode cX7_needBetween 45 = .ok (.istore_n 3, 1) := by decide +kernel
theorem dX7_needBetween_46 : decode cX7_needBetween 46 = .ok (.iload_n 3, 1) := by decide +kernel
theorem dX7_needBetween_47 : decode cX7_needBetween 47 = .ok (.aload_n 0, 1) := by decide +kernel
theorem dX7_needBetween_48 : decode cX7_needBetween 48 = .ok (.getfield 12, 3) := by decide +kernel
theorem dX7_needBetween_51 : decode cX7_needBetween 51 = .ok (.getfield 105, 3) := by decide +kernel
theorem dX7_needBetween_54 : decode cX7_needBetween 54 = .ok (.if_icmp .ge 78, 3) := by decide +kernel
theorem dX7_needBetween_57 : decode cX7_needBetween 57 = .ok (.iconst 0, 1) := by decide +kernel
theorem dX7_needBetween_58 : decode cX7_needBetween 58 = .ok (.istore 4, 2) := by decide +kernel
theorem dX7_needBetween_60 : decode cX7_needBetween 60 = .ok (.iload 4, 2) := by decide +kernel
theorem dX7_needBetween_62 : decode cX7_needBetween 62 = .ok (.aload_n 0, 1) := by decide +kernel
theorem dX7_needBetween_63 : decode cX7_needBetween 63 = .ok (.getfield 12, 3) := by decide +kernel
theorem dX7_needBetween_66 : decode cX7_needBetween 66 = .ok (.getfield 105, 3) := by decide +kernel
theorem dX7_needBetween_69 : decode cX7_needBetween 69 = .ok (.if_icmp .ge 57, 3) := by decide +kernel
theorem dX7_needBetween_72 : decode cX7_needBetween 72 = .ok (.iload_n 3, 1) := by decide +kernel
theorem dX7_needBetween_73 : decode cX7_needBetween 73 = .ok (.iload_n 1, 1) := by decide +kernel
theorem dX7_needBetween_74 : decode cX7_needBetween 74 = .ok (.if_icmp .eq 46, 3) := by decide +kernel
theorem dX7_needBetween_77 : decode cX7_needBetween 77 = .ok (.iload 4, 2) := by decide +kernel
theorem dX7_needBetween_79 : decode cX7_needBetween 79 = .ok (.iload_n 1, 1) := by decide +kernel
theorem dX7_needBetween_80 : decode cX7_needBetween 80 = .ok (.if_icmp .eq 40, 3) := by decide +kernel
theorem dX7_needBetween_83 : decode cX7_needBetween 83 = .ok (.aload_n 0, 1) := by decide +kernel
theorem dX7_needBetween_84 : decode cX7_needBetween 84 = .ok (.iload_n 3, 1) := by decide +kernel
theorem dX7_needBetween_85 : decode cX7_needBetween 85 = .ok (.iload 4, 2) := by decide +kernel
theorem dX7_needBetween_87 : decode cX7_needBetween 87 = .ok (.invokevirtual 108, 3) := by decide +kernel
theorem dX7_needBetween_90 : decode cX7_needBetween 90 = .ok (.ifCond .eq 30, 3) := by decide +kernel
theorem dX7_needBetween_93 : decode cX7_needBetween 93 = .ok (.aload_n 2, 1) := by decide +kernel
theorem dX7_needBetween_94 : decode cX7_needBetween 94 = .ok (.aload_n 0, 1) := by decide +kernel
theorem dX7_needBetween_95 : decode cX7_needBetween 95 = .ok (.getfield 31, 3) := by decide +kernel
theorem dX7_needBetween_98 : decode cX7_needBetween 98 = .ok (.iload_n 3, 1) := by decide +kernel
theorem dX7_needBetween_99 : decode cX7_needBetween 99 = .ok (.iload_n 1, 1) := by decide +kernel
theorem dX7_needBetween_100 : decode cX7_needBetween 100 = .ok (.iload 4, 2) := by decide +kernel
theorem dX7_needBetween_102 : decode cX7_needBetween 102 = .ok (.invokevirtual 112, 3) := by decide +kernel
theorem dX7_needBetween_105 : decode cX7_needBetween 105 = .ok (.aload_n 0, 1) := by decide +kernel
theorem dX7_needBetween_106 : decode cX7_needBetween 106 = .ok (.getfield 31, 3) := by decide +kernel
theorem dX7_needBetween_109 : decode cX7_needBetween 109 = .ok (.getfield 100, 3) := by decide +kernel
theorem dX7_needBetween_112 : decode cX7_needBetween 112 = .ok (.iload_n 3, 1) := by decide +kernel
theorem dX7_needBetween_113 : decode cX7_needBetween 113 = .ok (.aaload, 1) := by decide +kernel
theorem dX7_needBetween_114 : decode cX7_needBetween 114 = .ok (.iload 4, 2) := by decide +kernel
theorem dX7_needBetween_116 : decode cX7_needBetween 116 = .ok (.iaload, 1) := by decide +kernel
theorem dX7_needBetween_117 : decode cX7_needBetween 117 = .ok (.invokevirtual 190, 3) := by decide +kernel
theorem dX7_needBetween_120 : decode cX7_needBetween 120 = .ok (.iinc 4 1, 3) := by decide +kernel
theorem dX7_needBetween_123 : decode cX7_needBetween 123 = .ok (.goto (-63), 3) := by decide +kernel
theorem dX7_needBetween_126 : decode cX7_needBetween 126 = .ok (.iinc 3 1, 3) := by decide +kernel
theorem dX7_needBetween_129 : decode cX7_needBetween 129 = .ok (.goto (-83), 3) := by decide +kernel
theorem dX7_needBetween_132 : decode cX7_needBetween 132 = .ok (.return_, 1) := by decide +kernel
theorem dX7_sumArc_0 : decode cX7_sumArc 0 = .ok (.aload_n 0, 1) := by decide +kernel
theorem dX7_sumArc_1 : decode cX7_sumArc 1 = .ok (.getfield 31, 3) := by decide +kernel
theorem dX7_sumArc_4 : decode cX7_sumArc 4 = .ok (.invokevirtual 93, 3) := by decide +kernel
theorem dX7_sumArc_7 : decode cX7_sumArc 7 = .ok (.iconst 0, 1) := by decide +kernel
theorem dX7_sumArc_8 : decode cX7_sumArc 8 = .ok (.istore_n 2, 1) := by decide +kernel
theorem dX7_sumArc_9 : decode cX7_sumArc 9 = .ok (.iload_n 2, 1) := by decide +kernel
theorem dX7_sumArc_10 : decode cX7_sumArc 10 = .ok (.aload_n 0, 1) := by decide +kernel
theorem dX7_sumArc_11 : decode cX7_sumArc 11 = .ok (.getfield 12, 3) := by decide +kernel
theorem dX7_sumArc_14 : decode cX7_sumArc 14 = .ok (.getfield 105, 3) := by decide +kernel
theorem dX7_sumArc_17 : decode cX7_sumArc 17 = .ok (.if_icmp .ge 65, 3) := by decide +kernel
theorem dX7_sumArc_20 : decode cX7_sumArc 20 = .ok (.iconst 0, 1) := by decide +kernel
theorem dX7_sumArc_21 : decode cX7_sumArc 21 = .ok (.istore_n 3, 1) := by decide +kernel
theorem dX7_sumArc_22 : decode cX7_sumArc 22 = .ok (.iload_n 3, 1) := by decide +kernel
theorem dX7_sumArc_23 : decode cX7_sumArc 23 = .ok (.aload_n 0, 1) := by decide +kernel
theorem dX7_sumArc_24 : decode cX7_sumArc 24 = .ok (.getfield 12, 3) := by decide +kernel
theorem dX7_sumArc_27 : decode cX7_sumArc 27 = .ok (.getfield 105, 3) := by decide +kernel
theorem dX7_sumArc_30 : decode cX7_sumArc 30 = .ok (.if_icmp .ge 46, 3) := by decide +kernel
theorem dX7_sumArc_33 : decode cX7_sumArc 33 = .ok (.aload_n 0, 1) := by decide +kernel
theorem dX7_sumArc_34 : decode cX7_sumArc 34 = .ok (.iload_n 2, 1) := by decide +kernel
theorem dX7_sumArc_35 : decode cX7_sumArc 35 = .ok (.iload_n 3, 1) := by decide +kernel
theorem dX7_sumArc_36 : decode cX7_sumArc 36 = .ok (.invokevirtual 108, 3) := by decide +kernel
theorem dX7_sumArc_39 : decode cX7_sumArc 39 = .ok (.ifCond .eq 31, 3) := by decide +kernel
theorem dX7_sumArc_42 : decode cX7_sumArc 42 = .ok (.aload_n 0, 1) := by decide +kernel
theorem dX7_sumArc_43 : decode cX7_sumArc 43 = .ok (.getfield 57, 3) := by decide +kernel
theorem dX7_sumArc_46 : decode cX7_sumArc 46 = .ok (.aload_n 0, 1) := by decide +kernel
theorem dX7_sumArc_47 : decode cX7_sumArc 47 = .ok (.getfield 31, 3) := by decide +kernel
theorem dX7_sumArc_50 : decode cX7_sumArc 50 = .ok (.iload_n 2, 1) := by decide +kernel
theorem dX7_sumArc_51 : decode cX7_sumArc 51 = .ok (.iload_n 1, 1) := by decide +kernel
theorem dX7_sumArc_52 : decode cX7_sumArc 52 = .ok (.iload_n 3, 1) := by decide +kernel
theorem dX7_sumArc_53 : decode cX7_sumArc 53 = .ok (.invokevirtual 194, 3) := by decide +kernel
theorem dX7_sumArc_56 : decode cX7_sumArc 56 = .ok (.aload_n 0, 1) := by decide +kernel
theorem dX7_sumArc_57 : decode cX7_sumArc 57 = .ok (.getfield 31, 3) := by decide +kernel
theorem dX7_sumArc_60 : decode cX7_sumArc 60 = .ok (.getfield 100, 3) := by decide +kernel
theorem dX7_sumArc_63 : decode cX7_sumArc 63 = .ok (.iload_n 2, 1) := by decide +kernel
theorem dX7_sumArc_64 : decode cX7_sumArc 64 = .ok (.aaload, 1) := by decide +kernel
theorem dX7_sumArc_65 : decode cX7_sumArc 65 = .ok (.iload_n 3, 1) := by decide +kernel
theorem dX7_sumArc_66 : decode cX7_sumArc 66 = .ok (.iaload, 1) := by decide +kernel
theorem dX7_sumArc_67 : decode cX7_sumArc 67 = .ok (.invokevirtual 190, 3) := by decide +kernel
theorem dX7_sumArc_70 : decode cX7_sumArc 70 = .ok (.iinc 3 1, 3) := by decide +kernel
theorem dX7_sumArc_73 : decode cX7_sumArc 73 = .ok (.goto (-51), 3) := by decide +kernel
theorem dX7_sumArc_76 : decode cX7_sumArc 76 = .ok (.iinc 2 1, 3) := by decide +kernel
theorem dX7_sumArc_79 : decode cX7_sumArc 79 = .ok (.goto (-70), 3) := by decide +kernel
theorem dX7_sumArc_82 : decode cX7_sumArc 82 = .ok (.return_, 1) := by decide +kernel
theorem dX7_sumGroup_0 : decode cX7_sumGroup 0 = .ok (.aload_n 0, 1) := by decide +kernel
theorem dX7_sumGroup_1 : decode cX7_sumGroup 1 = .ok (.getfield 31, 3) := by decide +kernel
theorem dX7_sumGroup_4 : decode cX7_sumGroup 4 = .ok (.invokevirtual 93, 3) := by decide +kernel
theorem dX7_sumGroup_7 : decode cX7_sumGroup 7 = .ok (.aload_n 0, 1) := by decide +kernel
theorem dX7_sumGroup_8 : decode cX7_sumGroup 8 = .ok (.getfield 35, 3) := by decide +kernel
theorem dX7_sumGroup_11 : decode cX7_sumGroup 11 = .ok (.invokevirtual 93, 3) := by decide +kernel
theorem dX7_sumGroup_14 : decode cX7_sumGroup 14 = .ok (.iconst 0, 1) := by decide +kernel
theorem dX7_sumGroup_15 : decode cX7_sumGroup 15 = .ok (.istore_n 1, 1) := by decide +kernel
theorem dX7_sumGroup_16 : decode cX7_sumGroup 16 = .ok (.iload_n 1, 1) := by decide +kernel
theorem dX7_sumGroup_17 : decode cX7_sumGroup 17 = .ok (.aload_n 0, 1) := by decide +kernel
theorem dX7_sumGroup_18 : decode cX7_sumGroup 18 = .ok (.getfield 12, 3) := by decide +kernel
theorem dX7_sumGroup_21 : decode cX7_sumGroup 21 = .ok (.getfield 105, 3) := by decide +kernel
theorem dX7_sumGroup_24 : decode cX7_sumGroup 24 = .ok (.if_icmp .ge 91, 3) := by decide +kernel
theorem dX7_sumGroup_27 : decode cX7_sumGroup 27 = .ok (.iconst 0, 1) := by decide +kernel
theorem dX7_sumGroup_28 : decode cX7_sumGroup 28 = .ok (.istore_n 2, 1) := by decide +kernel
theorem dX7_sumGroup_29 : decode cX7_sumGroup 29 = .ok (.iload_n 2, 1) := by decide +kernel
theorem dX7_sumGroup_30 : decode cX7_sumGroup 30 = .ok (.aload_n 0, 1) := by decide +kernel
theorem dX7_sumGroup_31 : decode cX7_sumGroup 31 = .ok (.getfield 12, 3) := by decide +kernel
theorem dX7_sumGroup_34 : decode cX7_sumGroup 34 = .ok (.getfield 105, 3) := by decide +kernel
theorem dX7_sumGroup_37 : decode cX7_sumGroup 37 = .ok (.if_icmp .ge 72, 3) := by decide +kernel
theorem dX7_sumGroup_40 : decode cX7_sumGroup 40 = .ok (.aload_n 0, 1) := by decide +kernel
theorem dX7_sumGroup_41 : decode cX7_sumGroup 41 = .ok (.getfield 16, 3) := by decide +kernel
theorem dX7_sumGroup_44 : decode cX7_sumGroup 44 = .ok (.iload_n 1, 1) := by decide +kernel
theorem dX7_sumGroup_45 : decode cX7_sumGroup 45 = .ok (.baload, 1) := by decide +kernel
theorem dX7_sumGroup_46 : decode cX7_sumGroup 46 = .ok (.ifCond .ne 57, 3) := by decide +kernel
theorem dX7_sumGroup_49 : decode cX7_sumGroup 49 = .ok (.aload_n 0, 1) := by decide +kernel
theorem dX7_sumGroup_50 : decode cX7_sumGroup 50 = .ok (.getfield 16, 3) := by decide +kernel
theorem dX7_sumGroup_53 : decode cX7_sumGroup 53 = .ok (.iload_n 2, 1) := by decide +kernel
theorem dX7_sumGroup_54 : decode cX7_sumGroup 54 = .ok (.baload, 1) := by decide +kernel
theorem dX7_sumGroup_55 : decode cX7_sumGroup 55 = .ok (.ifCond .ne 48, 3) := by decide +kernel
theorem dX7_sumGroup_58 : decode cX7_sumGroup 58 = .ok (.aload_n 0, 1) := by decide +kernel
theorem dX7_sumGroup_59 : decode cX7_sumGroup 59 = .ok (.iload_n 1, 1) := by decide +kernel
theorem dX7_sumGroup_60 : decode cX7_sumGroup 60 = .ok (.iload_n 2, 1) := by decide +kernel
theorem dX7_sumGroup_61 : decode cX7_sumGroup 61 = .ok (.invokevirtual 108, 3) := by decide +kernel
theorem dX7_sumGroup_64 : decode cX7_sumGroup 64 = .ok (.ifCond .eq 39, 3) := by decide +kernel
theorem dX7_sumGroup_67 : decode cX7_sumGroup 67 = .ok (.aload_n 0, 1) := by decide +kernel
theorem dX7_sumGroup_68 : decode cX7_sumGroup 68 = .ok (.getfield 57, 3) := by decide +kernel
theorem dX7_sumGroup_71 : decode cX7_sumGroup 71 = .ok (.aload_n 0, 1) := by decide +kernel
theorem dX7_sumGroup_72 : decode cX7_sumGroup 72 = .ok (.getfield 31, 3) := by decide +kernel
theorem dX7_sumGroup_75 : decode cX7_sumGroup 75 = .ok (.getfield 100, 3) := by decide +kernel
theorem dX7_sumGroup_78 : decode cX7_sumGroup 78 = .ok (.iload_n 1, 1) := by decide +kernel
theorem dX7_sumGroup_79 : decode cX7_sumGroup 79 = .ok (.aaload, 1) := by decide +kernel
theorem dX7_sumGroup_80 : decode cX7_sumGroup 80 = .ok (.iload_n 2, 1) := by decide +kernel
theorem dX7_sumGroup_81 : decode cX7_sumGroup 81 = .ok (.iaload, 1) := by decide +kernel
theorem dX7_sumGroup_82 : decode cX7_sumGroup 82 = .ok (.aload_n 0, 1) := by decide +kernel
theorem dX7_sumGroup_83 : decode cX7_sumGroup 83 = .ok (.iload_n 1, 1) := by decide +kernel
theorem dX7_sumGroup_84 : decode cX7_sumGroup 84 = .ok (.iload_n 2, 1) := by decide +kernel
theorem dX7_sumGroup_85 : decode cX7_sumGroup 85 = .ok (.invokevirtual 197, 3) := by decide +kernel
theorem dX7_sumGroup_88 : decode cX7_sumGroup 88 = .ok (.isub, 1) := by decide +kernel
theorem dX7_sumGroup_89 : decode cX7_sumGroup 89 = .ok (.aload_n 0, 1) := by decide +kernel
theorem dX7_sumGroup_90 : decode cX7_sumGroup 90 = .ok (.getfield 31, 3) := by decide +kernel
theorem dX7_sumGroup_93 : decode cX7_sumGroup 93 = .ok (.getfield 100, 3) := by decide +kernel
theorem dX7_sumGroup_96 : decode cX7_sumGroup 96 = .ok (.iload_n 1, 1) := by decide +kernel
theorem dX7_sumGroup_97 : decode cX7_sumGroup 97 = .ok (.aaload, 1) := by decide +kernel
theorem dX7_sumGroup_98 : decode cX7_sumGroup 98 = .ok (.iload_n 2, 1) := by decide +kernel
theorem dX7_sumGroup_99 : decode cX7_sumGroup 99 = .ok (.iaload, 1) := by decide +kernel
theorem dX7_sumGroup_100 : decode cX7_sumGroup 100 = .ok (.invokevirtual 190, 3) := by decide +kernel
theorem dX7_sumGroup_103 : decode cX7_sumGroup 103 = .ok (.iinc 2 1, 3) := by decide +kernel
theorem dX7_sumGroup_106 : decode cX7_sumGroup 106 = .ok (.goto (-77), 3) := by decide +kernel
theorem dX7_sumGroup_109 : decode cX7_sumGroup 109 = .ok (.iinc 1 1, 3) := by decide +kernel
theorem dX7_sumGroup_112 : decode cX7_sumGroup 112 = .ok (.goto (-96), 3) := by decide +kernel
theorem dX7_sumGroup_115 : decode cX7_sumGroup 115 = .ok (.return_, 1) := by decide +kernel
theorem dX7_countAround_0 : decode cX7_countAround 0 = .ok (.aload_n 0, 1) := by decide +kernel
theorem dX7_countAround_1 : decode cX7_countAround 1 = .ok (.getfield 35, 3) := by decide +kernel
theorem dX7_countAround_4 : decode cX7_countAround 4 = .ok (.getfield 96, 3) := by decide +kernel
theorem dX7_countAround_7 : decode cX7_countAround 7 = .ok (.iload_n 1, 1) := by decide +kernel
theorem dX7_countAround_8 : decode cX7_countAround 8 = .ok (.aaload, 1) := by decide +kernel
theorem dX7_countAround_9 : decode cX7_countAround 9 = .ok (.iload_n 2, 1) := by decide +kernel
theorem dX7_countAround_10 : decode cX7_countAround 10 = .ok (.iaload, 1) := by decide +kernel
theorem dX7_countAround_11 : decode cX7_countAround 11 = .ok (.aload_n 0, 1) := by decide +kernel
theorem dX7_countAround_12 : decode cX7_countAround 12 = .ok (.getfield 31, 3) := by decide +kernel
theorem dX7_countAround_15 : decode cX7_countAround 15 = .ok (.getfield 96, 3) := by decide +kernel
theorem dX7_countAround_18 : decode cX7_countAround 18 = .ok (.iload_n 1, 1) := by decide +kernel
theorem dX7_countAround_19 : decode cX7_countAround 19 = .ok (.aaload, 1) := by decide +kernel
theorem dX7_countAround_20 : decode cX7_countAround 20 = .ok (.iload_n 2, 1) := by decide +kernel
theorem dX7_countAround_21 : decode cX7_countAround 21 = .ok (.iaload, 1) := by decide +kernel
theorem dX7_countAround_22 : decode cX7_countAround 22 = .ok (.if_icmp .ne 17, 3) := by decide +kernel
theorem dX7_countAround_25 : decode cX7_countAround 25 = .ok (.aload_n 0, 1) := by decide +kernel
theorem dX7_countAround_26 : decode cX7_countAround 26 = .ok (.getfield 35, 3) := by decide +kernel
theorem dX7_countAround_29 : decode cX7_countAround 29 = .ok (.getfield 100, 3) := by decide +kernel
theorem dX7_countAround_32 : decode cX7_countAround 32 = .ok (.iload_n 1, 1) := by decide +kernel
theorem dX7_countAround_33 : decode cX7_countAround 33 = .ok (.aaload, 1) := by decide +kernel
theorem dX7_countAround_34 : decode cX7_countAround 34 = .ok (.iload_n 2, 1) := by decide +kernel
theorem dX7_countAround_35 : decode cX7_countAround 35 = .ok (.iaload, 1) := by decide +kernel
theorem dX7_countAround_36 : decode cX7_countAround 36 = .ok (.goto 4, 3) := by decide +kernel
theorem dX7_countAround_39 : decode cX7_countAround 39 = .ok (.iconst 0, 1) := by decide +kernel
theorem dX7_countAround_40 : decode cX7_countAround 40 = .ok (.ireturn, 1) := by decide +kernel
theorem dX7_sumHarmonic_0 : decode cX7_sumHarmonic 0 = .ok (.aload_n 0, 1) := by decide +kernel
theorem dX7_sumHarmonic_1 : decode cX7_sumHarmonic 1 = .ok (.getfield 31, 3) := by decide +kernel
theorem dX7_sumHarmonic_4 : decode cX7_sumHarmonic 4 = .ok (.invokevirtual 93, 3) := by decide +kernel
theorem dX7_sumHarmonic_7 : decode cX7_sumHarmonic 7 = .ok (.iconst 0, 1) := by decide +kernel
theorem dX7_sumHarmonic_8 : decode cX7_sumHarmonic 8 = .ok (.istore_n 2, 1) := by decide +kernel
theorem dX7_sumHarmonic_9 : decode cX7_sumHarmonic 9 = .ok (.iload_n 2, 1) := by decide +kernel
theorem dX7_sumHarmonic_10 : decode cX7_sumHarmonic 10 = .ok (.aload_n 0, 1) := by decide +kernel
theorem dX7_sumHarmonic_11 : decode cX7_sumHarmonic 11 = .ok (.getfield 12, 3) := by decide +kernel
theorem dX7_sumHarmonic_14 : decode cX7_sumHarmonic 14 = .ok (.getfield 105, 3) := by decide +kernel
theorem dX7_sumHarmonic_17 : decode cX7_sumHarmonic 17 = .ok (.if_icmp .ge 57, 3) := by decide +kernel
theorem dX7_sumHarmonic_20 : decode cX7_sumHarmonic 20 = .ok (.iload_n 2, 1) := by decide +kernel
theorem dX7_sumHarmonic_21 : decode cX7_sumHarmonic 21 = .ok (.iload_n 1, 1) := by decide +kernel
theorem dX7_sumHarmonic_22 : decode cX7_sumHarmonic 22 = .ok (.if_icmp .eq 46, 3) := by decide +kernel
theorem dX7_sumHarmonic_25 : decode cX7_sumHarmonic 25 = .ok (.aload_n 0, 1) := by decide +kernel
theorem dX7_sumHarmonic_26 : decode cX7_sumHarmonic 26 = .ok (.getfield 23, 3) := by decide +kernel
theorem dX7_sumHarmonic_29 : decode cX7_sumHarmonic 29 = .ok (.iload_n 2, 1) := by decide +kernel
theorem dX7_sumHarmonic_30 : decode cX7_sumHarmonic 30 = .ok (.baload, 1) := by decide +kernel
theorem dX7_sumHarmonic_31 : decode cX7_sumHarmonic 31 = .ok (.ifCond .eq 37, 3) := by decide +kernel
theorem dX7_sumHarmonic_34 : decode cX7_sumHarmonic 34 = .ok (.aload_n 0, 1) := by decide +kernel
theorem dX7_sumHarmonic_35 : decode cX7_sumHarmonic 35 = .ok (.getfield 31, 3) := by decide +kernel
theorem dX7_sumHarmonic_38 : decode cX7_sumHarmonic 38 = .ok (.getfield 96, 3) := by decide +kernel
theorem dX7_sumHarmonic_41 : decode cX7_sumHarmonic 41 = .ok (.iload_n 1, 1) := by decide +kernel
theorem dX7_sumHarmonic_42 : decode cX7_sumHarmonic 42 = .ok (.aaload, 1) := by decide +kernel
theorem dX7_sumHarmonic_43 : decode cX7_sumHarmonic 43 = .ok (.iload_n 2, 1) := by decide +kernel
theorem dX7_sumHarmonic_44 : decode cX7_sumHarmonic 44 = .ok (.iaload, 1) := by decide +kernel
theorem dX7_sumHarmonic_45 : decode cX7_sumHarmonic 45 = .ok (.iconst (-1), 1) := by decide +kernel
theorem dX7_sumHarmonic_46 : decode cX7_sumHarmonic 46 = .ok (.if_icmp .eq 22, 3) := by decide +kernel
theorem dX7_sumHarmonic_49 : decode cX7_sumHarmonic 49 = .ok (.aload_n 0, 1) := by decide +kernel
theorem dX7_sumHarmonic_50 : decode cX7_sumHarmonic 50 = .ok (.getfield 57, 3) := by decide +kernel
theorem dX7_sumHarmonic_53 : decode cX7_sumHarmonic 53 = .ok (.iconst 1, 1) := by decide +kernel
theorem dX7_sumHarmonic_54 : decode cX7_sumHarmonic 54 = .ok (.aload_n 0, 1) := by decide +kernel
theorem dX7_sumHarmonic_55 : decode cX7_sumHarmonic 55 = .ok (.getfield 31, 3) := by decide +kernel
theorem dX7_sumHarmonic_58 : decode cX7_sumHarmonic 58 = .ok (.getfield 96, 3) := by decide +kernel
theorem dX7_sumHarmonic_61 : decode cX7_sumHarmonic 61 = .ok (.iload_n 1, 1) := by decide +kernel
theorem dX7_sumHarmonic_62 : decode cX7_sumHarmonic 62 = .ok (.aaload, 1) := by decide +kernel
theorem dX7_sumHarmonic_63 : decode cX7_sumHarmonic 63 = .ok (.iload_n 2, 1) := by decide +kernel
theorem dX7_sumHarmonic_64 : decode cX7_sumHarmonic 64 = .ok (.iaload, 1) := by decide +kernel
theorem dX7_sumHarmonic_65 : decode cX7_sumHarmonic 65 = .ok (.invokevirtual 190, 3) := by decide +kernel
theorem dX7_sumHarmonic_68 : decode cX7_sumHarmonic 68 = .ok (.iinc 2 1, 3) := by decide +kernel
theorem dX7_sumHarmonic_71 : decode cX7_sumHarmonic 71 = .ok (.goto (-62), 3) := by decide +kernel
theorem dX7_sumHarmonic_74 : decode cX7_sumHarmonic 74 = .ok (.return_, 1) := by decide +kernel
theorem dX7_sumClose_0 : decode cX7_sumClose 0 = .ok (.aload_n 0, 1) := by decide +kernel
theorem dX7_sumClose_1 : decode cX7_sumClose 1 = .ok (.getfield 31, 3) := by decide +kernel
theorem dX7_sumClose_4 : decode cX7_sumClose 4 = .ok (.invokevirtual 93, 3) := by decide +kernel
theorem dX7_sumClose_7 : decode cX7_sumClose 7 = .ok (.iconst 0, 1) := by decide +kernel
theorem dX7_sumClose_8 : decode cX7_sumClose 8 = .ok (.istore_n 2, 1) := by decide +kernel
theorem dX7_sumClose_9 : decode cX7_sumClose 9 = .ok (.iconst 0, 1) := by decide +kernel
theorem dX7_sumClose_10 : decode cX7_sumClose 10 = .ok (.istore_n 3, 1) := by decide +kernel
theorem dX7_sumClose_11 : decode cX7_sumClose 11 = .ok (.iconst 0, 1) := by decide +kernel
theorem dX7_sumClose_12 : decode cX7_sumClose 12 = .ok (.istore 4, 2) := by decide +kernel
theorem dX7_sumClose_14 : decode cX7_sumClose 14 = .ok (.iload 4, 2) := by decide +kernel
theorem dX7_sumClose_16 : decode cX7_sumClose 16 = .ok (.aload_n 0, 1) := by decide +kernel
theorem dX7_sumClose_17 : decode cX7_sumClose 17 = .ok (.getfield 12, 3) := by decide +kernel
theorem dX7_sumClose_20 : decode cX7_sumClose 20 = .ok (.getfield 105, 3) := by decide +kernel
theorem dX7_sumClose_23 : decode cX7_sumClose 23 = .ok (.if_icmp .ge 59, 3) := by decide +kernel
theorem dX7_sumClose_26 : decode cX7_sumClose 26 = .ok (.iload 4, 2) := by decide +kernel
theorem dX7_sumClose_28 : decode cX7_sumClose 28 = .ok (.iload_n 1, 1) := by decide +kernel
theorem dX7_sumClose_29 : decode cX7_sumClose 29 = .ok (.if_icmp .eq 47, 3) := by decide +kernel
theorem dX7_sumClose_32 : decode cX7_sumClose 32 = .ok (.aload_n 0, 1) := by decide +kernel
theorem dX7_sumClose_33 : decode cX7_sumClose 33 = .ok (.getfield 23, 3) := by decide +kernel
theorem dX7_sumClose_36 : decode cX7_sumClose 36 = .ok (.iload 4, 2) := by decide +kernel
theorem dX7_sumClose_38 : decode cX7_sumClose 38 = .ok (.baload, 1) := by decide +kernel
theorem dX7_sumClose_39 : decode cX7_sumClose 39 = .ok (.ifCond .eq 37, 3) := by decide +kernel
theorem dX7_sumClose_42 : decode cX7_sumClose 42 = .ok (.aload_n 0, 1) := by decide +kernel
theorem dX7_sumClose_43 : decode cX7_sumClose 43 = .ok (.getfield 31, 3) := by decide +kernel
theorem dX7_sumClose_46 : decode cX7_sumClose 46 = .ok (.getfield 96, 3) := by decide +kernel
theorem dX7_sumClose_49 : decode cX7_sumClose 49 = .ok (.iload_n 1, 1) := by decide +kernel
theorem dX7_sumClose_50 : decode cX7_sumClose 50 = .ok (.aaload, 1) := by decide +kernel
theorem dX7_sumClose_51 : decode cX7_sumClose 51 = .ok (.iload 4, 2) := by decide +kernel
theorem dX7_sumClose_53 : decode cX7_sumClose 53 = .ok (.iaload, 1) := by decide +kernel
theorem dX7_sumClose_54 : decode cX7_sumClose 54 = .ok (.iconst (-1), 1) := by decide +kernel
theorem dX7_sumClose_55 : decode cX7_sumClose 55 = .ok (.if_icmp .eq 21, 3) := by decide +kernel
theorem dX7_sumClose_58 : decode cX7_sumClose 58 = .ok (.iinc 2 1, 3) := by decide +kernel
theorem dX7_sumClose_61 : decode cX7_sumClose 61 = .ok (.iload_n 3, 1) := by decide +kernel
theorem dX7_sumClose_62 : decode cX7_sumClose 62 = .ok (.aload_n 0, 1) := by decide +kernel
theorem dX7_sumClose_63 : decode cX7_sumClose 63 = .ok (.getfield 31, 3) := by decide +kernel
theorem dX7_sumClose_66 : decode cX7_sumClose 66 = .ok (.getfield 96, 3) := by decide +kernel
theorem dX7_sumClose_69 : decode cX7_sumClose 69 = .ok (.iload_n 1, 1) := by decide +kernel
theorem dX7_sumClose_70 : decode cX7_sumClose 70 = .ok (.aaload, 1) := by decide +kernel
theorem dX7_sumClose_71 : decode cX7_sumClose 71 = .ok (.iload 4, 2) := by decide +kernel
theorem dX7_sumClose_73 : decode cX7_sumClose 73 = .ok (.iaload, 1) := by decide +kernel
theorem dX7_sumClose_74 : decode cX7_sumClose 74 = .ok (.iadd, 1) := by decide +kernel
theorem dX7_sumClose_75 : decode cX7_sumClose 75 = .ok (.istore_n 3, 1) := by decide +kernel
theorem dX7_sumClose_76 : decode cX7_sumClose 76 = .ok (.iinc 4 1, 3) := by decide +kernel
theorem dX7_sumClose_79 : decode cX7_sumClose 79 = .ok (.goto (-65), 3) := by decide +kernel
theorem dX7_sumClose_82 : decode cX7_sumClose 82 = .ok (.aload_n 0, 1) := by decide +kernel
theorem dX7_sumClose_83 : decode cX7_sumClose 83 = .ok (.getfield 57, 3) := by decide +kernel
theorem dX7_sumClose_86 : decode cX7_sumClose 86 = .ok (.iload_n 2, 1) := by decide +kernel
theorem dX7_sumClose_87 : decode cX7_sumClose 87 = .ok (.iload_n 3, 1) := by decide +kernel
theorem dX7_sumClose_88 : decode cX7_sumClose 88 = .ok (.invokevirtual 190, 3) := by decide +kernel
theorem dX7_sumClose_91 : decode cX7_sumClose 91 = .ok (.return_, 1) := by decide +kernel
theorem dX8_init_0 : decode cX8_init 0 = .ok (.aload_n 0, 1) := by decide +kernel
theorem dX8_init_1 : decode cX8_init 1 = .ok (.invokespecial 1, 3) := by decide +kernel
theorem dX8_init_4 : decode cX8_init 4 = .ok (.aload_n 0, 1) := by decide +kernel
theorem dX8_init_5 : decode cX8_init 5 = .ok (.bipush 30, 2) := by decide +kernel
theorem dX8_init_7 : decode cX8_init 7 = .ok (.newarray .int, 2) := by decide +kernel
theorem dX8_init_9 : decode cX8_init 9 = .ok (.putfield 7, 3) := by decide +kernel
theorem dX8_init_12 : decode cX8_init 12 = .ok (.aload_n 0, 1) := by decide +kernel
theorem dX8_init_13 : decode cX8_init 13 = .ok (.bipush 30, 2) := by decide +kernel
theorem dX8_init_15 : decode cX8_init 15 = .ok (.newarray .int, 2) := by decide +kernel
theorem dX8_init_17 : decode cX8_init 17 = .ok (.putfield 13, 3) := by decide +kernel
theorem dX8_init_20 : decode cX8_init 20 = .ok (.aload_n 0, 1) := by decide +kernel
theorem dX8_init_21 : decode cX8_init 21 = .ok (.bipush 30, 2) := by decide +kernel
theorem dX8_init_23 : decode cX8_init 23 = .ok (.newarray .int, 2) := by decide +kernel
theorem dX8_init_25 : decode cX8_init 25 = .ok (.putfield 16, 3) := by decide +kernel
theorem dX8_init_28 : decode cX8_init 28 = .ok (.aload_n 0, 1) := by decide +kernel
theorem dX8_init_29 : decode cX8_init 29 = .ok (.bipush 30, 2) := by decide +kernel
theorem dX8_init_31 : decode cX8_init 31 = .ok (.newarray .boolean, 2) := by decide +kernel
theorem dX8_init_33 : decode cX8_init 33 = .ok (.putfield 19, 3) := by decide +kernel
theorem dX8_init_36 : decode cX8_init 36 = .ok (.aload_n 0, 1) := by decide +kernel
theorem dX8_init_37 : decode cX8_init 37 = .ok (.bipush 100, 2) := by decide +kernel
theorem dX8_init_39 : decode cX8_init 39 = .ok (.newarray .int, 2) := by decide +kernel
theorem dX8_init_41 : decode cX8_init 41 = .ok (.putfield 23, 3) := by decide +kernel
theorem dX8_init_44 : decode cX8_init 44 = .ok (.aload_n 0, 1) := by decide +kernel
theorem dX8_init_45 : decode cX8_init 45 = .ok (.bipush 100, 2) := by decide +kernel
theorem dX8_init_47 : decode cX8_init 47 = .ok (.newarray .long, 2) := by decide +kernel
theorem dX8_init_49 : decode cX8_init 49 = .ok (.putfield 26, 3) := by decide +kernel
theorem dX8_init_52 : decode cX8_init 52 = .ok (.aload_n 0, 1) := by decide +kernel
theorem dX8_init_53 : decode cX8_init 53 = .ok (.bipush 100, 2) := by decide +kernel
theorem dX8_init_55 : decode cX8_init 55 = .ok (.newarray .long, 2) := by decide +kernel
theorem dX8_init_57 : decode cX8_init 57 = .ok (.putfield 30, 3) := by decide +kernel
theorem dX8_init_60 : decode cX8_init 60 = .ok (.aload_n 0, 1) := by decide +kernel
theorem dX8_init_61 : decode cX8_init 61 = .ok (.bipush 64, 2) := by decide +kernel
theorem dX8_init_63 : decode cX8_init 63 = .ok (.putfield 33, 3) := by decide +kernel
theorem dX8_init_66 : decode cX8_init 66 = .ok (.aload_n 0, 1) := by decide +kernel
theorem dX8_init_67 : decode cX8_init 67 = .ok (.bipush 64, 2) := by decide +kernel
theorem dX8_init_69 : decode cX8_init 69 = .ok (.newarray .long, 2) := by decide +kernel
theorem dX8_init_71 : decode cX8_init 71 = .ok (.putfield 37, 3) := by decide +kernel
theorem dX8_init_74 : decode cX8_init 74 = .ok (.aload_n 0, 1) := by decide +kernel
theorem dX8_init_75 : decode cX8_init 75 = .ok (.bipush 64, 2) := by decide +kernel
theorem dX8_init_77 : decode cX8_init 77 = .ok (.newarray .long, 2) := by decide +kernel
theorem dX8_init_79 : decode cX8_init 79 = .ok (.putfield 40, 3) := by decide +kernel
theorem dX8_init_82 : decode cX8_init 82 = .ok (.aload_n 0, 1) := by decide +kernel
theorem dX8_init_83 : decode cX8_init 83 = .ok (.bipush 64, 2) := by decide +kernel
theorem dX8_init_85 : decode cX8_init 85 = .ok (.newarray .long, 2) := by decide +kernel
theorem dX8_init_87 : decode cX8_init 87 = .ok (.putfield 43, 3) := by decide +kernel
theorem dX8_init_90 : decode cX8_init 90 = .ok (.aload_n 0, 1) := by decide +kernel
theorem dX8_init_91 : decode cX8_init 91 = .ok (.bipush 64, 2) := by decide +kernel
theorem dX8_init_93 : decode cX8_init 93 = .ok (.newarray .long, 2) := by decide +kernel
theorem dX8_init_95 : decode cX8_init 95 = .ok (.putfield 46, 3) := by decide +kernel
theorem dX8_init_98 : decode cX8_init 98 = .ok (.aload_n 0, 1) := by decide +kernel
theorem dX8_init_99 : decode cX8_init 99 = .ok (.bipush 64, 2) := by decide +kernel
theorem dX8_init_101 : decode cX8_init 101 = .ok (.newarray .long, 2) := by decide +kernel
theorem dX8_init_103 : decode cX8_init 103 = .ok (.putfield 49, 3) := by decide +kernel
theorem dX8_init_106 : decode cX8_init 106 = .ok (.aload_n 0, 1) := by decide +kernel
theorem dX8_init_107 : decode cX8_init 107 = .ok (.bipush 64, 2) := by decide +kernel
theorem dX8_init_109 : decode cX8_init 109 = .ok (.newarray .long, 2) := by decide +kernel
theorem dX8_init_111 : decode cX8_init 111 = .ok (.putfield 52, 3) := by decide +kernel
theorem dX8_init_114 : decode cX8_init 114 = .ok (.aload_n 0, 1) := by decide +kernel
theorem dX8_init_115 : decode cX8_init 115 = .ok (.sipush 640, 3) := by decide +kernel
theorem dX8_init_118 : decode cX8_init 118 = .ok (.newarray .long, 2) := by decide +kernel
theorem dX8_init_120 : decode cX8_init 120 = .ok (.putfield 55, 3) := by decide +kernel
theorem dX8_init_123 : decode cX8_init 123 = .ok (.aload_n 0, 1) := by decide +kernel
theorem dX8_init_124 : decode cX8_init 124 = .ok (.sipush 640, 3) := by decide +kernel
theorem dX8_init_127 : decode cX8_init 127 = .ok (.newarray .long, 2) := by decide +kernel
theorem dX8_init_129 : decode cX8_init 129 = .ok (.putfield 58, 3) := by decide +kernel
theorem dX8_init_132 : decode cX8_init 132 = .ok (.aload_n 0, 1) := by decide +kernel
theorem dX8_init_133 : decode cX8_init 133 = .ok (.sipush 128, 3) := by decide +kernel
theorem dX8_init_136 : decode cX8_init 136 = .ok (.newarray .long, 2) := by decide +kernel
theorem dX8_init_138 : decode cX8_init 138 = .ok (.putfield 61, 3) := by decide +kernel
theorem dX8_init_141 : decode cX8_init 141 = .ok (.aload_n 0, 1) := by decide +kernel
theorem dX8_init_142 : decode cX8_init 142 = .ok (.sipush 128, 3) := by decide +kernel
theorem dX8_init_145 : decode cX8_init 145 = .ok (.newarray .long, 2) := by decide +kernel
theorem dX8_init_147 : decode cX8_init 147 = .ok (.putfield 64, 3) := by decide +kernel
theorem dX8_init_150 : decode cX8_init 150 = .ok (.aload_n 0, 1) := by decide +kernel
theorem dX8_init_151 : decode cX8_init 151 = .ok (.bipush 8, 2) := by decide +kernel
theorem dX8_init_153 : decode cX8_init 153 = .ok (.newarray .long, 2) := by decide +kernel
theorem dX8_init_155 : decode cX8_init 155 = .ok (.dup, 1) := by decide +kernel
theorem dX8_init_156 : decode cX8_init 156 = .ok (.iconst 0, 1) := by decide +kernel
theorem dX8_init_157 : decode cX8_init 157 = .ok (.ldc2_w 67, 3) := by decide +kernel
theorem dX8_init_160 : decode cX8_init 160 = .ok (.lastore, 1) := by decide +kernel
theorem dX8_init_161 : decode cX8_init 161 = .ok (.dup, 1) := by decide +kernel
theorem dX8_init_162 : decode cX8_init 162 = .ok (.iconst 1, 1) := by decide +kernel
theorem dX8_init_163 : decode cX8_init 163 = .ok (.ldc2_w 69, 3) := by decide +kernel
theorem dX8_init_166 : decode cX8_init 166 = .ok (.lastore, 1) := by decide +kernel
theorem dX8_init_167 : decode cX8_init 167 = .ok (.dup, 1) := by decide +kernel
theorem dX8_init_168 : decode cX8_init 168 = .ok (.iconst 2, 1) := by decide +kernel
theorem dX8_init_169 : decode cX8_init 169 = .ok (.ldc2_w 71, 3) := by decide +kernel
theorem dX8_init_172 : decode cX8_init 172 = .ok (.lastore, 1) := by decide +kernel
theorem dX8_init_173 : decode cX8_init 173 = .ok (.dup, 1) := by decide +kernel
theorem dX8_init_174 : decode cX8_init 174 = .ok (.iconst 3, 1) := by decide +kernel
theorem dX8_init_175 : decode cX8_init 175 = .ok (.ldc2_w 73, 3) := by decide +kernel
theorem dX8_init_178 : decode cX8_init 178 = .ok (.lastore, 1) := by decide +kernel
theorem dX8_init_179 : decode cX8_init 179 = .ok (.dup, 1) := by decide +kernel
theorem dX8_init_180 : decode cX8_init 180 = .ok (.iconst 4, 1) := by decide +kernel
theorem dX8_init_181 : decode cX8_init 181 = .ok (.ldc2_w 75, 3) := by decide +kernel
theorem dX8_init_184 : decode cX8_init 184 = .ok (.lastore, 1) := by decide +kernel
theorem dX8_init_185 : decode cX8_init 185 = .ok (.dup, 1) := by decide +kernel
theorem dX8_init_186 : decode cX8_init 186 = .ok (.iconst 5, 1) := by decide +kernel
theorem dX8_init_187 : decode cX8_init 187 = .ok (.ldc2_w 77, 3) := by decide +kernel
theorem dX8_init_190 : decode cX8_init 190 = .ok (.lastore, 1) := by decide +kernel
theorem dX8_init_191 : decode cX8_init 191 = .ok (.dup, 1) := by decide +kernel
theorem dX8_init_192 : decode cX8_init 192 = .ok (.bipush 6, 2) := by decide +kernel
theorem dX8_init_194 : decode cX8_init 194 = .ok (.ldc2_w 79, 3) := by decide +kernel
theorem dX8_init_197 : decode cX8_init 197 = .ok (.lastore, 1) := by decide +kernel
theorem dX8_init_198 : decode cX8_init 198 = .ok (.dup, 1) := by decide +kernel
theorem dX8_init_199 : decode cX8_init 199 = .ok (.bipush 7, 2) := by decide +kernel
theorem dX8_init_201 : decode cX8_init 201 = .ok (.ldc2_w 81, 3) := by decide +kernel
theorem dX8_init_204 : decode cX8_init 204 = .ok (.lastore, 1) := by decide +kernel
theorem dX8_init_205 : decode cX8_init 205 = .ok (.putfield 83, 3) := by decide +kernel
theorem dX8_init_208 : decode cX8_init 208 = .ok (.aload_n 0, 1) := by decide +kernel
theorem dX8_init_209 : decode cX8_init 209 = .ok (.bipush 10, 2) := by decide +kernel
theorem dX8_init_211 : decode cX8_init 211 = .ok (.newarray .int, 2) := by decide +kernel
theorem dX8_init_213 : decode cX8_init 213 = .ok (.putfield 86, 3) := by decide +kernel
theorem dX8_init_216 : decode cX8_init 216 = .ok (.aload_n 0, 1) := by decide +kernel
theorem dX8_init_217 : decode cX8_init 217 = .ok (.bipush 10, 2) := by decide +kernel
theorem dX8_init_219 : decode cX8_init 219 = .ok (.newarray .int, 2) := by decide +kernel
theorem dX8_init_221 : decode cX8_init 221 = .ok (.putfield 89, 3) := by decide +kernel
theorem dX8_init_224 : decode cX8_init 224 = .ok (.aload_n 0, 1) := by decide +kernel
theorem dX8_init_225 : decode cX8_init 225 = .ok (.bipush 10, 2) := by decide +kernel
theorem dX8_init_227 : decode cX8_init 227 = .ok (.newarray .boolean, 2) := by decide +kernel
theorem dX8_init_229 : decode cX8_init 229 = .ok (.putfield 92, 3) := by decide +kernel
theorem dX8_init_232 : decode cX8_init 232 = .ok (.aload_n 0, 1) := by decide +kernel
theorem dX8_init_233 : decode cX8_init 233 = .ok (.sipush 200, 3) := by decide +kernel
theorem dX8_init_236 : decode cX8_init 236 = .ok (.newarray .long, 2) := by decide +kernel
theorem dX8_init_238 : decode cX8_init 238 = .ok (.putfield 95, 3) := by decide +kernel
theorem dX8_init_241 : decode cX8_init 241 = .ok (.aload_n 0, 1) := by decide +kernel
theorem dX8_init_242 : decode cX8_init 242 = .ok (.iconst 5, 1) := by decide +kernel
theorem dX8_init_243 : decode cX8_init 243 = .ok (.newarray .long, 2) := by decide +kernel
theorem dX8_init_245 : decode cX8_init 245 = .ok (.putfield 98, 3) := by decide +kernel
theorem dX8_init_248 : decode cX8_init 248 = .ok (.aload_n 0, 1) := by decide +kernel
theorem dX8_init_249 : decode cX8_init 249 = .ok (.iconst 5, 1) := by decide +kernel
theorem dX8_init_250 : decode cX8_init 250 = .ok (.newarray .long, 2) := by decide +kernel
theorem dX8_init_252 : decode cX8_init 252 = .ok (.putfield 101, 3) := by decide +kernel
theorem dX8_init_255 : decode cX8_init 255 = .ok (.aload_n 0, 1) := by decide +kernel
theorem dX8_init_256 : decode cX8_init 256 = .ok (.sipush 500, 3) := by decide +kernel
theorem dX8_init_259 : decode cX8_init 259 = .ok (.newarray .long, 2) := by decide +kernel
theorem dX8_init_261 : decode cX8_init 261 = .ok (.putfield 104, 3) := by decide +kernel
theorem dX8_init_264 : decode cX8_init 264 = .ok (.aload_n 0, 1) := by decide +kernel
theorem dX8_init_265 : decode cX8_init 265 = .ok (.iconst 5, 1) := by decide +kernel
theorem dX8_init_266 : decode cX8_init 266 = .ok (.newarray .long, 2) := by decide +kernel
theorem dX8_init_268 : decode cX8_init 268 = .ok (.putfield 107, 3) := by decide +kernel
theorem dX8_init_271 : decode cX8_init 271 = .ok (.return_, 1) := by decide +kernel
theorem dX8_isNode_0 : decode cX8_isNode 0 = .ok (.iload_n 1, 1) := by decide +kernel
theorem dX8_isNode_1 : decode cX8_isNode 1 = .ok (.ifCond .lt 15, 3) := by decide +kernel
theorem dX8_isNode_4 : decode cX8_isNode 4 = .ok (.iload_n 1, 1) := by decide +kernel
theorem dX8_isNode_5 : decode cX8_isNode 5 = .ok (.aload_n 0, 1) := by decide +kernel
theorem dX8_isNode_6 : decode cX8_isNode 6 = .ok (.getfield 110, 3) := by decide +kernel
theorem dX8_isNode_9 : decode cX8_isNode 9 = .ok (.if_icmp .ge 7, 3) := by decide +kernel
theorem dX8_isNode_12 : decode cX8_isNode 12 = .ok (.iconst 1, 1) := by decide +kernel
theorem dX8_isNode_13 : decode cX8_isNode 13 = .ok (.goto 4, 3) := by decide +kernel
theorem dX8_isNode_16 : decode cX8_isNode 16 = .ok (.iconst 0, 1) := by decide +kernel
theorem dX8_isNode_17 : decode cX8_isNode 17 = .ok (.ireturn, 1) := by decide +kernel
theorem dX8_isArc_0 : decode cX8_isArc 0 = .ok (.iload_n 1, 1) := by decide +kernel
theorem dX8_isArc_1 : decode cX8_isArc 1 = .ok (.ifCond .lt 15, 3) := by decide +kernel
theorem dX8_isArc_4 : decode cX8_isArc 4 = .ok (.iload_n 1, 1) := by decide +kernel
theorem dX8_isArc_5 : decode cX8_isArc 5 = .ok (.aload_n 0, 1) := by decide +kernel
theorem dX8_isArc_6 : decode cX8_isArc 6 = .ok (.getfield 113, 3) := by decide +kernel
theorem dX8_isArc_9 : decode cX8_isArc 9 = .ok (.if_icmp .ge 7, 3) := by decide +kernel
theorem dX8_isArc_12 : decode cX8_isArc 12 = .ok (.iconst 1, 1) := by decide +kernel
theorem dX8_isArc_13 : decode cX8_isArc 13 = .ok (.goto 4, 3) := by decide +kernel
theorem dX8_isArc_16 : decode cX8_isArc 16 = .ok (.iconst 0, 1) := by decide +kernel
theorem dX8_isArc_17 : decode cX8_isArc 17 = .ok (.ireturn, 1) := by decide +kernel
theorem dX8_isChosen_0 : decode cX8_isChosen 0 = .ok (.aload_n 0, 1) := by decide +kernel
theorem dX8_isChosen_1 : decode cX8_isChosen 1 = .ok (.getfield 19, 3) := by decide +kernel
theorem dX8_isChosen_4 : decode cX8_isChosen 4 = .ok (.iconst 3, 1) := by decide +kernel
theorem dX8_isChosen_5 : decode cX8_isChosen 5 = .ok (.iload_n 1, 1) := by decide +kernel
theorem dX8_isChosen_6 : decode cX8_isChosen 6 = .ok (.imul, 1) := by decide +kernel
theorem dX8_isChosen_7 : decode cX8_isChosen 7 = .ok (.iload_n 2, 1) := by decide +kernel
theorem dX8_isChosen_8 : decode cX8_isChosen 8 = .ok (.iadd, 1) := by decide +kernel
theorem dX8_isChosen_9 : decode cX8_isChosen 9 = .ok (.baload, 1) := by decide +kernel
theorem dX8_isChosen_10 : decode cX8_isChosen 10 = .ok (.iload_n 2, 1) := by decide +kernel
theorem dX8_isChosen_11 : decode cX8_isChosen 11 = .ok (.ifCond .le 7, 3) := by decide +kernel
theorem dX8_isChosen_14 : decode cX8_isChosen 14 = .ok (.iconst 1, 1) := by decide +kernel
theorem dX8_isChosen_15 : decode cX8_isChosen 15 = .ok (.goto 4, 3) := by decide +kernel
theorem dX8_isChosen_18 : decode cX8_isChosen 18 = .ok (.iconst 0, 1) := by decide +kernel
theorem dX8_isChosen_19 : decode cX8_isChosen 19 = .ok (.if_icmp .eq 7, 3) := by decide +kernel
theorem dX8_isChosen_22 : decode cX8_isChosen 22 = .ok (.iconst 1, 1) := by decide +kernel
theorem dX8_isChosen_23 : decode cX8_isChosen 23 = .ok (.goto 4, 3) := by decide +kernel
theorem dX8_isChosen_26 : decode cX8_isChosen 26 = .ok (.iconst 0, 1) := by decide +kernel
theorem dX8_isChosen_27 : decode cX8_isChosen 27 = .ok (.ireturn, 1) := by decide +kernel
theorem dX8_node_0 : decode cX8_node 0 = .ok (.aload_n 0, 1) := by decide +kernel
theorem dX8_node_1 : decode cX8_node 1 = .ok (.getfield 110, 3) := by decide +kernel
theorem dX8_node_4 : decode cX8_node 4 = .ok (.bipush 10, 2) := by decide +kernel
theorem dX8_node_6 : decode cX8_node 6 = .ok (.if_icmp .ne 5, 3) := by decide +kernel
theorem dX8_node_9 : decode cX8_node 9 = .ok (.iconst (-1), 1) := by decide +kernel
theorem dX8_node_10 : decode cX8_node 10 = .ok (.ireturn, 1) := by decide +kernel
theorem dX8_node_11 : decode cX8_node 11 = .ok (.aload_n 0, 1) := by decide +kernel
theorem dX8_node_12 : decode cX8_node 12 = .ok (.dup, 1) := by decide +kernel
theorem dX8_node_13 : decode cX8_node 13 = .ok (.getfield 110, 3) := by decide +kernel
theorem dX8_node_16 : decode cX8_node 16 = .ok (.iconst 1, 1) := by decide +kernel
theorem dX8_node_17 : decode cX8_node 17 = .ok (.iadd, 1) := by decide +kernel
theorem dX8_node_18 : decode cX8_node 18 = .ok (.putfield 110, 3) := by decide +kernel
theorem dX8_node_21 : decode cX8_node 21 = .ok (.aload_n 0, 1) := by decide +kernel
theorem dX8_node_22 : decode cX8_node 22 = .ok (.iconst 0, 1) := by decide +kernel
theorem dX8_node_23 : decode cX8_node 23 = .ok (.putfield 116, 3) := by decide +kernel
theorem dX8_node_26 : decode cX8_node 26 = .ok (.aload_n 0, 1) := by decide +kernel
theorem dX8_node_27 : decode cX8_node 27 = .ok (.getfield 110, 3) := by decide +kernel
theorem dX8_node_30 : decode cX8_node 30 = .ok (.iconst 1, 1) := by decide +kernel
theorem dX8_node_31 : decode cX8_node 31 = .ok (.isub, 1) := by decide +kernel
theorem dX8_node_32 : decode cX8_node 32 = .ok (.ireturn, 1) := by decide +kernel
theorem dX8_arc_0 : decode cX8_arc 0 = .ok (.aload_n 0, 1) := by decide +kernel
theorem dX8_arc_1 : decode cX8_arc 1 = .ok (.iload_n 1, 1) := by decide +kernel
theorem dX8_arc_2 : decode cX8_arc 2 = .ok (.invokevirtual 119, 3) := by decide +kernel
theorem dX8_arc_5 : decode cX8_arc 5 = .ok (.ifCond .eq 36, 3) := by decide +kernel
theorem dX8_arc_8 : decode cX8_arc 8 = .ok (.aload_n 0, 1) := by decide +kernel
theorem dX8_arc_9 : decode cX8_arc 9 = .ok (.iload_n 2, 1) := by decide +kernel
theorem dX8_arc_10 : decode cX8_arc 10 = .ok (.invokevirtual 119, 3) := by decide +kernel
theorem dX8_arc_13 : decode cX8_arc 13 = .ok (.ifCond .eq 28, 3) := by decide +kernel
theorem dX8_arc_16 : decode cX8_arc 16 = .ok (.iload_n 1, 1) := by decide +kernel
theorem dX8_arc_17 : decode cX8_arc 17 = .ok (.iload_n 2, 1) := by decide +kernel
theorem dX8_arc_18 : decode cX8_arc 18 = .ok (.if_icmp .eq 23, 3) := by decide +kernel
theorem dX8_arc_21 : decode cX8_arc 21 = .ok (.iload_n 3, 1) := by decide +kernel
theorem dX8_arc_22 : decode cX8_arc 22 = .ok (.ifCond .lt 19, 3) := by decide +kernel
theorem dX8_arc_25 : decode cX8_arc 25 = .ok (.iload_n 3, 1) := by decide +kernel
theorem dX8_arc_26 : decode cX8_arc 26 = .ok (.sipush 1000, 3) := by decide +kernel
theorem dX8_arc_29 : decode cX8_arc 29 = .ok (.if_icmp .gt 12, 3) := by decide +kernel
theorem dX8_arc_32 : decode cX8_arc 32 = .ok (.aload_n 0, 1) := by decide +kernel
theorem dX8_arc_33 : decode cX8_arc 33 = .ok (.getfield 113, 3) := by decide +kernel
theorem dX8_arc_36 : decode cX8_arc 36 = .ok (.bipush 30, 2) := by decide +kernel
theorem dX8_arc_38 : decode cX8_arc 38 = .ok (.if_icmp .ne 5, 3) := by decide +kernel
theorem dX8_arc_41 : decode cX8_arc 41 = .ok (.iconst (-1), 1) := by decide +kernel
theorem dX8_arc_42 : decode cX8_arc 42 = .ok (.ireturn, 1) := by decide +kernel
theorem dX8_arc_43 : decode cX8_arc 43 = .ok (.aload_n 0, 1) := by decide +kernel
theorem dX8_arc_44 : decode cX8_arc 44 = .ok (.getfield 7, 3) := by decide +kernel
theorem dX8_arc_47 : decode cX8_arc 47 = .ok (.aload_n 0, 1) := by decide +kernel
theorem dX8_arc_48 : decode cX8_arc 48 = .ok (.getfield 113, 3) := by decide +kernel
theorem dX8_arc_51 : decode cX8_arc 51 = .ok (.iload_n 1, 1) := by decide +kernel
theorem dX8_arc_52 : decode cX8_arc 52 = .ok (.iastore, 1) := by decide +kernel
theorem dX8_arc_53 : decode cX8_arc 53 = .ok (.aload_n 0, 1) := by decide +kernel
theorem dX8_arc_54 : decode cX8_arc 54 = .ok (.getfield 13, 3) := by decide +kernel
theorem dX8_arc_57 : decode cX8_arc 57 = .ok (.aload_n 0, 1) := by decide +kernel
theorem dX8_arc_58 : decode cX8_arc 58 = .ok (.getfield 113, 3) := by decide +kernel
theorem dX8_arc_61 : decode cX8_arc 61 = .ok (.iload_n 2, 1) := by decide +kernel
theorem dX8_arc_62 : decode cX8_arc 62 = .ok (.iastore, 1) := by decide +kernel
theorem dX8_arc_63 : decode cX8_arc 63 = .ok (.aload_n 0, 1) := by decide +kernel
theorem dX8_arc_64 : decode cX8_arc 64 = .ok (.getfield 16, 3) := by decide +kernel
theorem dX8_arc_67 : decode cX8_arc 67 = .ok (.aload_n 0, 1) := by decide +kernel
theorem dX8_arc_68 : decode cX8_arc 68 = .ok (.getfield 113, 3) := by decide +kernel
theorem dX8_arc_71 : decode cX8_arc 71 = .ok (.iload_n 3, 1) := by decide +kernel
theorem dX8_arc_72 : decode cX8_arc 72 = .ok (.iastore, 1) := by decide +kernel
theorem dX8_arc_73 : decode cX8_arc 73 = .ok (.aload_n 0, 1) := by decide +kernel
theorem dX8_arc_74 : decode cX8_arc 74 = .ok (.dup, 1) := by decide +kernel
theorem dX8_arc_75 : decode cX8_arc 75 = .ok (.getfield 113, 3) := by decide +kernel
theorem dX8_arc_78 : decode cX8_arc 78 = .ok (.iconst 1, 1) := by decide +kernel
theorem dX8_arc_79 : decode cX8_arc 79 = .ok (.iadd, 1) := by decide +kernel
theorem dX8_arc_80 : decode cX8_arc 80 = .ok (.putfield 113, 3) := by decide +kernel
theorem dX8_arc_83 : decode cX8_arc 83 = .ok (.aload_n 0, 1) := by decide +kernel
theorem dX8_arc_84 : decode cX8_arc 84 = .ok (.iconst 0, 1) := by decide +kernel
theorem dX8_arc_85 : decode cX8_arc 85 = .ok (.putfield 116, 3) := by decide +kernel
theorem dX8_arc_88 : decode cX8_arc 88 = .ok (.aload_n 0, 1) := by decide +kernel
theorem dX8_arc_89 : decode cX8_arc 89 = .ok (.getfield 113, 3) := by decide +kernel
theorem dX8_arc_92 : decode cX8_arc 92 = .ok (.iconst 1, 1) := by decide +kernel
theorem dX8_arc_93 : decode cX8_arc 93 = .ok (.isub, 1) := by decide +kernel
theorem dX8_arc_94 : decode cX8_arc 94 = .ok (.ireturn, 1) := by decide +kernel
theorem dX8_change_0 : decode cX8_change 0 = .ok (.aload_n 0, 1) := by decide +kernel
theorem dX8_change_1 : decode cX8_change 1 = .ok (.iload_n 1, 1) := by decide +kernel
theorem dX8_change_2 : decode cX8_change 2 = .ok (.invokevirtual 123, 3) := by decide +kernel
theorem dX8_change_5 : decode cX8_change 5 = .ok (.ifCond .eq 14, 3) := by decide +kernel
theorem dX8_change_8 : decode cX8_change 8 = .ok (.iload_n 2, 1) := by decide +kernel
theorem dX8_change_9 : decode cX8_change 9 = .ok (.ifCond .lt 10, 3) := by decide +kernel
theorem dX8_change_12 : decode cX8_change 12 = .ok (.iload_n 2, 1) := by decide +kernel
theorem dX8_change_13 : decode cX8_change 13 = .ok (.sipush 1000, 3) := by decide +kernel
theorem dX8_change_16 : decode cX8_change 16 = .ok (.if_icmp .le 5, 3) := by decide +kernel
theorem dX8_change_19 : decode cX8_change 19 = .ok (.iconst (-1), 1) := by decide +kernel
theorem dX8_change_20 : decode cX8_change 20 = .ok (.ireturn, 1) := by decide +kernel
theorem dX8_change_21 : decode cX8_change 21 = .ok (.aload_n 0, 1) := by decide +kernel
theorem dX8_change_22 : decode cX8_change 22 = .ok (.getfield 16, 3) := by decide +kernel
theorem dX8_change_25 : decode cX8_change 25 = .ok (.iload_n 1, 1) := by decide +kernel
theorem dX8_change_26 : decode cX8_change 26 = .ok (.iaload, 1) := by decide +kernel
theorem dX8_change_27 : decode cX8_change 27 = .ok (.istore_n 3, 1) := by decide +kernel
theorem dX8_change_28 : decode cX8_change 28 = .ok (.aload_n 0, 1) := by decide +kernel
theorem dX8_change_29 : decode cX8_change 29 = .ok (.getfield 16, 3) := by decide +kernel
theorem dX8_change_32 : decode cX8_change 32 = .ok (.iload_n 1, 1) := by decide +kernel
theorem dX8_change_33 : decode cX8_change 33 = .ok (.iload_n 2, 1) := by decide +kernel
theorem dX8_change_34 : decode cX8_change 34 = .ok (.iastore, 1) := by decide +kernel
theorem dX8_change_35 : decode cX8_change 35 = .ok (.aload_n 0, 1) := by decide +kernel
theorem dX8_change_36 : decode cX8_change 36 = .ok (.iconst 0, 1) := by decide +kernel
theorem dX8_change_37 : decode cX8_change 37 = .ok (.putfield 116, 3) := by decide +kernel
theorem dX8_change_40 : decode cX8_change 40 = .ok (.iload_n 3, 1) := by decide +kernel
theorem dX8_change_41 : decode cX8_change 41 = .ok (.ireturn, 1) := by decide +kernel
theorem dX8_choose_0 : decode cX8_choose 0 = .ok (.aload_n 0, 1) := by decide +kernel
theorem dX8_choose_1 : decode cX8_choose 1 = .ok (.iload_n 1, 1) := by decide +kernel
theorem dX8_choose_2 : decode cX8_choose 2 = .ok (.invokevirtual 119, 3) := by decide +kernel
theorem dX8_choose_5 : decode cX8_choose 5 = .ok (.ifCond .eq 12, 3) := by decide +kernel
theorem dX8_choose_8 : decode cX8_choose 8 = .ok (.iload_n 2, 1) := by decide +kernel
theorem dX8_choose_9 : decode cX8_choose 9 = .ok (.ifCond .lt 8, 3) := by decide +kernel
theorem dX8_choose_12 : decode cX8_choose 12 = .ok (.iload_n 2, 1) := by decide +kernel
theorem dX8_choose_13 : decode cX8_choose 13 = .ok (.iconst 2, 1) := by decide +kernel
theorem dX8_choose_14 : decode cX8_choose 14 = .ok (.if_icmp .le 5, 3) := by decide +kernel
theorem dX8_choose_17 : decode cX8_choose 17 = .ok (.iconst 0, 1) := by decide +kernel
theorem dX8_choose_18 : decode cX8_choose 18 = .ok (.ireturn, 1) := by decide +kernel
theorem dX8_choose_19 : decode cX8_choose 19 = .ok (.aload_n 0, 1) := by decide +kernel
theorem dX8_choose_20 : decode cX8_choose 20 = .ok (.getfield 19, 3) := by decide +kernel
theorem dX8_choose_23 : decode cX8_choose 23 = .ok (.iconst 3, 1) := by decide +kernel
theorem dX8_choose_24 : decode cX8_choose 24 = .ok (.iload_n 1, 1) := by decide +kernel
theorem dX8_choose_25 : decode cX8_choose 25 = .ok (.imul, 1) := by decide +kernel
theorem dX8_choose_26 : decode cX8_choose 26 = .ok (.iload_n 2, 1) := by decide +kernel
theorem dX8_choose_27 : decode cX8_choose 27 = .ok (.iadd, 1) := by decide +kernel
theorem dX8_choose_28 : decode cX8_choose 28 = .ok (.aload_n 0, 1) := by decide +kernel
theorem dX8_choose_29 : decode cX8_choose 29 = .ok (.getfield 19, 3) := by decide +kernel
theorem dX8_choose_32 : decode cX8_choose 32 = .ok (.iconst 3, 1) := by decide +kernel
theorem dX8_choose_33 : decode cX8_choose 33 = .ok (.iload_n 1, 1) := by decide +kernel
theorem dX8_choose_34 : decode cX8_choose 34 = .ok (.imul, 1) := by decide +kernel
theorem dX8_choose_35 : decode cX8_choose 35 = .ok (.iload_n 2, 1) := by decide +kernel
theorem dX8_choose_36 : decode cX8_choose 36 = .ok (.iadd, 1) := by decide +kernel
theorem dX8_choose_37 : decode cX8_choose 37 = .ok (.baload, 1) := by decide +kernel
theorem dX8_choose_38 : decode cX8_choose 38 = .ok (.ifCond .ne 7, 3) := by decide +kernel
theorem dX8_choose_41 : decode cX8_choose 41 = .ok (.iconst 1, 1) := by decide +kernel
theorem dX8_choose_42 : decode cX8_choose 42 = .ok (.goto 4, 3) := by decide +kernel
theorem dX8_choose_45 : decode cX8_choose 45 = .ok (.iconst 0, 1) := by decide +kernel
theorem dX8_choose_46 : decode cX8_choose 46 = .ok (.bastore, 1) := by decide +kernel
theorem dX8_choose_47 : decode cX8_choose 47 = .ok (.aload_n 0, 1) := by decide +kernel
theorem dX8_choose_48 : decode cX8_choose 48 = .ok (.iconst 0, 1) := by decide +kernel
theorem dX8_choose_49 : decode cX8_choose 49 = .ok (.putfield 116, 3) := by decide +kernel
theorem dX8_choose_52 : decode cX8_choose 52 = .ok (.aload_n 0, 1) := by decide +kernel
theorem dX8_choose_53 : decode cX8_choose 53 = .ok (.iload_n 1, 1) := by decide +kernel
theorem dX8_choose_54 : decode cX8_choose 54 = .ok (.iload_n 2, 1) := by decide +kernel
theorem dX8_choose_55 : decode cX8_choose 55 = .ok (.invokevirtual 126, 3) := by decide +kernel
theorem dX8_choose_58 : decode cX8_choose 58 = .ok (.ireturn, 1) := by decide +kernel
theorem dX8_cell_0 : decode cX8_cell 0 = .ok (.bipush 10, 2) := by decide +kernel
theorem dX8_cell_2 : decode cX8_cell 2 = .ok (.iload_n 1, 1) := by decide +kernel
theorem dX8_cell_3 : decode cX8_cell 3 = .ok (.imul, 1) := by decide +kernel
theorem dX8_cell_4 : decode cX8_cell 4 = .ok (.iload_n 2, 1) := by decide +kernel
theorem dX8_cell_5 : decode cX8_cell 5 = .ok (.iadd, 1) := by decide +kernel
theorem dX8_cell_6 : decode cX8_cell 6 = .ok (.ireturn, 1) := by decide +kernel
theorem dX8_lengths_0 : decode cX8_lengths 0 = .ok (.iconst 0, 1) := by decide +kernel
theorem dX8_lengths_1 : decode cX8_lengths 1 = .ok (.istore_n 1, 1) := by decide +kernel
theorem dX8_lengths_2 : decode cX8_lengths 2 = .ok (.iload_n 1, 1) := by decide +kernel
theorem dX8_lengths_3 : decode cX8_lengths 3 = .ok (.aload_n 0, 1) := by decide +kernel
theorem dX8_lengths_4 : decode cX8_lengths 4 = .ok (.getfield 110, 3) := by decide +kernel
theorem dX8_lengths_7 : decode cX8_lengths 7 = .ok (.if_icmp .ge 47, 3) := by decide +kernel
theorem dX8_lengths_10 : decode cX8_lengths 10 = .ok (.iconst 0, 1) := by decide +kernel
theorem dX8_lengths_11 : decode cX8_lengths 11 = .ok (.istore_n 2, 1) := by decide +kernel
theorem dX8_lengths_12 : decode cX8_lengths 12 = .ok (.iload_n 2, 1) := by decide +kernel
theorem dX8_lengths_13 : decode cX8_lengths 13 = .ok (.aload_n 0, 1) := by decide +kernel
theorem dX8_lengths_14 : decode cX8_lengths 14 = .ok (.getfield 110, 3) := by decide +kernel
theorem dX8_lengths_17 : decode cX8_lengths 17 = .ok (.if_icmp .ge 31, 3) := by decide +kernel
theorem dX8_lengths_20 : decode cX8_lengths 20 = .ok (.aload_n 0, 1) := by decide +kernel
theorem dX8_lengths_21 : decode cX8_lengths 21 = .ok (.getfield 23, 3) := by decide +kernel
theorem dX8_lengths_24 : decode cX8_lengths 24 = .ok (.aload_n 0, 1) := by decide +kernel
theorem dX8_lengths_25 : decode cX8_lengths 25 = .ok (.iload_n 1, 1) := by decide +kernel
theorem dX8_lengths_26 : decode cX8_lengths 26 = .ok (.iload_n 2, 1) := by decide +kernel
theorem dX8_lengths_27 : decode cX8_lengths 27 = .ok (.invokevirtual 130, 3) := by decide +kernel
theorem dX8_lengths_30 : decode cX8_lengths 30 = .ok (.iload_n 1, 1) := by decide +kernel
theorem dX8_lengths_31 : decode cX8_lengths 31 = .ok (.iload_n 2, 1) := by decide +kernel
theorem dX8_lengths_32 : decode cX8_lengths 32 = .ok (.if_icmp .ne 7, 3) := by decide +kernel
theorem dX8_lengths_35 : decode cX8_lengths 35 = .ok (.iconst 0, 1) := by decide +kernel
theorem dX8_lengths_36 : decode cX8_lengths 36 = .ok (.goto 5, 3) := by decide +kernel
theorem dX8_lengths_39 : decode cX8_lengths 39 = .ok (.ldc 134, 2) := by decide +kernel
theorem dX8_lengths_41 : decode cX8_lengths 41 = .ok (.iastore, 1) := by decide +kernel
