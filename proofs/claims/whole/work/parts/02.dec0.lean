theorem dX0_init_0 : decode cX0_init 0 = .ok (.aload_n 0, 1) := by decide +kernel
theorem dX0_init_1 : decode cX0_init 1 = .ok (.invokespecial 3, 3) := by decide +kernel
theorem dX0_init_4 : decode cX0_init 4 = .ok (.aload_n 0, 1) := by decide +kernel
theorem dX0_init_5 : decode cX0_init 5 = .ok (.iconst 0, 1) := by decide +kernel
theorem dX0_init_6 : decode cX0_init 6 = .ok (.putfield 9, 3) := by decide +kernel
theorem dX0_init_9 : decode cX0_init 9 = .ok (.aload_n 0, 1) := by decide +kernel
theorem dX0_init_10 : decode cX0_init 10 = .ok (.iload_n 1, 1) := by decide +kernel
theorem dX0_init_11 : decode cX0_init 11 = .ok (.iconst 1, 1) := by decide +kernel
theorem dX0_init_12 : decode cX0_init 12 = .ok (.invokestatic 15, 3) := by decide +kernel
theorem dX0_init_15 : decode cX0_init 15 = .ok (.newarray .long, 2) := by decide +kernel
theorem dX0_init_17 : decode cX0_init 17 = .ok (.putfield 21, 3) := by decide +kernel
theorem dX0_init_20 : decode cX0_init 20 = .ok (.return_, 1) := by decide +kernel
theorem dX0_setSmall_0 : decode cX0_setSmall 0 = .ok (.aload_n 0, 1) := by decide +kernel
theorem dX0_setSmall_1 : decode cX0_setSmall 1 = .ok (.iconst 0, 1) := by decide +kernel
theorem dX0_setSmall_2 : decode cX0_setSmall 2 = .ok (.putfield 9, 3) := by decide +kernel
theorem dX0_setSmall_5 : decode cX0_setSmall 5 = .ok (.aload_n 0, 1) := by decide +kernel
theorem dX0_setSmall_6 : decode cX0_setSmall 6 = .ok (.lload_n 1, 1) := by decide +kernel
theorem dX0_setSmall_7 : decode cX0_setSmall 7 = .ok (.invokevirtual 25, 3) := by decide +kernel
theorem dX0_setSmall_10 : decode cX0_setSmall 10 = .ok (.return_, 1) := by decide +kernel
theorem dX0_set_0 : decode cX0_set 0 = .ok (.aload_n 0, 1) := by decide +kernel
theorem dX0_set_1 : decode cX0_set 1 = .ok (.aload_n 1, 1) := by decide +kernel
theorem dX0_set_2 : decode cX0_set 2 = .ok (.getfield 9, 3) := by decide +kernel
theorem dX0_set_5 : decode cX0_set 5 = .ok (.aload_n 0, 1) := by decide +kernel
theorem dX0_set_6 : decode cX0_set 6 = .ok (.getfield 21, 3) := by decide +kernel
theorem dX0_set_9 : decode cX0_set 9 = .ok (.arraylength, 1) := by decide +kernel
theorem dX0_set_10 : decode cX0_set 10 = .ok (.invokestatic 29, 3) := by decide +kernel
theorem dX0_set_13 : decode cX0_set 13 = .ok (.putfield 9, 3) := by decide +kernel
theorem dX0_set_16 : decode cX0_set 16 = .ok (.aload_n 1, 1) := by decide +kernel
theorem dX0_set_17 : decode cX0_set 17 = .ok (.getfield 21, 3) := by decide +kernel
theorem dX0_set_20 : decode cX0_set 20 = .ok (.iconst 0, 1) := by decide +kernel
theorem dX0_set_21 : decode cX0_set 21 = .ok (.aload_n 0, 1) := by decide +kernel
theorem dX0_set_22 : decode cX0_set 22 = .ok (.getfield 21, 3) := by decide +kernel
theorem dX0_set_25 : decode cX0_set 25 = .ok (.iconst 0, 1) := by decide +kernel
theorem dX0_set_26 : decode cX0_set 26 = .ok (.aload_n 0, 1) := by decide +kernel
theorem dX0_set_27 : decode cX0_set 27 = .ok (.getfield 9, 3) := by decide +kernel
theorem dX0_set_30 : decode cX0_set 30 = .ok (.invokestatic 32, 3) := by decide +kernel
theorem dX0_set_33 : decode cX0_set 33 = .ok (.return_, 1) := by decide +kernel
theorem dX0_append_0 : decode cX0_append 0 = .ok (.lload_n 1, 1) := by decide +kernel
theorem dX0_append_1 : decode cX0_append 1 = .ok (.lconst 0, 1) := by decide +kernel
theorem dX0_append_2 : decode cX0_append 2 = .ok (.lcmp, 1) := by decide +kernel
theorem dX0_append_3 : decode cX0_append 3 = .ok (.ifCond .le 35, 3) := by decide +kernel
theorem dX0_append_6 : decode cX0_append 6 = .ok (.aload_n 0, 1) := by decide +kernel
theorem dX0_append_7 : decode cX0_append 7 = .ok (.getfield 9, 3) := by decide +kernel
theorem dX0_append_10 : decode cX0_append 10 = .ok (.aload_n 0, 1) := by decide +kernel
theorem dX0_append_11 : decode cX0_append 11 = .ok (.getfield 21, 3) := by decide +kernel
theorem dX0_append_14 : decode cX0_append 14 = .ok (.arraylength, 1) := by decide +kernel
theorem dX0_append_15 : decode cX0_append 15 = .ok (.if_icmp .ge 23, 3) := by decide +kernel
theorem dX0_append_18 : decode cX0_append 18 = .ok (.aload_n 0, 1) := by decide +kernel
theorem dX0_append_19 : decode cX0_append 19 = .ok (.getfield 21, 3) := by decide +kernel
theorem dX0_append_22 : decode cX0_append 22 = .ok (.aload_n 0, 1) := by decide +kernel
theorem dX0_append_23 : decode cX0_append 23 = .ok (.getfield 9, 3) := by decide +kernel
theorem dX0_append_26 : decode cX0_append 26 = .ok (.lload_n 1, 1) := by decide +kernel
theorem dX0_append_27 : decode cX0_append 27 = .ok (.lastore, 1) := by decide +kernel
theorem dX0_append_28 : decode cX0_append 28 = .ok (.aload_n 0, 1) := by decide +kernel
theorem dX0_append_29 : decode cX0_append 29 = .ok (.dup, 1) := by decide +kernel
theorem dX0_append_30 : decode cX0_append 30 = .ok (.getfield 9, 3) := by decide +kernel
theorem dX0_append_33 : decode cX0_append 33 = .ok (.iconst 1, 1) := by decide +kernel
theorem dX0_append_34 : decode cX0_append 34 = .ok (.iadd, 1) := by decide +kernel
theorem dX0_append_35 : decode cX0_append 35 = .ok (.putfield 9, 3) := by decide +kernel
theorem dX0_append_38 : decode cX0_append 38 = .ok (.return_, 1) := by decide +kernel
theorem dX0_digitAt_0 : decode cX0_digitAt 0 = .ok (.iload_n 1, 1) := by decide +kernel
theorem dX0_digitAt_1 : decode cX0_digitAt 1 = .ok (.ifCond .lt 20, 3) := by decide +kernel
theorem dX0_digitAt_4 : decode cX0_digitAt 4 = .ok (.iload_n 1, 1) := by decide +kernel
theorem dX0_digitAt_5 : decode cX0_digitAt 5 = .ok (.aload_n 0, 1) := by decide +kernel
theorem dX0_digitAt_6 : decode cX0_digitAt 6 = .ok (.getfield 9, 3) := by decide +kernel
theorem dX0_digitAt_9 : decode cX0_digitAt 9 = .ok (.if_icmp .ge 12, 3) := by decide +kernel
theorem dX0_digitAt_12 : decode cX0_digitAt 12 = .ok (.aload_n 0, 1) := by decide +kernel
theorem dX0_digitAt_13 : decode cX0_digitAt 13 = .ok (.getfield 21, 3) := by decide +kernel
theorem dX0_digitAt_16 : decode cX0_digitAt 16 = .ok (.iload_n 1, 1) := by decide +kernel
theorem dX0_digitAt_17 : decode cX0_digitAt 17 = .ok (.laload, 1) := by decide +kernel
theorem dX0_digitAt_18 : decode cX0_digitAt 18 = .ok (.goto 4, 3) := by decide +kernel
theorem dX0_digitAt_21 : decode cX0_digitAt 21 = .ok (.lconst 0, 1) := by decide +kernel
theorem dX0_digitAt_22 : decode cX0_digitAt 22 = .ok (.lreturn, 1) := by decide +kernel
theorem dX0_pad_0 : decode cX0_pad 0 = .ok (.iload_n 1, 1) := by decide +kernel
theorem dX0_pad_1 : decode cX0_pad 1 = .ok (.aload_n 0, 1) := by decide +kernel
theorem dX0_pad_2 : decode cX0_pad 2 = .ok (.getfield 21, 3) := by decide +kernel
theorem dX0_pad_5 : decode cX0_pad 5 = .ok (.arraylength, 1) := by decide +kernel
theorem dX0_pad_6 : decode cX0_pad 6 = .ok (.invokestatic 29, 3) := by decide +kernel
theorem dX0_pad_9 : decode cX0_pad 9 = .ok (.istore_n 2, 1) := by decide +kernel
theorem dX0_pad_10 : decode cX0_pad 10 = .ok (.aload_n 0, 1) := by decide +kernel
theorem dX0_pad_11 : decode cX0_pad 11 = .ok (.getfield 9, 3) := by decide +kernel
theorem dX0_pad_14 : decode cX0_pad 14 = .ok (.istore_n 3, 1) := by decide +kernel
theorem dX0_pad_15 : decode cX0_pad 15 = .ok (.iload_n 3, 1) := by decide +kernel
theorem dX0_pad_16 : decode cX0_pad 16 = .ok (.iload_n 2, 1) := by decide +kernel
theorem dX0_pad_17 : decode cX0_pad 17 = .ok (.if_icmp .ge 16, 3) := by decide +kernel
theorem dX0_pad_20 : decode cX0_pad 20 = .ok (.aload_n 0, 1) := by decide +kernel
theorem dX0_pad_21 : decode cX0_pad 21 = .ok (.getfield 21, 3) := by decide +kernel
theorem dX0_pad_24 : decode cX0_pad 24 = .ok (.iload_n 3, 1) := by decide +kernel
theorem dX0_pad_25 : decode cX0_pad 25 = .ok (.lconst 0, 1) := by decide +kernel
theorem dX0_pad_26 : decode cX0_pad 26 = .ok (.lastore, 1) := by decide +kernel
theorem dX0_pad_27 : decode cX0_pad 27 = .ok (.iinc 3 1, 3) := by decide +kernel
theorem dX0_pad_30 : decode cX0_pad 30 = .ok (.goto (-15), 3) := by decide +kernel
theorem dX0_pad_33 : decode cX0_pad 33 = .ok (.aload_n 0, 1) := by decide +kernel
theorem dX0_pad_34 : decode cX0_pad 34 = .ok (.aload_n 0, 1) := by decide +kernel
theorem dX0_pad_35 : decode cX0_pad 35 = .ok (.getfield 9, 3) := by decide +kernel
theorem dX0_pad_38 : decode cX0_pad 38 = .ok (.iload_n 2, 1) := by decide +kernel
theorem dX0_pad_39 : decode cX0_pad 39 = .ok (.invokestatic 15, 3) := by decide +kernel
theorem dX0_pad_42 : decode cX0_pad 42 = .ok (.putfield 9, 3) := by decide +kernel
theorem dX0_pad_45 : decode cX0_pad 45 = .ok (.return_, 1) := by decide +kernel
theorem dX0_cutAt_0 : decode cX0_cutAt 0 = .ok (.aload_n 0, 1) := by decide +kernel
theorem dX0_cutAt_1 : decode cX0_cutAt 1 = .ok (.iconst 0, 1) := by decide +kernel
theorem dX0_cutAt_2 : decode cX0_cutAt 2 = .ok (.iload_n 1, 1) := by decide +kernel
theorem dX0_cutAt_3 : decode cX0_cutAt 3 = .ok (.aload_n 0, 1) := by decide +kernel
theorem dX0_cutAt_4 : decode cX0_cutAt 4 = .ok (.getfield 9, 3) := by decide +kernel
theorem dX0_cutAt_7 : decode cX0_cutAt 7 = .ok (.invokestatic 29, 3) := by decide +kernel
theorem dX0_cutAt_10 : decode cX0_cutAt 10 = .ok (.invokestatic 15, 3) := by decide +kernel
theorem dX0_cutAt_13 : decode cX0_cutAt 13 = .ok (.putfield 9, 3) := by decide +kernel
theorem dX0_cutAt_16 : decode cX0_cutAt 16 = .ok (.return_, 1) := by decide +kernel
theorem dX0_trim_0 : decode cX0_trim 0 = .ok (.aload_n 0, 1) := by decide +kernel
theorem dX0_trim_1 : decode cX0_trim 1 = .ok (.getfield 9, 3) := by decide +kernel
theorem dX0_trim_4 : decode cX0_trim 4 = .ok (.ifCond .le 32, 3) := by decide +kernel
theorem dX0_trim_7 : decode cX0_trim 7 = .ok (.aload_n 0, 1) := by decide +kernel
theorem dX0_trim_8 : decode cX0_trim 8 = .ok (.getfield 21, 3) := by decide +kernel
theorem dX0_trim_11 : decode cX0_trim 11 = .ok (.aload_n 0, 1) := by decide +kernel
theorem dX0_trim_12 : decode cX0_trim 12 = .ok (.getfield 9, 3) := by decide +kernel
theorem dX0_trim_15 : decode cX0_trim 15 = .ok (.iconst 1, 1) := by decide +kernel
theorem dX0_trim_16 : decode cX0_trim 16 = .ok (.isub, 1) := by decide +kernel
theorem dX0_trim_17 : decode cX0_trim 17 = .ok (.laload, 1) := by decide +kernel
theorem dX0_trim_18 : decode cX0_trim 18 = .ok (.lconst 0, 1) := by decide +kernel
theorem dX0_trim_19 : decode cX0_trim 19 = .ok (.lcmp, 1) := by decide +kernel
theorem dX0_trim_20 : decode cX0_trim 20 = .ok (.ifCond .ne 16, 3) := by decide +kernel
theorem dX0_trim_23 : decode cX0_trim 23 = .ok (.aload_n 0, 1) := by decide +kernel
theorem dX0_trim_24 : decode cX0_trim 24 = .ok (.dup, 1) := by decide +kernel
theorem dX0_trim_25 : decode cX0_trim 25 = .ok (.getfield 9, 3) := by decide +kernel
theorem dX0_trim_28 : decode cX0_trim 28 = .ok (.iconst 1, 1) := by decide +kernel
theorem dX0_trim_29 : decode cX0_trim 29 = .ok (.isub, 1) := by decide +kernel
theorem dX0_trim_30 : decode cX0_trim 30 = .ok (.putfield 9, 3) := by decide +kernel
theorem dX0_trim_33 : decode cX0_trim 33 = .ok (.goto (-33), 3) := by decide +kernel
theorem dX0_trim_36 : decode cX0_trim 36 = .ok (.return_, 1) := by decide +kernel
theorem dX0_compareWith_0 : decode cX0_compareWith 0 = .ok (.aload_n 0, 1) := by decide +kernel
theorem dX0_compareWith_1 : decode cX0_compareWith 1 = .ok (.getfield 9, 3) := by decide +kernel
theorem dX0_compareWith_4 : decode cX0_compareWith 4 = .ok (.aload_n 1, 1) := by decide +kernel
theorem dX0_compareWith_5 : decode cX0_compareWith 5 = .ok (.getfield 9, 3) := by decide +kernel
theorem dX0_compareWith_8 : decode cX0_compareWith 8 = .ok (.if_icmp .eq 20, 3) := by decide +kernel
theorem dX0_compareWith_11 : decode cX0_compareWith 11 = .ok (.aload_n 0, 1) := by decide +kernel
theorem dX0_compareWith_12 : decode cX0_compareWith 12 = .ok (.getfield 9, 3) := by decide +kernel
theorem dX0_compareWith_15 : decode cX0_compareWith 15 = .ok (.aload_n 1, 1) := by decide +kernel
theorem dX0_compareWith_16 : decode cX0_compareWith 16 = .ok (.getfield 9, 3) := by decide +kernel
theorem dX0_compareWith_19 : decode cX0_compareWith 19 = .ok (.if_icmp .ge 7, 3) := by decide +kernel
theorem dX0_compareWith_22 : decode cX0_compareWith 22 = .ok (.iconst (-1), 1) := by decide +kernel
theorem dX0_compareWith_23 : decode cX0_compareWith 23 = .ok (.goto 4, 3) := by decide +kernel
theorem dX0_compareWith_26 : decode cX0_compareWith 26 = .ok (.iconst 1, 1) := by decide +kernel
theorem dX0_compareWith_27 : decode cX0_compareWith 27 = .ok (.ireturn, 1) := by decide +kernel
theorem dX0_compareWith_28 : decode cX0_compareWith 28 = .ok (.aload_n 0, 1) := by decide +kernel
theorem dX0_compareWith_29 : decode cX0_compareWith 29 = .ok (.getfield 9, 3) := by decide +kernel
theorem dX0_compareWith_32 : decode cX0_compareWith 32 = .ok (.iconst 1, 1) := by decide +kernel
theorem dX0_compareWith_33 : decode cX0_compareWith 33 = .ok (.isub, 1) := by decide +kernel
theorem dX0_compareWith_34 : decode cX0_compareWith 34 = .ok (.istore_n 2, 1) := by decide +kernel
theorem dX0_compareWith_35 : decode cX0_compareWith 35 = .ok (.iload_n 2, 1) := by decide +kernel
theorem dX0_compareWith_36 : decode cX0_compareWith 36 = .ok (.ifCond .lt 47, 3) := by decide +kernel
theorem dX0_compareWith_39 : decode cX0_compareWith 39 = .ok (.aload_n 0, 1) := by decide +kernel
theorem dX0_compareWith_40 : decode cX0_compareWith 40 = .ok (.getfield 21, 3) := by decide +kernel
theorem dX0_compareWith_43 : decode cX0_compareWith 43 = .ok (.iload_n 2, 1) := by decide +kernel
theorem dX0_compareWith_44 : decode cX0_compareWith 44 = .ok (.laload, 1) := by decide +kernel
theorem dX0_compareWith_45 : decode cX0_compareWith 45 = .ok (.aload_n 1, 1) := by decide +kernel
theorem dX0_compareWith_46 : decode cX0_compareWith 46 = .ok (.getfield 21, 3) := by decide +kernel
theorem dX0_compareWith_49 : decode cX0_compareWith 49 = .ok (.iload_n 2, 1) := by decide +kernel
theorem dX0_compareWith_50 : decode cX0_compareWith 50 = .ok (.laload, 1) := by decide +kernel
theorem dX0_compareWith_51 : decode cX0_compareWith 51 = .ok (.lcmp, 1) := by decide +kernel
theorem dX0_compareWith_52 : decode cX0_compareWith 52 = .ok (.ifCond .eq 25, 3) := by decide +kernel
theorem dX0_compareWith_55 : decode cX0_compareWith 55 = .ok (.aload_n 0, 1) := by decide +kernel
theorem dX0_compareWith_56 : decode cX0_compareWith 56 = .ok (.getfield 21, 3) := by decide +kernel
theorem dX0_compareWith_59 : decode cX0_compareWith 59 = .ok (.iload_n 2, 1) := by decide +kernel
theorem dX0_compareWith_60 : decode cX0_compareWith 60 = .ok (.laload, 1) := by decide +kernel
theorem dX0_compareWith_61 : decode cX0_compareWith 61 = .ok (.aload_n 1, 1) := by decide +kernel
theorem dX0_compareWith_62 : decode cX0_compareWith 62 = .ok (.getfield 21, 3) := by decide +kernel
theorem dX0_compareWith_65 : decode cX0_compareWith 65 = .ok (.iload_n 2, 1) := by decide +kernel
theorem dX0_compareWith_66 : decode cX0_compareWith 66 = .ok (.laload, 1) := by decide +kernel
theorem dX0_compareWith_67 : decode cX0_compareWith 67 = .ok (.lcmp, 1) := by decide +kernel
theorem dX0_compareWith_68 : decode cX0_compareWith 68 = .ok (.ifCond .ge 7, 3) := by decide +kernel
theorem dX0_compareWith_71 : decode cX0_compareWith 71 = .ok (.iconst (-1), 1) := by decide +kernel
theorem dX0_compareWith_72 : decode cX0_compareWith 72 = .ok (.goto 4, 3) := by decide +kernel
theorem dX0_compareWith_75 : decode cX0_compareWith 75 = .ok (.iconst 1, 1) := by decide +kernel
theorem dX0_compareWith_76 : decode cX0_compareWith 76 = .ok (.ireturn, 1) := by decide +kernel
theorem dX0_compareWith_77 : decode cX0_compareWith 77 = .ok (.iinc 2 (-1), 3) := by decide +kernel
theorem dX0_compareWith_80 : decode cX0_compareWith 80 = .ok (.goto (-45), 3) := by decide +kernel
theorem dX0_compareWith_83 : decode cX0_compareWith 83 = .ok (.iconst 0, 1) := by decide +kernel
theorem dX0_compareWith_84 : decode cX0_compareWith 84 = .ok (.ireturn, 1) := by decide +kernel
theorem dX0_times_0 : decode cX0_times 0 = .ok (.lconst 0, 1) := by decide +kernel
theorem dX0_times_1 : decode cX0_times 1 = .ok (.lstore_n 3, 1) := by decide +kernel
theorem dX0_times_2 : decode cX0_times 2 = .ok (.iconst 0, 1) := by decide +kernel
theorem dX0_times_3 : decode cX0_times 3 = .ok (.istore 5, 2) := by decide +kernel
theorem dX0_times_5 : decode cX0_times 5 = .ok (.iload 5, 2) := by decide +kernel
theorem dX0_times_7 : decode cX0_times 7 = .ok (.aload_n 0, 1) := by decide +kernel
theorem dX0_times_8 : decode cX0_times 8 = .ok (.getfield 9, 3) := by decide +kernel
theorem dX0_times_11 : decode cX0_times 11 = .ok (.if_icmp .ge 41, 3) := by decide +kernel
theorem dX0_times_14 : decode cX0_times 14 = .ok (.aload_n 0, 1) := by decide +kernel
theorem dX0_times_15 : decode cX0_times 15 = .ok (.getfield 21, 3) := by decide +kernel
theorem dX0_times_18 : decode cX0_times 18 = .ok (.iload 5, 2) := by decide +kernel
theorem dX0_times_20 : decode cX0_times 20 = .ok (.laload, 1) := by decide +kernel
theorem dX0_times_21 : decode cX0_times 21 = .ok (.lload_n 1, 1) := by decide +kernel
theorem dX0_times_22 : decode cX0_times 22 = .ok (.lmul, 1) := by decide +kernel
theorem dX0_times_23 : decode cX0_times 23 = .ok (.lload_n 3, 1) := by decide +kernel
theorem dX0_times_24 : decode cX0_times 24 = .ok (.ladd, 1) := by decide +kernel
theorem dX0_times_25 : decode cX0_times 25 = .ok (.lstore 6, 2) := by decide +kernel
theorem dX0_times_27 : decode cX0_times 27 = .ok (.aload_n 0, 1) := by decide +kernel
theorem dX0_times_28 : decode cX0_times 28 = .ok (.getfield 21, 3) := by decide +kernel
theorem dX0_times_31 : decode cX0_times 31 = .ok (.iload 5, 2) := by decide +kernel
theorem dX0_times_33 : decode cX0_times 33 = .ok (.lload 6, 2) := by decide +kernel
theorem dX0_times_35 : decode cX0_times 35 = .ok (.ldc2_w 38, 3) := by decide +kernel
theorem dX0_times_38 : decode cX0_times 38 = .ok (.land, 1) := by decide +kernel
theorem dX0_times_39 : decode cX0_times 39 = .ok (.lastore, 1) := by decide +kernel
theorem dX0_times_40 : decode cX0_times 40 = .ok (.lload 6, 2) := by decide +kernel
theorem dX0_times_42 : decode cX0_times 42 = .ok (.bipush 30, 2) := by decide +kernel
theorem dX0_times_44 : decode cX0_times 44 = .ok (.lshr, 1) := by decide +kernel
theorem dX0_times_45 : decode cX0_times 45 = .ok (.lstore_n 3, 1) := by decide +kernel
theorem dX0_times_46 : decode cX0_times 46 = .ok (.iinc 5 1, 3) := by decide +kernel
theorem dX0_times_49 : decode cX0_times 49 = .ok (.goto (-44), 3) := by decide +kernel
theorem dX0_times_52 : decode cX0_times 52 = .ok (.aload_n 0, 1) := by decide +kernel
theorem dX0_times_53 : decode cX0_times 53 = .ok (.lload_n 3, 1) := by decide +kernel
theorem dX0_times_54 : decode cX0_times 54 = .ok (.invokevirtual 25, 3) := by decide +kernel
theorem dX0_times_57 : decode cX0_times 57 = .ok (.aload_n 0, 1) := by decide +kernel
theorem dX0_times_58 : decode cX0_times 58 = .ok (.invokevirtual 40, 3) := by decide +kernel
theorem dX0_times_61 : decode cX0_times 61 = .ok (.return_, 1) := by decide +kernel
theorem dX0_addTimes_0 : decode cX0_addTimes 0 = .ok (.aload_n 0, 1) := by decide +kernel
theorem dX0_addTimes_1 : decode cX0_addTimes 1 = .ok (.aload_n 1, 1) := by decide +kernel
theorem dX0_addTimes_2 : decode cX0_addTimes 2 = .ok (.getfield 9, 3) := by decide +kernel
theorem dX0_addTimes_5 : decode cX0_addTimes 5 = .ok (.invokevirtual 43, 3) := by decide +kernel
theorem dX0_addTimes_8 : decode cX0_addTimes 8 = .ok (.lconst 0, 1) := by decide +kernel
theorem dX0_addTimes_9 : decode cX0_addTimes 9 = .ok (.lstore 4, 2) := by decide +kernel
theorem dX0_addTimes_11 : decode cX0_addTimes 11 = .ok (.iconst 0, 1) := by decide +kernel
theorem dX0_addTimes_12 : decode cX0_addTimes 12 = .ok (.istore 6, 2) := by decide +kernel
theorem dX0_addTimes_14 : decode cX0_addTimes 14 = .ok (.iload 6, 2) := by decide +kernel
theorem dX0_addTimes_16 : decode cX0_addTimes 16 = .ok (.aload_n 1, 1) := by decide +kernel
theorem dX0_addTimes_17 : decode cX0_addTimes 17 = .ok (.getfield 9, 3) := by decide +kernel
theorem dX0_addTimes_20 : decode cX0_addTimes 20 = .ok (.if_icmp .ge 60, 3) := by decide +kernel
theorem dX0_addTimes_23 : decode cX0_addTimes 23 = .ok (.iload 6, 2) := by decide +kernel
theorem dX0_addTimes_25 : decode cX0_addTimes 25 = .ok (.aload_n 0, 1) := by decide +kernel
theorem dX0_addTimes_26 : decode cX0_addTimes 26 = .ok (.getfield 9, 3) := by decide +kernel
theorem dX0_addTimes_29 : decode cX0_addTimes 29 = .ok (.if_icmp .ge 51, 3) := by decide +kernel
theorem dX0_addTimes_32 : decode cX0_addTimes 32 = .ok (.aload_n 0, 1) := by decide +kernel
theorem dX0_addTimes_33 : decode cX0_addTimes 33 = .ok (.getfield 21, 3) := by decide +kernel
theorem dX0_addTimes_36 : decode cX0_addTimes 36 = .ok (.iload 6, 2) := by decide +kernel
theorem dX0_addTimes_38 : decode cX0_addTimes 38 = .ok (.laload, 1) := by decide +kernel
theorem dX0_addTimes_39 : decode cX0_addTimes 39 = .ok (.aload_n 1, 1) := by decide +kernel
theorem dX0_addTimes_40 : decode cX0_addTimes 40 = .ok (.getfield 21, 3) := by decide +kernel
theorem dX0_addTimes_43 : decode cX0_addTimes 43 = .ok (.iload 6, 2) := by decide +kernel
theorem dX0_addTimes_45 : decode cX0_addTimes 45 = .ok (.laload, 1) := by decide +kernel
theorem dX0_addTimes_46 : decode cX0_addTimes 46 = .ok (.lload_n 2, 1) := by decide +kernel
theorem dX0_addTimes_47 : decode cX0_addTimes 47 = .ok (.lmul, 1) := by decide +kernel
theorem dX0_addTimes_48 : decode cX0_addTimes 48 = .ok (.ladd, 1) := by decide +kernel
theorem dX0_addTimes_49 : decode cX0_addTimes 49 = .ok (.lload 4, 2) := by decide +kernel
theorem dX0_addTimes_51 : decode cX0_addTimes 51 = .ok (.ladd, 1) := by decide +kernel
theorem dX0_addTimes_52 : decode cX0_addTimes 52 = .ok (.lstore 7, 2) := by decide +kernel
theorem dX0_addTimes_54 : decode cX0_addTimes 54 = .ok (.aload_n 0, 1) := by decide +kernel
theorem dX0_addTimes_55 : decode cX0_addTimes 55 = .ok (.getfield 21, 3) := by decide +kernel
theorem dX0_addTimes_58 : decode cX0_addTimes 58 = .ok (.iload 6, 2) := by decide +kernel
theorem dX0_addTimes_60 : decode cX0_addTimes 60 = .ok (.lload 7, 2) := by decide +kernel
theorem dX0_addTimes_62 : decode cX0_addTimes 62 = .ok (.ldc2_w 38, 3) := by decide +kernel
theorem dX0_addTimes_65 : decode cX0_addTimes 65 = .ok (.land, 1) := by decide +kernel
theorem dX0_addTimes_66 : decode cX0_addTimes 66 = .ok (.lastore, 1) := by decide +kernel
theorem dX0_addTimes_67 : decode cX0_addTimes 67 = .ok (.lload 7, 2) := by decide +kernel
theorem dX0_addTimes_69 : decode cX0_addTimes 69 = .ok (.bipush 30, 2) := by decide +kernel
theorem dX0_addTimes_71 : decode cX0_addTimes 71 = .ok (.lshr, 1) := by decide +kernel
theorem dX0_addTimes_72 : decode cX0_addTimes 72 = .ok (.lstore 4, 2) := by decide +kernel
theorem dX0_addTimes_74 : decode cX0_addTimes 74 = .ok (.iinc 6 1, 3) := by decide +kernel
theorem dX0_addTimes_77 : decode cX0_addTimes 77 = .ok (.goto (-63), 3) := by decide +kernel
theorem dX0_addTimes_80 : decode cX0_addTimes 80 = .ok (.aload_n 0, 1) := by decide +kernel
theorem dX0_addTimes_81 : decode cX0_addTimes 81 = .ok (.aload_n 1, 1) := by decide +kernel
theorem dX0_addTimes_82 : decode cX0_addTimes 82 = .ok (.getfield 9, 3) := by decide +kernel
theorem dX0_addTimes_85 : decode cX0_addTimes 85 = .ok (.lload 4, 2) := by decide +kernel
theorem dX0_addTimes_87 : decode cX0_addTimes 87 = .ok (.invokevirtual 47, 3) := by decide +kernel
theorem dX0_addTimes_90 : decode cX0_addTimes 90 = .ok (.aload_n 0, 1) := by decide +kernel
theorem dX0_addTimes_91 : decode cX0_addTimes 91 = .ok (.invokevirtual 40, 3) := by decide +kernel
theorem dX0_addTimes_94 : decode cX0_addTimes 94 = .ok (.return_, 1) := by decide +kernel
theorem dX0_setProduct_0 : decode cX0_setProduct 0 = .ok (.aload_n 0, 1) := by decide +kernel
theorem dX0_setProduct_1 : decode cX0_setProduct 1 = .ok (.iconst 0, 1) := by decide +kernel
theorem dX0_setProduct_2 : decode cX0_setProduct 2 = .ok (.putfield 9, 3) := by decide +kernel
theorem dX0_setProduct_5 : decode cX0_setProduct 5 = .ok (.aload_n 0, 1) := by decide +kernel
theorem dX0_setProduct_6 : decode cX0_setProduct 6 = .ok (.aload_n 1, 1) := by decide +kernel
theorem dX0_setProduct_7 : decode cX0_setProduct 7 = .ok (.aload_n 2, 1) := by decide +kernel
theorem dX0_setProduct_8 : decode cX0_setProduct 8 = .ok (.invokevirtual 51, 3) := by decide +kernel
theorem dX0_setProduct_11 : decode cX0_setProduct 11 = .ok (.return_, 1) := by decide +kernel
theorem dX0_addProduct_0 : decode cX0_addProduct 0 = .ok (.aload_n 0, 1) := by decide +kernel
theorem dX0_addProduct_1 : decode cX0_addProduct 1 = .ok (.aload_n 1, 1) := by decide +kernel
theorem dX0_addProduct_2 : decode cX0_addProduct 2 = .ok (.getfield 9, 3) := by decide +kernel
theorem dX0_addProduct_5 : decode cX0_addProduct 5 = .ok (.aload_n 2, 1) := by decide +kernel
theorem dX0_addProduct_6 : decode cX0_addProduct 6 = .ok (.getfield 9, 3) := by decide +kernel
theorem dX0_addProduct_9 : decode cX0_addProduct 9 = .ok (.iadd, 1) := by decide +kernel
theorem dX0_addProduct_10 : decode cX0_addProduct 10 = .ok (.invokevirtual 43, 3) := by decide +kernel
theorem dX0_addProduct_13 : decode cX0_addProduct 13 = .ok (.iconst 0, 1) := by decide +kernel
theorem dX0_addProduct_14 : decode cX0_addProduct 14 = .ok (.istore_n 3, 1) := by decide +kernel
theorem dX0_addProduct_15 : decode cX0_addProduct 15 = .ok (.iload_n 3, 1) := by decide +kernel
theorem dX0_addProduct_16 : decode cX0_addProduct 16 = .ok (.aload_n 1, 1) := by decide +kernel
theorem dX0_addProduct_17 : decode cX0_addProduct 17 = .ok (.getfield 9, 3) := by decide +kernel
theorem dX0_addProduct_20 : decode cX0_addProduct 20 = .ok (.if_icmp .ge 108, 3) := by decide +kernel
theorem dX0_addProduct_23 : decode cX0_addProduct 23 = .ok (.aload_n 1, 1) := by decide +kernel
theorem dX0_addProduct_24 : decode cX0_addProduct 24 = .ok (.getfield 21, 3) := by decide +kernel
theorem dX0_addProduct_27 : decode cX0_addProduct 27 = .ok (.iload_n 3, 1) := by decide +kernel
theorem dX0_addProduct_28 : decode cX0_addProduct 28 = .ok (.laload, 1) := by decide +kernel
theorem dX0_addProduct_29 : decode cX0_addProduct 29 = .ok (.lstore 4, 2) := by decide +kernel
theorem dX0_addProduct_31 : decode cX0_addProduct 31 = .ok (.lconst 0, 1) := by decide +kernel
theorem dX0_addProduct_32 : decode cX0_addProduct 32 = .ok (.lstore 6, 2) := by decide +kernel
theorem dX0_addProduct_34 : decode cX0_addProduct 34 = .ok (.iconst 0, 1) := by decide +kernel
theorem dX0_addProduct_35 : decode cX0_addProduct 35 = .ok (.istore 8, 2) := by decide +kernel
theorem dX0_addProduct_37 : decode cX0_addProduct 37 = .ok (.iload 8, 2) := by decide +kernel
theorem dX0_addProduct_39 : decode cX0_addProduct 39 = .ok (.aload_n 2, 1) := by decide +kernel
theorem dX0_addProduct_40 : decode cX0_addProduct 40 = .ok (.getfield 9, 3) := by decide +kernel
theorem dX0_addProduct_43 : decode cX0_addProduct 43 = .ok (.if_icmp .ge 67, 3) := by decide +kernel
theorem dX0_addProduct_46 : decode cX0_addProduct 46 = .ok (.iload_n 3, 1) := by decide +kernel
theorem dX0_addProduct_47 : decode cX0_addProduct 47 = .ok (.iload 8, 2) := by decide +kernel
theorem dX0_addProduct_49 : decode cX0_addProduct 49 = .ok (.iadd, 1) := by decide +kernel
theorem dX0_addProduct_50 : decode cX0_addProduct 50 = .ok (.aload_n 0, 1) := by decide +kernel
theorem dX0_addProduct_51 : decode cX0_addProduct 51 = .ok (.getfield 9, 3) := by decide +kernel
theorem dX0_addProduct_54 : decode cX0_addProduct 54 = .ok (.if_icmp .ge 56, 3) := by decide +kernel
theorem dX0_addProduct_57 : decode cX0_addProduct 57 = .ok (.aload_n 0, 1) := by decide +kernel
theorem dX0_addProduct_58 : decode cX0_addProduct 58 = .ok (.getfield 21, 3) := by decide +kernel
theorem dX0_addProduct_61 : decode cX0_addProduct 61 = .ok (.iload_n 3, 1) := by decide +kernel
theorem dX0_addProduct_62 : decode cX0_addProduct 62 = .ok (.iload 8, 2) := by decide +kernel
theorem dX0_addProduct_64 : decode cX0_addProduct 64 = .ok (.iadd, 1) := by decide +kernel
theorem dX0_addProduct_65 : decode cX0_addProduct 65 = .ok (.laload, 1) := by decide +kernel
theorem dX0_addProduct_66 : decode cX0_addProduct 66 = .ok (.lload 4, 2) := by decide +kernel
theorem dX0_addProduct_68 : decode cX0_addProduct 68 = .ok (.aload_n 2, 1) := by decide +kernel
theorem dX0_addProduct_69 : decode cX0_addProduct 69 = .ok (.getfield 21, 3) := by decide +kernel
theorem dX0_addProduct_72 : decode cX0_addProduct 72 = .ok (.iload 8, 2) := by decide +kernel
theorem dX0_addProduct_74 : decode cX0_addProduct 74 = .ok (.laload, 1) := by decide +kernel
theorem dX0_addProduct_75 : decode cX0_addProduct 75 = .ok (.lmul, 1) := by decide +kernel
theorem dX0_addProduct_76 : decode cX0_addProduct 76 = .ok (.ladd, 1) := by decide +kernel
theorem dX0_addProduct_77 : decode cX0_addProduct 77 = .ok (.lload 6, 2) := by decide +kernel
theorem dX0_addProduct_79 : decode cX0_addProduct 79 = .ok (.ladd, 1) := by decide +kernel
theorem dX0_addProduct_80 : decode cX0_addProduct 80 = .ok (.lstore 9, 2) := by decide +kernel
theorem dX0_addProduct_82 : decode cX0_addProduct 82 = .ok (.aload_n 0, 1) := by decide +kernel
theorem dX0_addProduct_83 : decode cX0_addProduct 83 = .ok (.getfield 21, 3) := by decide +kernel
theorem dX0_addProduct_86 : decode cX0_addProduct 86 = .ok (.iload_n 3, 1) := by decide +kernel
theorem dX0_addProduct_87 : decode cX0_addProduct 87 = .ok (.iload 8, 2) := by decide +kernel
theorem dX0_addProduct_89 : decode cX0_addProduct 89 = .ok (.iadd, 1) := by decide +kernel
theorem dX0_addProduct_90 : decode cX0_addProduct 90 = .ok (.lload 9, 2) := by decide +kernel
theorem dX0_addProduct_92 : decode cX0_addProduct 92 = .ok (.ldc2_w 38, 3) := by decide +kernel
theorem dX0_addProduct_95 : decode cX0_addProduct 95 = .ok (.land, 1) := by decide +kernel
theorem dX0_addProduct_96 : decode cX0_addProduct 96 = .ok (.lastore, 1) := by decide +kernel
theorem dX0_addProduct_97 : decode cX0_addProduct 97 = .ok (.lload 9, 2) := by decide +kernel
theorem dX0_addProduct_99 : decode cX0_addProduct 99 = .ok (.bipush 30, 2) := by decide +kernel
theorem dX0_addProduct_101 : decode cX0_addProduct 101 = .ok (.lshr, 1) := by decide +kernel
theorem dX0_addProduct_102 : decode cX0_addProduct 102 = .ok (.lstore 6, 2) := by decide +kernel
theorem dX0_addProduct_104 : decode cX0_addProduct 104 = .ok (.iinc 8 1, 3) := by decide +kernel
theorem dX0_addProduct_107 : decode cX0_addProduct 107 = .ok (.goto (-70), 3) := by decide +kernel
theorem dX0_addProduct_110 : decode cX0_addProduct 110 = .ok (.aload_n 0, 1) := by decide +kernel
theorem dX0_addProduct_111 : decode cX0_addProduct 111 = .ok (.iload_n 3, 1) := by decide +kernel
theorem dX0_addProduct_112 : decode cX0_addProduct 112 = .ok (.aload_n 2, 1) := by decide +kernel
theorem dX0_addProduct_113 : decode cX0_addProduct 113 = .ok (.getfield 9, 3) := by decide +kernel
theorem dX0_addProduct_116 : decode cX0_addProduct 116 = .ok (.iadd, 1) := by decide +kernel
theorem dX0_addProduct_117 : decode cX0_addProduct 117 = .ok (.lload 6, 2) := by decide +kernel
theorem dX0_addProduct_119 : decode cX0_addProduct 119 = .ok (.invokevirtual 47, 3) := by decide +kernel
theorem dX0_addProduct_122 : decode cX0_addProduct 122 = .ok (.iinc 3 1, 3) := by decide +kernel
theorem dX0_addProduct_125 : decode cX0_addProduct 125 = .ok (.goto (-110), 3) := by decide +kernel
theorem dX0_addProduct_128 : decode cX0_addProduct 128 = .ok (.aload_n 0, 1) := by decide +kernel
theorem dX0_addProduct_129 : decode cX0_addProduct 129 = .ok (.invokevirtual 40, 3) := by decide +kernel
theorem dX0_addProduct_132 : decode cX0_addProduct 132 = .ok (.return_, 1) := by decide +kernel
theorem dX0_carryFrom_0 : decode cX0_carryFrom 0 = .ok (.lload_n 2, 1) := by decide +kernel
theorem dX0_carryFrom_1 : decode cX0_carryFrom 1 = .ok (.lstore 4, 2) := by decide +kernel
theorem dX0_carryFrom_3 : decode cX0_carryFrom 3 = .ok (.iload_n 1, 1) := by decide +kernel
theorem dX0_carryFrom_4 : decode cX0_carryFrom 4 = .ok (.istore 6, 2) := by decide +kernel
theorem dX0_carryFrom_6 : decode cX0_carryFrom 6 = .ok (.iload 6, 2) := by decide +kernel
theorem dX0_carryFrom_8 : decode cX0_carryFrom 8 = .ok (.aload_n 0, 1) := by decide +kernel
theorem dX0_carryFrom_9 : decode cX0_carryFrom 9 = .ok (.getfield 9, 3) := by decide +kernel
theorem dX0_carryFrom_12 : decode cX0_carryFrom 12 = .ok (.if_icmp .ge 48, 3) := by decide +kernel
theorem dX0_carryFrom_15 : decode cX0_carryFrom 15 = .ok (.lload 4, 2) := by decide +kernel
theorem dX0_carryFrom_17 : decode cX0_carryFrom 17 = .ok (.lconst 0, 1) := by decide +kernel
theorem dX0_carryFrom_18 : decode cX0_carryFrom 18 = .ok (.lcmp, 1) := by decide +kernel
theorem dX0_carryFrom_19 : decode cX0_carryFrom 19 = .ok (.ifCond .eq 41, 3) := by decide +kernel
theorem dX0_carryFrom_22 : decode cX0_carryFrom 22 = .ok (.aload_n 0, 1) := by decide +kernel
theorem dX0_carryFrom_23 : decode cX0_carryFrom 23 = .ok (.getfield 21, 3) := by decide +kernel
theorem dX0_carryFrom_26 : decode cX0_carryFrom 26 = .ok (.iload 6, 2) := by decide +kernel
theorem dX0_carryFrom_28 : decode cX0_carryFrom 28 = .ok (.laload, 1) := by decide +kernel
theorem dX0_carryFrom_29 : decode cX0_carryFrom 29 = .ok (.lload 4, 2) := by decide +kernel
theorem dX0_carryFrom_31 : decode cX0_carryFrom 31 = .ok (.ladd, 1) := by decide +kernel
theorem dX0_carryFrom_32 : decode cX0_carryFrom 32 = .ok (.lstore 7, 2) := by decide +kernel
theorem dX0_carryFrom_34 : decode cX0_carryFrom 34 = .ok (.aload_n 0, 1) := by decide +kernel
theorem dX0_carryFrom_35 : decode cX0_carryFrom 35 = .ok (.getfield 21, 3) := by decide +kernel
theorem dX0_carryFrom_38 : decode cX0_carryFrom 38 = .ok (.iload 6, 2) := by decide +kernel
theorem dX0_carryFrom_40 : decode cX0_carryFrom 40 = .ok (.lload 7, 2) := by decide +kernel
theorem dX0_carryFrom_42 : decode cX0_carryFrom 42 = .ok (.ldc2_w 38, 3) := by decide +kernel
theorem dX0_carryFrom_45 : decode cX0_carryFrom 45 = .ok (.land, 1) := by decide +kernel
theorem dX0_carryFrom_46 : decode cX0_carryFrom 46 = .ok (.lastore, 1) := by decide +kernel
theorem dX0_carryFrom_47 : decode cX0_carryFrom 47 = .ok (.lload 7, 2) := by decide +kernel
theorem dX0_carryFrom_49 : decode cX0_carryFrom 49 = .ok (.bipush 30, 2) := by decide +kernel
theorem dX0_carryFrom_51 : decode cX0_carryFrom 51 = .ok (.lshr, 1) := by decide +kernel
theorem dX0_carryFrom_52 : decode cX0_carryFrom 52 = .ok (.lstore 4, 2) := by decide +kernel
theorem dX0_carryFrom_54 : decode cX0_carryFrom 54 = .ok (.iinc 6 1, 3) := by decide +kernel
theorem dX0_carryFrom_57 : decode cX0_carryFrom 57 = .ok (.goto (-51), 3) := by decide +kernel
theorem dX0_carryFrom_60 : decode cX0_carryFrom 60 = .ok (.aload_n 0, 1) := by decide +kernel
theorem dX0_carryFrom_61 : decode cX0_carryFrom 61 = .ok (.lload 4, 2) := by decide +kernel
theorem dX0_carryFrom_63 : decode cX0_carryFrom 63 = .ok (.invokevirtual 25, 3) := by decide +kernel
theorem dX0_carryFrom_66 : decode cX0_carryFrom 66 = .ok (.return_, 1) := by decide +kernel
theorem dX0_subtract_0 : decode cX0_subtract 0 = .ok (.lconst 0, 1) := by decide +kernel
theorem dX0_subtract_1 : decode cX0_subtract 1 = .ok (.lstore_n 2, 1) := by decide +kernel
theorem dX0_subtract_2 : decode cX0_subtract 2 = .ok (.iconst 0, 1) := by decide +kernel
theorem dX0_subtract_3 : decode cX0_subtract 3 = .ok (.istore 4, 2) := by decide +kernel
theorem dX0_subtract_5 : decode cX0_subtract 5 = .ok (.iload 4, 2) := by decide +kernel
theorem dX0_subtract_7 : decode cX0_subtract 7 = .ok (.aload_n 1, 1) := by decide +kernel
theorem dX0_subtract_8 : decode cX0_subtract 8 = .ok (.getfield 9, 3) := by decide +kernel
theorem dX0_subtract_11 : decode cX0_subtract 11 = .ok (.if_icmp .ge 56, 3) := by decide +kernel
theorem dX0_subtract_14 : decode cX0_subtract 14 = .ok (.iload 4, 2) := by decide +kernel
theorem dX0_subtract_16 : decode cX0_subtract 16 = .ok (.aload_n 0, 1) := by decide +kernel
theorem dX0_subtract_17 : decode cX0_subtract 17 = .ok (.getfield 9, 3) := by decide +kernel
theorem dX0_subtract_20 : decode cX0_subtract 20 = .ok (.if_icmp .ge 47, 3) := by decide +kernel
theorem dX0_subtract_23 : decode cX0_subtract 23 = .ok (.aload_n 0, 1) := by decide +kernel
theorem dX0_subtract_24 : decode cX0_subtract 24 = .ok (.getfield 21, 3) := by decide +kernel
theorem dX0_subtract_27 : decode cX0_subtract 27 = .ok (.iload 4, 2) := by decide +kernel
theorem dX0_subtract_29 : decode cX0_subtract 29 = .ok (.laload, 1) := by decide +kernel
theorem dX0_subtract_30 : decode cX0_subtract 30 = .ok (.aload_n 1, 1) := by decide +kernel
theorem dX0_subtract_31 : decode cX0_subtract 31 = .ok (.getfield 21, 3) := by decide +kernel
theorem dX0_subtract_34 : decode cX0_subtract 34 = .ok (.iload 4, 2) := by decide +kernel
theorem dX0_subtract_36 : decode cX0_subtract 36 = .ok (.laload, 1) := by decide +kernel
theorem dX0_subtract_37 : decode cX0_subtract 37 = .ok (.lsub, 1) := by decide +kernel
theorem dX0_subtract_38 : decode cX0_subtract 38 = .ok (.lload_n 2, 1) := by decide +kernel
theorem dX0_subtract_39 : decode cX0_subtract 39 = .ok (.ladd, 1) := by decide +kernel
theorem dX0_subtract_40 : decode cX0_subtract 40 = .ok (.lstore 5, 2) := by decide +kernel
theorem dX0_subtract_42 : decode cX0_subtract 42 = .ok (.aload_n 0, 1) := by decide +kernel
theorem dX0_subtract_43 : decode cX0_subtract 43 = .ok (.getfield 21, 3) := by decide +kernel
theorem dX0_subtract_46 : decode cX0_subtract 46 = .ok (.iload 4, 2) := by decide +kernel
theorem dX0_subtract_48 : decode cX0_subtract 48 = .ok (.lload 5, 2) := by decide +kernel
theorem dX0_subtract_50 : decode cX0_subtract 50 = .ok (.ldc2_w 38, 3) := by decide +kernel
theorem dX0_subtract_53 : decode cX0_subtract 53 = .ok (.land, 1) := by decide +kernel
theorem dX0_subtract_54 : decode cX0_subtract 54 = .ok (.lastore, 1) := by decide +kernel
theorem dX0_subtract_55 : decode cX0_subtract 55 = .ok (.lload 5, 2) := by decide +kernel
theorem dX0_subtract_57 : decode cX0_subtract 57 = .ok (.bipush 30, 2) := by decide +kernel
theorem dX0_subtract_59 : decode cX0_subtract 59 = .ok (.lshr, 1) := by decide +kernel
theorem dX0_subtract_60 : decode cX0_subtract 60 = .ok (.lstore_n 2, 1) := by decide +kernel
theorem dX0_subtract_61 : decode cX0_subtract 61 = .ok (.iinc 4 1, 3) := by decide +kernel
theorem dX0_subtract_64 : decode cX0_subtract 64 = .ok (.goto (-59), 3) := by decide +kernel
theorem dX0_subtract_67 : decode cX0_subtract 67 = .ok (.aload_n 0, 1) := by decide +kernel
theorem dX0_subtract_68 : decode cX0_subtract 68 = .ok (.aload_n 1, 1) := by decide +kernel
theorem dX0_subtract_69 : decode cX0_subtract 69 = .ok (.getfield 9, 3) := by decide +kernel
theorem dX0_subtract_72 : decode cX0_subtract 72 = .ok (.lload_n 2, 1) := by decide +kernel
theorem dX0_subtract_73 : decode cX0_subtract 73 = .ok (.invokevirtual 47, 3) := by decide +kernel
theorem dX0_subtract_76 : decode cX0_subtract 76 = .ok (.aload_n 0, 1) := by decide +kernel
theorem dX0_subtract_77 : decode cX0_subtract 77 = .ok (.invokevirtual 40, 3) := by decide +kernel
theorem dX0_subtract_80 : decode cX0_subtract 80 = .ok (.return_, 1) := by decide +kernel
theorem dX0_divideSmall_0 : decode cX0_divideSmall 0 = .ok (.lload_n 1, 1) := by decide +kernel
theorem dX0_divideSmall_1 : decode cX0_divideSmall 1 = .ok (.lconst 0, 1) := by decide +kernel
theorem dX0_divideSmall_2 : decode cX0_divideSmall 2 = .ok (.lcmp, 1) := by decide +kernel
theorem dX0_divideSmall_3 : decode cX0_divideSmall 3 = .ok (.ifCond .gt 5, 3) := by decide +kernel
theorem dX0_divideSmall_6 : decode cX0_divideSmall 6 = .ok (.lconst 0, 1) := by decide +kernel
theorem dX0_divideSmall_7 : decode cX0_divideSmall 7 = .ok (.lreturn, 1) := by decide +kernel
theorem dX0_divideSmall_8 : decode cX0_divideSmall 8 = .ok (.lconst 0, 1) := by decide +kernel
theorem dX0_divideSmall_9 : decode cX0_divideSmall 9 = .ok (.lstore_n 3, 1) := by decide +kernel
theorem dX0_divideSmall_10 : decode cX0_divideSmall 10 = .ok (.aload_n 0, 1) := by decide +kernel
theorem dX0_divideSmall_11 : decode cX0_divideSmall 11 = .ok (.getfield 9, 3) := by decide +kernel
theorem dX0_divideSmall_14 : decode cX0_divideSmall 14 = .ok (.iconst 1, 1) := by decide +kernel
theorem dX0_divideSmall_15 : decode cX0_divideSmall 15 = .ok (.isub, 1) := by decide +kernel
theorem dX0_divideSmall_16 : decode cX0_divideSmall 16 = .ok (.istore 5, 2) := by decide +kernel
theorem dX0_divideSmall_18 : decode cX0_divideSmall 18 = .ok (.iload 5, 2) := by decide +kernel
theorem dX0_divideSmall_20 : decode cX0_divideSmall 20 = .ok (.ifCond .lt 39, 3) := by decide +kernel
theorem dX0_divideSmall_23 : decode cX0_divideSmall 23 = .ok (.lload_n 3, 1) := by decide +kernel
theorem dX0_divideSmall_24 : decode cX0_divideSmall 24 = .ok (.bipush 30, 2) := by decide +kernel
theorem dX0_divideSmall_26 : decode cX0_divideSmall 26 = .ok (.lshl, 1) := by decide +kernel
theorem dX0_divideSmall_27 : decode cX0_divideSmall 27 = .ok (.aload_n 0, 1) := by decide +kernel
theorem dX0_divideSmall_28 : decode cX0_divideSmall 28 = .ok (.getfield 21, 3) := by decide +kernel
theorem dX0_divideSmall_31 : decode cX0_divideSmall 31 = .ok (.iload 5, 2) := by decide +kernel
theorem dX0_divideSmall_33 : decode cX0_divideSmall 33 = .ok (.laload, 1) := by decide +kernel
theorem dX0_divideSmall_34 : decode cX0_divideSmall 34 = .ok (.ladd, 1) := by decide +kernel
theorem dX0_divideSmall_35 : decode cX0_divideSmall 35 = .ok (.lstore 6, 2) := by decide +kernel
theorem dX0_divideSmall_37 : decode cX0_divideSmall 37 = .ok (.aload_n 0, 1) := by decide +kernel
theorem dX0_divideSmall_38 : decode cX0_divideSmall 38 = .ok (.getfield 21, 3) := by decide +kernel
theorem dX0_divideSmall_41 : decode cX0_divideSmall 41 = .ok (.iload 5, 2) := by decide +kernel
theorem dX0_divideSmall_43 : decode cX0_divideSmall 43 = .ok (.lload 6, 2) := by decide +kernel
theorem dX0_divideSmall_45 : decode cX0_divideSmall 45 = .ok (.lload_n 1, 1) := by decide +kernel
theorem dX0_divideSmall_46 : decode cX0_divideSmall 46 = .ok (.ldiv, 1) := by decide +kernel
theorem dX0_divideSmall_47 : decode cX0_divideSmall 47 = .ok (.lastore, 1) := by decide +kernel
theorem dX0_divideSmall_48 : decode cX0_divideSmall 48 = .ok (.lload 6, 2) := by decide +kernel
theorem dX0_divideSmall_50 : decode cX0_divideSmall 50 = .ok (.lload_n 1, 1) := by decide +kernel
theorem dX0_divideSmall_51 : decode cX0_divideSmall 51 = .ok (.lrem, 1) := by decide +kernel
theorem dX0_divideSmall_52 : decode cX0_divideSmall 52 = .ok (.lstore_n 3, 1) := by decide +kernel
theorem dX0_divideSmall_53 : decode cX0_divideSmall 53 = .ok (.iinc 5 (-1), 3) := by decide +kernel
theorem dX0_divideSmall_56 : decode cX0_divideSmall 56 = .ok (.goto (-38), 3) := by decide +kernel
theorem dX0_divideSmall_59 : decode cX0_divideSmall 59 = .ok (.aload_n 0, 1) := by decide +kernel
theorem dX0_divideSmall_60 : decode cX0_divideSmall 60 = .ok (.invokevirtual 40, 3) := by decide +kernel
theorem dX0_divideSmall_63 : decode cX0_divideSmall 63 = .ok (.lload_n 3, 1) := by decide +kernel
theorem dX0_divideSmall_64 : decode cX0_divideSmall 64 = .ok (.lreturn, 1) := by decide +kernel
theorem dX0_rest_0 : decode cX0_rest 0 = .ok (.iload_n 1, 1) := by decide +kernel
theorem dX0_rest_1 : decode cX0_rest 1 = .ok (.ifCond .gt 5, 3) := by decide +kernel
theorem dX0_rest_4 : decode cX0_rest 4 = .ok (.iconst 0, 1) := by decide +kernel
theorem dX0_rest_5 : decode cX0_rest 5 = .ok (.ireturn, 1) := by decide +kernel
theorem dX0_rest_6 : decode cX0_rest 6 = .ok (.lconst 0, 1) := by decide +kernel
theorem dX0_rest_7 : decode cX0_rest 7 = .ok (.lstore_n 2, 1) := by decide +kernel
theorem dX0_rest_8 : decode cX0_rest 8 = .ok (.aload_n 0, 1) := by decide +kernel
theorem dX0_rest_9 : decode cX0_rest 9 = .ok (.getfield 9, 3) := by decide +kernel
theorem dX0_rest_12 : decode cX0_rest 12 = .ok (.iconst 1, 1) := by decide +kernel
theorem dX0_rest_13 : decode cX0_rest 13 = .ok (.isub, 1) := by decide +kernel
theorem dX0_rest_14 : decode cX0_rest 14 = .ok (.istore 4, 2) := by decide +kernel
theorem dX0_rest_16 : decode cX0_rest 16 = .ok (.iload 4, 2) := by decide +kernel
theorem dX0_rest_18 : decode cX0_rest 18 = .ok (.ifCond .lt 25, 3) := by decide +kernel
theorem dX0_rest_21 : decode cX0_rest 21 = .ok (.lload_n 2, 1) := by decide +kernel
theorem dX0_rest_22 : decode cX0_rest 22 = .ok (.bipush 30, 2) := by decide +kernel
theorem dX0_rest_24 : decode cX0_rest 24 = .ok (.lshl, 1) := by decide +kernel
theorem dX0_rest_25 : decode cX0_rest 25 = .ok (.aload_n 0, 1) := by decide +kernel
theorem dX0_rest_26 : decode cX0_rest 26 = .ok (.getfield 21, 3) := by decide +kernel
theorem dX0_rest_29 : decode cX0_rest 29 = .ok (.iload 4, 2) := by decide +kernel
theorem dX0_rest_31 : decode cX0_rest 31 = .ok (.laload, 1) := by decide +kernel
theorem dX0_rest_32 : decode cX0_rest 32 = .ok (.ladd, 1) := by decide +kernel
theorem dX0_rest_33 : decode cX0_rest 33 = .ok (.iload_n 1, 1) := by decide +kernel
theorem dX0_rest_34 : decode cX0_rest 34 = .ok (.i2l, 1) := by decide +kernel
theorem dX0_rest_35 : decode cX0_rest 35 = .ok (.lrem, 1) := by decide +kernel
theorem dX0_rest_36 : decode cX0_rest 36 = .ok (.lstore_n 2, 1) := by decide +kernel
theorem dX0_rest_37 : decode cX0_rest 37 = .ok (.iinc 4 (-1), 3) := by decide +kernel
theorem dX0_rest_40 : decode cX0_rest 40 = .ok (.goto (-24), 3) := by decide +kernel
theorem dX0_rest_43 : decode cX0_rest 43 = .ok (.lload_n 2, 1) := by decide +kernel
theorem dX0_rest_44 : decode cX0_rest 44 = .ok (.l2i, 1) := by decide +kernel
theorem dX0_rest_45 : decode cX0_rest 45 = .ok (.ireturn, 1) := by decide +kernel
theorem dX0_bitsOfLimb_0 : decode cX0_bitsOfLimb 0 = .ok (.iload_n 1, 1) := by decide +kernel
theorem dX0_bitsOfLimb_1 : decode cX0_bitsOfLimb 1 = .ok (.ifCond .lt 11, 3) := by decide +kernel
theorem dX0_bitsOfLimb_4 : decode cX0_bitsOfLimb 4 = .ok (.iload_n 1, 1) := by decide +kernel
theorem dX0_bitsOfLimb_5 : decode cX0_bitsOfLimb 5 = .ok (.aload_n 0, 1) := by decide +kernel
theorem dX0_bitsOfLimb_6 : decode cX0_bitsOfLimb 6 = .ok (.getfield 9, 3) := by decide +kernel
theorem dX0_bitsOfLimb_9 : decode cX0_bitsOfLimb 9 = .ok (.if_icmp .lt 5, 3) := by decide +kernel
theorem dX0_bitsOfLimb_12 : decode cX0_bitsOfLimb 12 = .ok (.lconst 0, 1) := by decide +kernel
theorem dX0_bitsOfLimb_13 : decode cX0_bitsOfLimb 13 = .ok (.lreturn, 1) := by decide +kernel
theorem dX0_bitsOfLimb_14 : decode cX0_bitsOfLimb 14 = .ok (.iload_n 1, 1) := by decide +kernel
theorem dX0_bitsOfLimb_15 : decode cX0_bitsOfLimb 15 = .ok (.bipush 32, 2) := by decide +kernel
theorem dX0_bitsOfLimb_17 : decode cX0_bitsOfLimb 17 = .ok (.imul, 1) := by decide +kernel
theorem dX0_bitsOfLimb_18 : decode cX0_bitsOfLimb 18 = .ok (.bipush 30, 2) := by decide +kernel
theorem dX0_bitsOfLimb_20 : decode cX0_bitsOfLimb 20 = .ok (.idiv, 1) := by decide +kernel
theorem dX0_bitsOfLimb_21 : decode cX0_bitsOfLimb 21 = .ok (.istore_n 2, 1) := by decide +kernel
theorem dX0_bitsOfLimb_22 : decode cX0_bitsOfLimb 22 = .ok (.iload_n 1, 1) := by decide +kernel
theorem dX0_bitsOfLimb_23 : decode cX0_bitsOfLimb 23 = .ok (.bipush 32, 2) := by decide +kernel
theorem dX0_bitsOfLimb_25 : decode cX0_bitsOfLimb 25 = .ok (.imul, 1) := by decide +kernel
theorem dX0_bitsOfLimb_26 : decode cX0_bitsOfLimb 26 = .ok (.bipush 30, 2) := by decide +kernel
theorem dX0_bitsOfLimb_28 : decode cX0_bitsOfLimb 28 = .ok (.irem, 1) := by decide +kernel
theorem dX0_bitsOfLimb_29 : decode cX0_bitsOfLimb 29 = .ok (.istore_n 3, 1) := by decide +kernel
theorem dX0_bitsOfLimb_30 : decode cX0_bitsOfLimb 30 = .ok (.aload_n 0, 1) := by decide +kernel
theorem dX0_bitsOfLimb_31 : decode cX0_bitsOfLimb 31 = .ok (.iload_n 2, 1) := by decide +kernel
theorem dX0_bitsOfLimb_32 : decode cX0_bitsOfLimb 32 = .ok (.invokevirtual 55, 3) := by decide +kernel
theorem dX0_bitsOfLimb_35 : decode cX0_bitsOfLimb 35 = .ok (.iload_n 3, 1) := by decide +kernel
theorem dX0_bitsOfLimb_36 : decode cX0_bitsOfLimb 36 = .ok (.lshr, 1) := by decide +kernel
theorem dX0_bitsOfLimb_37 : decode cX0_bitsOfLimb 37 = .ok (.lstore 4, 2) := by decide +kernel
theorem dX0_bitsOfLimb_39 : decode cX0_bitsOfLimb 39 = .ok (.aload_n 0, 1) := by decide +kernel
theorem dX0_bitsOfLimb_40 : decode cX0_bitsOfLimb 40 = .ok (.iload_n 2, 1) := by decide +kernel
theorem dX0_bitsOfLimb_41 : decode cX0_bitsOfLimb 41 = .ok (.iconst 1, 1) := by decide +kernel
theorem dX0_bitsOfLimb_42 : decode cX0_bitsOfLimb 42 = .ok (.iadd, 1) := by decide +kernel
theorem dX0_bitsOfLimb_43 : decode cX0_bitsOfLimb 43 = .ok (.invokevirtual 55, 3) := by decide +kernel
theorem dX0_bitsOfLimb_46 : decode cX0_bitsOfLimb 46 = .ok (.bipush 30, 2) := by decide +kernel
theorem dX0_bitsOfLimb_48 : decode cX0_bitsOfLimb 48 = .ok (.iload_n 3, 1) := by decide +kernel
theorem dX0_bitsOfLimb_49 : decode cX0_bitsOfLimb 49 = .ok (.isub, 1) := by decide +kernel
theorem dX0_bitsOfLimb_50 : decode cX0_bitsOfLimb 50 = .ok (.lshl, 1) := by decide +kernel
theorem dX0_bitsOfLimb_51 : decode cX0_bitsOfLimb 51 = .ok (.lstore 6, 2) := by decide +kernel
theorem dX0_bitsOfLimb_53 : decode cX0_bitsOfLimb 53 = .ok (.lload 4, 2) := by decide +kernel
theorem dX0_bitsOfLimb_55 : decode cX0_bitsOfLimb 55 = .ok (.lload 6, 2) := by decide +kernel
theorem dX0_bitsOfLimb_57 : decode cX0_bitsOfLimb 57 = .ok (.lor, 1) := by decide +kernel
theorem dX0_bitsOfLimb_58 : decode cX0_bitsOfLimb 58 = .ok (.ldc2_w 59, 3) := by decide +kernel
theorem dX0_bitsOfLimb_61 : decode cX0_bitsOfLimb 61 = .ok (.land, 1) := by decide +kernel
theorem dX0_bitsOfLimb_62 : decode cX0_bitsOfLimb 62 = .ok (.lreturn, 1) := by decide +kernel
theorem dX1_init_0 : decode cX1_init 0 = .ok (.aload_n 0, 1) := by decide +kernel
theorem dX1_init_1 : decode cX1_init 1 = .ok (.invokespecial 3, 3) := by decide +kernel
theorem dX1_init_4 : decode cX1_init 4 = .ok (.aload_n 0, 1) := by decide +kernel
theorem dX1_init_5 : decode cX1_init 5 = .ok (.new 9, 3) := by decide +kernel
theorem dX1_init_8 : decode cX1_init 8 = .ok (.dup, 1) := by decide +kernel
theorem dX1_init_9 : decode cX1_init 9 = .ok (.bipush 12, 2) := by decide +kernel
theorem dX1_init_11 : decode cX1_init 11 = .ok (.invokespecial 11, 3) := by decide +kernel
theorem dX1_init_14 : decode cX1_init 14 = .ok (.putfield 14, 3) := by decide +kernel
theorem dX1_init_17 : decode cX1_init 17 = .ok (.aload_n 0, 1) := by decide +kernel
theorem dX1_init_18 : decode cX1_init 18 = .ok (.new 9, 3) := by decide +kernel
theorem dX1_init_21 : decode cX1_init 21 = .ok (.dup, 1) := by decide +kernel
theorem dX1_init_22 : decode cX1_init 22 = .ok (.bipush 12, 2) := by decide +kernel
theorem dX1_init_24 : decode cX1_init 24 = .ok (.invokespecial 11, 3) := by decide +kernel
theorem dX1_init_27 : decode cX1_init 27 = .ok (.putfield 20, 3) := by decide +kernel
theorem dX1_init_30 : decode cX1_init 30 = .ok (.aload_n 0, 1) := by decide +kernel
theorem dX1_init_31 : decode cX1_init 31 = .ok (.new 9, 3) := by decide +kernel
theorem dX1_init_34 : decode cX1_init 34 = .ok (.dup, 1) := by decide +kernel
theorem dX1_init_35 : decode cX1_init 35 = .ok (.bipush 12, 2) := by decide +kernel
theorem dX1_init_37 : decode cX1_init 37 = .ok (.invokespecial 11, 3) := by decide +kernel
theorem dX1_init_40 : decode cX1_init 40 = .ok (.putfield 23, 3) := by decide +kernel
theorem dX1_init_43 : decode cX1_init 43 = .ok (.aload_n 0, 1) := by decide +kernel
theorem dX1_init_44 : decode cX1_init 44 = .ok (.new 9, 3) := by decide +kernel
theorem dX1_init_47 : decode cX1_init 47 = .ok (.dup, 1) := by decide +kernel
theorem dX1_init_48 : decode cX1_init 48 = .ok (.bipush 12, 2) := by decide +kernel
theorem dX1_init_50 : decode cX1_init 50 = .ok (.invokespecial 11, 3) := by decide +kernel
theorem dX1_init_53 : decode cX1_init 53 = .ok (.putfield 26, 3) := by decide +kernel
theorem dX1_init_56 : decode cX1_init 56 = .ok (.return_, 1) := by decide +kernel
theorem dX1_divide_0 : decode cX1_divide 0 = .ok (.aload_n 0, 1) := by decide +kernel
theorem dX1_divide_1 : decode cX1_divide 1 = .ok (.getfield 14, 3) := by decide +kernel
theorem dX1_divide_4 : decode cX1_divide 4 = .ok (.lconst 0, 1) := by decide +kernel
theorem dX1_divide_5 : decode cX1_divide 5 = .ok (.invokevirtual 29, 3) := by decide +kernel
theorem dX1_divide_8 : decode cX1_divide 8 = .ok (.aload_n 2, 1) := by decide +kernel
theorem dX1_divide_9 : decode cX1_divide 9 = .ok (.getfield 33, 3) := by decide +kernel
theorem dX1_divide_12 : decode cX1_divide 12 = .ok (.istore_n 3, 1) := by decide +kernel
theorem dX1_divide_13 : decode cX1_divide 13 = .ok (.iload_n 3, 1) := by decide +kernel
theorem dX1_divide_14 : decode cX1_divide 14 = .ok (.ifCond .eq 11, 3) := by decide +kernel
theorem dX1_divide_17 : decode cX1_divide 17 = .ok (.aload_n 1, 1) := by decide +kernel
theorem dX1_divide_18 : decode cX1_divide 18 = .ok (.aload_n 2, 1) := by decide +kernel
theorem dX1_divide_19 : decode cX1_divide 19 = .ok (.invokevirtual 37, 3) := by decide +kernel
theorem dX1_divide_22 : decode cX1_divide 22 = .ok (.ifCond .ge 4, 3) := by decide +kernel
theorem dX1_divide_25 : decode cX1_divide 25 = .ok (.return_, 1) := by decide +kernel
theorem dX1_divide_26 : decode cX1_divide 26 = .ok (.iload_n 3, 1) := by decide +kernel
theorem dX1_divide_27 : decode cX1_divide 27 = .ok (.iconst 1, 1) := by decide +kernel
theorem dX1_divide_28 : decode cX1_divide 28 = .ok (.if_icmp .ne 29, 3) := by decide +kernel
theorem dX1_divide_31 : decode cX1_divide 31 = .ok (.aload_n 0, 1) := by decide +kernel
theorem dX1_divide_32 : decode cX1_divide 32 = .ok (.getfield 14, 3) := by decide +kernel
theorem dX1_divide_35 : decode cX1_divide 35 = .ok (.aload_n 1, 1) := by decide +kernel
theorem dX1_divide_36 : decode cX1_divide 36 = .ok (.invokevirtual 41, 3) := by decide +kernel
theorem dX1_divide_39 : decode cX1_divide 39 = .ok (.aload_n 1, 1) := by decide +kernel
theorem dX1_divide_40 : decode cX1_divide 40 = .ok (.aload_n 0, 1) := by decide +kernel
theorem dX1_divide_41 : decode cX1_divide 41 = .ok (.getfield 14, 3) := by decide +kernel
theorem dX1_divide_44 : decode cX1_divide 44 = .ok (.aload_n 2, 1) := by decide +kernel
theorem dX1_divide_45 : decode cX1_divide 45 = .ok (.getfield 45, 3) := by decide +kernel
theorem dX1_divide_48 : decode cX1_divide 48 = .ok (.iconst 0, 1) := by decide +kernel
theorem dX1_divide_49 : decode cX1_divide 49 = .ok (.laload, 1) := by decide +kernel
theorem dX1_divide_50 : decode cX1_divide 50 = .ok (.invokevirtual 49, 3) := by decide +kernel
theorem dX1_divide_53 : decode cX1_divide 53 = .ok (.invokevirtual 29, 3) := by decide +kernel
theorem dX1_divide_56 : decode cX1_divide 56 = .ok (.return_, 1) := by decide +kernel
theorem dX1_divide_57 : decode cX1_divide 57 = .ok (.ldc2_w 53, 3) := by decide +kernel
theorem dX1_divide_60 : decode cX1_divide 60 = .ok (.aload_n 2, 1) := by decide +kernel
theorem dX1_divide_61 : decode cX1_divide 61 = .ok (.getfield 45, 3) := by decide +kernel
theorem dX1_divide_64 : decode cX1_divide 64 = .ok (.iload_n 3, 1) := by decide +kernel
theorem dX1_divide_65 : decode cX1_divide 65 = .ok (.iconst 1, 1) := by decide +kernel
theorem dX1_divide_66 : decode cX1_divide 66 = .ok (.isub, 1) := by decide +kernel
theorem dX1_divide_67 : decode cX1_divide 67 = .ok (.laload, 1) := by decide +kernel
theorem dX1_divide_68 : decode cX1_divide 68 = .ok (.lconst 1, 1) := by decide +kernel
theorem dX1_divide_69 : decode cX1_divide 69 = .ok (.ladd, 1) := by decide +kernel
theorem dX1_divide_70 : decode cX1_divide 70 = .ok (.ldiv, 1) := by decide +kernel
theorem dX1_divide_71 : decode cX1_divide 71 = .ok (.lstore 4, 2) := by decide +kernel
theorem dX1_divide_73 : decode cX1_divide 73 = .ok (.aload_n 0, 1) := by decide +kernel
theorem dX1_divide_74 : decode cX1_divide 74 = .ok (.getfield 20, 3) := by decide +kernel
theorem dX1_divide_77 : decode cX1_divide 77 = .ok (.aload_n 2, 1) := by decide +kernel
theorem dX1_divide_78 : decode cX1_divide 78 = .ok (.invokevirtual 41, 3) := by decide +kernel
theorem dX1_divide_81 : decode cX1_divide 81 = .ok (.aload_n 0, 1) := by decide +kernel
theorem dX1_divide_82 : decode cX1_divide 82 = .ok (.getfield 20, 3) := by decide +kernel
theorem dX1_divide_85 : decode cX1_divide 85 = .ok (.lload 4, 2) := by decide +kernel
theorem dX1_divide_87 : decode cX1_divide 87 = .ok (.invokevirtual 55, 3) := by decide +kernel
theorem dX1_divide_90 : decode cX1_divide 90 = .ok (.aload_n 1, 1) := by decide +kernel
theorem dX1_divide_91 : decode cX1_divide 91 = .ok (.lload 4, 2) := by decide +kernel
theorem dX1_divide_93 : decode cX1_divide 93 = .ok (.invokevirtual 55, 3) := by decide +kernel
theorem dX1_divide_96 : decode cX1_divide 96 = .ok (.aload_n 0, 1) := by decide +kernel
theorem dX1_divide_97 : decode cX1_divide 97 = .ok (.getfield 14, 3) := by decide +kernel
theorem dX1_divide_100 : decode cX1_divide 100 = .ok (.aload_n 1, 1) := by decide +kernel
theorem dX1_divide_101 : decode cX1_divide 101 = .ok (.getfield 33, 3) := by decide +kernel
theorem dX1_divide_104 : decode cX1_divide 104 = .ok (.iload_n 3, 1) := by decide +kernel
theorem dX1_divide_105 : decode cX1_divide 105 = .ok (.isub, 1) := by decide +kernel
theorem dX1_divide_106 : decode cX1_divide 106 = .ok (.iconst 1, 1) := by decide +kernel
theorem dX1_divide_107 : decode cX1_divide 107 = .ok (.iadd, 1) := by decide +kernel
theorem dX1_divide_108 : decode cX1_divide 108 = .ok (.invokevirtual 58, 3) := by decide +kernel
theorem dX1_divide_111 : decode cX1_divide 111 = .ok (.aload_n 0, 1) := by decide +kernel
theorem dX1_divide_112 : decode cX1_divide 112 = .ok (.getfield 14, 3) := by decide +kernel
theorem dX1_divide_115 : decode cX1_divide 115 = .ok (.getfield 33, 3) := by decide +kernel
theorem dX1_divide_118 : decode cX1_divide 118 = .ok (.iconst 1, 1) := by decide +kernel
theorem dX1_divide_119 : decode cX1_divide 119 = .ok (.isub, 1) := by decide +kernel
theorem dX1_divide_120 : decode cX1_divide 120 = .ok (.istore 6, 2) := by decide +kernel
theorem dX1_divide_122 : decode cX1_divide 122 = .ok (.iload 6, 2) := by decide +kernel
theorem dX1_divide_124 : decode cX1_divide 124 = .ok (.ifCond .lt 26, 3) := by decide +kernel
theorem dX1_divide_127 : decode cX1_divide 127 = .ok (.aload_n 0, 1) := by decide +kernel
theorem dX1_divide_128 : decode cX1_divide 128 = .ok (.getfield 14, 3) := by decide +kernel
theorem dX1_divide_131 : decode cX1_divide 131 = .ok (.getfield 45, 3) := by decide +kernel
theorem dX1_divide_134 : decode cX1_divide 134 = .ok (.iload 6, 2) := by decide +kernel
theorem dX1_divide_136 : decode cX1_divide 136 = .ok (.aload_n 0, 1) := by decide +kernel
theorem dX1_divide_137 : decode cX1_divide 137 = .ok (.aload_n 1, 1) := by decide +kernel
theorem dX1_divide_138 : decode cX1_divide 138 = .ok (.iload 6, 2) := by decide +kernel
theorem dX1_divide_140 : decode cX1_divide 140 = .ok (.invokevirtual 61, 3) := by decide +kernel
theorem dX1_divide_143 : decode cX1_divide 143 = .ok (.lastore, 1) := by decide +kernel
theorem dX1_divide_144 : decode cX1_divide 144 = .ok (.iinc 6 (-1), 3) := by decide +kernel
theorem dX1_divide_147 : decode cX1_divide 147 = .ok (.goto (-25), 3) := by decide +kernel
theorem dX1_divide_150 : decode cX1_divide 150 = .ok (.aload_n 0, 1) := by decide +kernel
theorem dX1_divide_151 : decode cX1_divide 151 = .ok (.getfield 14, 3) := by decide +kernel
theorem dX1_divide_154 : decode cX1_divide 154 = .ok (.invokevirtual 65, 3) := by decide +kernel
theorem dX1_divide_157 : decode cX1_divide 157 = .ok (.aload_n 1, 1) := by decide +kernel
theorem dX1_divide_158 : decode cX1_divide 158 = .ok (.invokevirtual 65, 3) := by decide +kernel
theorem dX1_divide_161 : decode cX1_divide 161 = .ok (.aload_n 1, 1) := by decide +kernel
theorem dX1_divide_162 : decode cX1_divide 162 = .ok (.lload 4, 2) := by decide +kernel
theorem dX1_divide_164 : decode cX1_divide 164 = .ok (.invokevirtual 49, 3) := by decide +kernel
theorem dX1_divide_167 : decode cX1_divide 167 = .ok (.pop2, 1) := by decide +kernel
theorem dX1_divide_168 : decode cX1_divide 168 = .ok (.return_, 1) := by decide +kernel
theorem dX1_takeDigit_0 : decode cX1_takeDigit 0 = .ok (.aload_n 1, 1) := by decide +kernel
theorem dX1_takeDigit_1 : decode cX1_takeDigit 1 = .ok (.iload_n 2, 1) := by decide +kernel
theorem dX1_takeDigit_2 : decode cX1_takeDigit 2 = .ok (.aload_n 0, 1) := by decide +kernel
theorem dX1_takeDigit_3 : decode cX1_takeDigit 3 = .ok (.getfield 20, 3) := by decide +kernel
theorem dX1_takeDigit_6 : decode cX1_takeDigit 6 = .ok (.getfield 33, 3) := by decide +kernel
theorem dX1_takeDigit_9 : decode cX1_takeDigit 9 = .ok (.iadd, 1) := by decide +kernel
theorem dX1_takeDigit_10 : decode cX1_takeDigit 10 = .ok (.invokevirtual 68, 3) := by decide +kernel
theorem dX1_takeDigit_13 : decode cX1_takeDigit 13 = .ok (.lstore_n 3, 1) := by decide +kernel
theorem dX1_takeDigit_14 : decode cX1_takeDigit 14 = .ok (.aload_n 0, 1) := by decide +kernel
theorem dX1_takeDigit_15 : decode cX1_takeDigit 15 = .ok (.aload_n 1, 1) := by decide +kernel
theorem dX1_takeDigit_16 : decode cX1_takeDigit 16 = .ok (.iload_n 2, 1) := by decide +kernel
theorem dX1_takeDigit_17 : decode cX1_takeDigit 17 = .ok (.invokevirtual 72, 3) := by decide +kernel
theorem dX1_takeDigit_20 : decode cX1_takeDigit 20 = .ok (.lstore 5, 2) := by decide +kernel
theorem dX1_takeDigit_22 : decode cX1_takeDigit 22 = .ok (.aload_n 0, 1) := by decide +kernel
theorem dX1_takeDigit_23 : decode cX1_takeDigit 23 = .ok (.aload_n 1, 1) := by decide +kernel
theorem dX1_takeDigit_24 : decode cX1_takeDigit 24 = .ok (.iload_n 2, 1) := by decide +kernel
theorem dX1_takeDigit_25 : decode cX1_takeDigit 25 = .ok (.lload 5, 2) := by decide +kernel
theorem dX1_takeDigit_27 : decode cX1_takeDigit 27 = .ok (.invokevirtual 75, 3) := by decide +kernel
theorem dX1_takeDigit_30 : decode cX1_takeDigit 30 = .ok (.lload_n 3, 1) := by decide +kernel
theorem dX1_takeDigit_31 : decode cX1_takeDigit 31 = .ok (.lcmp, 1) := by decide +kernel
theorem dX1_takeDigit_32 : decode cX1_takeDigit 32 = .ok (.ifCond .le 15, 3) := by decide +kernel
theorem dX1_takeDigit_35 : decode cX1_takeDigit 35 = .ok (.lload 5, 2) := by decide +kernel
theorem dX1_takeDigit_37 : decode cX1_takeDigit 37 = .ok (.lconst 1, 1) := by decide +kernel
theorem dX1_takeDigit_38 : decode cX1_takeDigit 38 = .ok (.lsub, 1) := by decide +kernel
theorem dX1_takeDigit_39 : decode cX1_takeDigit 39 = .ok (.lstore 5, 2) := by decide +kernel
theorem dX1_takeDigit_41 : decode cX1_takeDigit 41 = .ok (.aload_n 0, 1) := by decide +kernel
theorem dX1_takeDigit_42 : decode cX1_takeDigit 42 = .ok (.aload_n 1, 1) := by decide +kernel
theorem dX1_takeDigit_43 : decode cX1_takeDigit 43 = .ok (.iload_n 2, 1) := by decide +kernel
theorem dX1_takeDigit_44 : decode cX1_takeDigit 44 = .ok (.invokevirtual 79, 3) := by decide +kernel
theorem dX1_takeDigit_47 : decode cX1_takeDigit 47 = .ok (.aload_n 1, 1) := by decide +kernel
theorem dX1_takeDigit_48 : decode cX1_takeDigit 48 = .ok (.iload_n 2, 1) := by decide +kernel
theorem dX1_takeDigit_49 : decode cX1_takeDigit 49 = .ok (.aload_n 0, 1) := by decide +kernel
theorem dX1_takeDigit_50 : decode cX1_takeDigit 50 = .ok (.getfield 20, 3) := by decide +kernel
theorem dX1_takeDigit_53 : decode cX1_takeDigit 53 = .ok (.getfield 33, 3) := by decide +kernel
theorem dX1_takeDigit_56 : decode cX1_takeDigit 56 = .ok (.iadd, 1) := by decide +kernel
theorem dX1_takeDigit_57 : decode cX1_takeDigit 57 = .ok (.invokevirtual 83, 3) := by decide +kernel
theorem dX1_takeDigit_60 : decode cX1_takeDigit 60 = .ok (.lload 5, 2) := by decide +kernel
theorem dX1_takeDigit_62 : decode cX1_takeDigit 62 = .ok (.lreturn, 1) := by decide +kernel
theorem dX1_guess_0 : decode cX1_guess 0 = .ok (.aload_n 0, 1) := by decide +kernel
theorem dX1_guess_1 : decode cX1_guess 1 = .ok (.getfield 20, 3) := by decide +kernel
theorem dX1_guess_4 : decode cX1_guess 4 = .ok (.getfield 33, 3) := by decide +kernel
theorem dX1_guess_7 : decode cX1_guess 7 = .ok (.istore_n 3, 1) := by decide +kernel
theorem dX1_guess_8 : decode cX1_guess 8 = .ok (.aload_n 0, 1) := by decide +kernel
theorem dX1_guess_9 : decode cX1_guess 9 = .ok (.getfield 20, 3) := by decide +kernel
theorem dX1_guess_12 : decode cX1_guess 12 = .ok (.iload_n 3, 1) := by decide +kernel
theorem dX1_guess_13 : decode cX1_guess 13 = .ok (.iconst 1, 1) := by decide +kernel
theorem dX1_guess_14 : decode cX1_guess 14 = .ok (.isub, 1) := by decide +kernel
theorem dX1_guess_15 : decode cX1_guess 15 = .ok (.invokevirtual 68, 3) := by decide +kernel
theorem dX1_guess_18 : decode cX1_guess 18 = .ok (.lstore 4, 2) := by decide +kernel
theorem dX1_guess_20 : decode cX1_guess 20 = .ok (.aload_n 0, 1) := by decide +kernel
theorem dX1_guess_21 : decode cX1_guess 21 = .ok (.getfield 20, 3) := by decide +kernel
theorem dX1_guess_24 : decode cX1_guess 24 = .ok (.iload_n 3, 1) := by decide +kernel
theorem dX1_guess_25 : decode cX1_guess 25 = .ok (.iconst 2, 1) := by decide +kernel
theorem dX1_guess_26 : decode cX1_guess 26 = .ok (.isub, 1) := by decide +kernel
theorem dX1_guess_27 : decode cX1_guess 27 = .ok (.invokevirtual 68, 3) := by decide +kernel
theorem dX1_guess_30 : decode cX1_guess 30 = .ok (.lstore 6, 2) := by decide +kernel
theorem dX1_guess_32 : decode cX1_guess 32 = .ok (.lload 4, 2) := by decide +kernel
theorem dX1_guess_34 : decode cX1_guess 34 = .ok (.lconst 0, 1) := by decide +kernel
theorem dX1_guess_35 : decode cX1_guess 35 = .ok (.lcmp, 1) := by decide +kernel
theorem dX1_guess_36 : decode cX1_guess 36 = .ok (.ifCond .ne 5, 3) := by decide +kernel
theorem dX1_guess_39 : decode cX1_guess 39 = .ok (.lconst 0, 1) := by decide +kernel
theorem dX1_guess_40 : decode cX1_guess 40 = .ok (.lreturn, 1) := by decide +kernel
theorem dX1_guess_41 : decode cX1_guess 41 = .ok (.aload_n 1, 1) := by decide +kernel
theorem dX1_guess_42 : decode cX1_guess 42 = .ok (.iload_n 2, 1) := by decide +kernel
theorem dX1_guess_43 : decode cX1_guess 43 = .ok (.iload_n 3, 1) := by decide +kernel
theorem dX1_guess_44 : decode cX1_guess 44 = .ok (.iadd, 1) := by decide +kernel
theorem dX1_guess_45 : decode cX1_guess 45 = .ok (.invokevirtual 68, 3) := by decide +kernel
theorem dX1_guess_48 : decode cX1_guess 48 = .ok (.bipush 30, 2) := by decide +kernel
theorem dX1_guess_50 : decode cX1_guess 50 = .ok (.lshl, 1) := by decide +kernel
theorem dX1_guess_51 : decode cX1_guess 51 = .ok (.aload_n 1, 1) := by decide +kernel
theorem dX1_guess_52 : decode cX1_guess 52 = .ok (.iload_n 2, 1) := by decide +kernel
theorem dX1_guess_53 : decode cX1_guess 53 = .ok (.iload_n 3, 1) := by decide +kernel
theorem dX1_guess_54 : decode cX1_guess 54 = .ok (.iadd, 1) := by decide +kernel
theorem dX1_guess_55 : decode cX1_guess 55 = .ok (.iconst 1, 1) := by decide +kernel
theorem dX1_guess_56 : decode cX1_guess 56 = .ok (.isub, 1) := by decide +kernel
theorem dX1_guess_57 : decode cX1_guess 57 = .ok (.invokevirtual 68, 3) := by decide +kernel
theorem dX1_guess_60 : decode cX1_guess 60 = .ok (.ladd, 1) := by decide +kernel
theorem dX1_guess_61 : decode cX1_guess 61 = .ok (.lstore 8, 2) := by decide +kernel
theorem dX1_guess_63 : decode cX1_guess 63 = .ok (.aload_n 1, 1) := by decide +kernel
theorem dX1_guess_64 : decode cX1_guess 64 = .ok (.iload_n 2, 1) := by decide +kernel
theorem dX1_guess_65 : decode cX1_guess 65 = .ok (.iload_n 3, 1) := by decide +kernel
theorem dX1_guess_66 : decode cX1_guess 66 = .ok (.iadd, 1) := by decide +kernel
theorem dX1_guess_67 : decode cX1_guess 67 = .ok (.iconst 2, 1) := by decide +kernel
theorem dX1_guess_68 : decode cX1_guess 68 = .ok (.isub, 1) := by decide +kernel
theorem dX1_guess_69 : decode cX1_guess 69 = .ok (.invokevirtual 68, 3) := by decide +kernel
theorem dX1_guess_72 : decode cX1_guess 72 = .ok (.lstore 10, 2) := by decide +kernel
theorem dX1_guess_74 : decode cX1_guess 74 = .ok (.lload 8, 2) := by decide +kernel
theorem dX1_guess_76 : decode cX1_guess 76 = .ok (.lload 4, 2) := by decide +kernel
theorem dX1_guess_78 : decode cX1_guess 78 = .ok (.ldiv, 1) := by decide +kernel
theorem dX1_guess_79 : decode cX1_guess 79 = .ok (.lstore 12, 2) := by decide +kernel
theorem dX1_guess_81 : decode cX1_guess 81 = .ok (.lload 8, 2) := by decide +kernel
theorem dX1_guess_83 : decode cX1_guess 83 = .ok (.lload 4, 2) := by decide +kernel
theorem dX1_guess_85 : decode cX1_guess 85 = .ok (.lrem, 1) := by decide +kernel
theorem dX1_guess_86 : decode cX1_guess 86 = .ok (.lstore 14, 2) := by decide +kernel
theorem dX1_guess_88 : decode cX1_guess 88 = .ok (.iconst 0, 1) := by decide +kernel
theorem dX1_guess_89 : decode cX1_guess 89 = .ok (.istore 16, 2) := by decide +kernel
theorem dX1_guess_91 : decode cX1_guess 91 = .ok (.iload 16, 2) := by decide +kernel
theorem dX1_guess_93 : decode cX1_guess 93 = .ok (.iconst 2, 1) := by decide +kernel
theorem dX1_guess_94 : decode cX1_guess 94 = .ok (.if_icmp .ge 57, 3) := by decide +kernel
theorem dX1_guess_97 : decode cX1_guess 97 = .ok (.lload 14, 2) := by decide +kernel
theorem dX1_guess_99 : decode cX1_guess 99 = .ok (.ldc2_w 53, 3) := by decide +kernel
theorem dX1_guess_102 : decode cX1_guess 102 = .ok (.lcmp, 1) := by decide +kernel
theorem dX1_guess_103 : decode cX1_guess 103 = .ok (.ifCond .ge 48, 3) := by decide +kernel
theorem dX1_guess_106 : decode cX1_guess 106 = .ok (.lload 12, 2) := by decide +kernel
theorem dX1_guess_108 : decode cX1_guess 108 = .ok (.ldc2_w 53, 3) := by decide +kernel
theorem dX1_guess_111 : decode cX1_guess 111 = .ok (.lcmp, 1) := by decide +kernel
theorem dX1_guess_112 : decode cX1_guess 112 = .ok (.ifCond .ge 20, 3) := by decide +kernel
theorem dX1_guess_115 : decode cX1_guess 115 = .ok (.lload 12, 2) := by decide +kernel
theorem dX1_guess_117 : decode cX1_guess 117 = .ok (.lload 6, 2) := by decide +kernel
theorem dX1_guess_119 : decode cX1_guess 119 = .ok (.lmul, 1) := by decide +kernel
theorem dX1_guess_120 : decode cX1_guess 120 = .ok (.lload 14, 2) := by decide +kernel
theorem dX1_guess_122 : decode cX1_guess 122 = .ok (.bipush 30, 2) := by decide +kernel
theorem dX1_guess_124 : decode cX1_guess 124 = .ok (.lshl, 1) := by decide +kernel
theorem dX1_guess_125 : decode cX1_guess 125 = .ok (.lload 10, 2) := by decide +kernel
theorem dX1_guess_127 : decode cX1_guess 127 = .ok (.ladd, 1) := by decide +kernel
theorem dX1_guess_128 : decode cX1_guess 128 = .ok (.lcmp, 1) := by decide +kernel
theorem dX1_guess_129 : decode cX1_guess 129 = .ok (.ifCond .le 16, 3) := by decide +kernel
theorem dX1_guess_132 : decode cX1_guess 132 = .ok (.lload 12, 2) := by decide +kernel
theorem dX1_guess_134 : decode cX1_guess 134 = .ok (.lconst 1, 1) := by decide +kernel
theorem dX1_guess_135 : decode cX1_guess 135 = .ok (.lsub, 1) := by decide +kernel
theorem dX1_guess_136 : decode cX1_guess 136 = .ok (.lstore 12, 2) := by decide +kernel
theorem dX1_guess_138 : decode cX1_guess 138 = .ok (.lload 14, 2) := by decide +kernel
theorem dX1_guess_140 : decode cX1_guess 140 = .ok (.lload 4, 2) := by decide +kernel
theorem dX1_guess_142 : decode cX1_guess 142 = .ok (.ladd, 1) := by decide +kernel
theorem dX1_guess_143 : decode cX1_guess 143 = .ok (.lstore 14, 2) := by decide +kernel
theorem dX1_guess_145 : decode cX1_guess 145 = .ok (.iinc 16 1, 3) := by decide +kernel
theorem dX1_guess_148 : decode cX1_guess 148 = .ok (.goto (-57), 3) := by decide +kernel
theorem dX1_guess_151 : decode cX1_guess 151 = .ok (.lload 12, 2) := by decide +kernel
theorem dX1_guess_153 : decode cX1_guess 153 = .ok (.lreturn, 1) := by decide +kernel
theorem dX1_takeAway_0 : decode cX1_takeAway 0 = .ok (.lconst 0, 1) := by decide +kernel
theorem dX1_takeAway_1 : decode cX1_takeAway 1 = .ok (.lstore 5, 2) := by decide +kernel
theorem dX1_takeAway_3 : decode cX1_takeAway 3 = .ok (.iconst 0, 1) := by decide +kernel
theorem dX1_takeAway_4 : decode cX1_takeAway 4 = .ok (.istore 7, 2) := by decide +kernel
theorem dX1_takeAway_6 : decode cX1_takeAway 6 = .ok (.iload 7, 2) := by decide +kernel
theorem dX1_takeAway_8 : decode cX1_takeAway 8 = .ok (.aload_n 0, 1) := by decide +kernel
theorem dX1_takeAway_9 : decode cX1_takeAway 9 = .ok (.getfield 20, 3) := by decide +kernel
theorem dX1_takeAway_12 : decode cX1_takeAway 12 = .ok (.getfield 33, 3) := by decide +kernel
theorem dX1_takeAway_15 : decode cX1_takeAway 15 = .ok (.if_icmp .ge 70, 3) := by decide +kernel
theorem dX1_takeAway_18 : decode cX1_takeAway 18 = .ok (.iload_n 2, 1) := by decide +kernel
theorem dX1_takeAway_19 : decode cX1_takeAway 19 = .ok (.iload 7, 2) := by decide +kernel
theorem dX1_takeAway_21 : decode cX1_takeAway 21 = .ok (.iadd, 1) := by decide +kernel
theorem dX1_takeAway_22 : decode cX1_takeAway 22 = .ok (.aload_n 1, 1) := by decide +kernel
theorem dX1_takeAway_23 : decode cX1_takeAway 23 = .ok (.getfield 33, 3) := by decide +kernel
theorem dX1_takeAway_26 : decode cX1_takeAway 26 = .ok (.if_icmp .ge 59, 3) := by decide +kernel
theorem dX1_takeAway_29 : decode cX1_takeAway 29 = .ok (.aload_n 1, 1) := by decide +kernel
theorem dX1_takeAway_30 : decode cX1_takeAway 30 = .ok (.getfield 45, 3) := by decide +kernel
theorem dX1_takeAway_33 : decode cX1_takeAway 33 = .ok (.iload_n 2, 1) := by decide +kernel
theorem dX1_takeAway_34 : decode cX1_takeAway 34 = .ok (.iload 7, 2) := by decide +kernel
theorem dX1_takeAway_36 : decode cX1_takeAway 36 = .ok (.iadd, 1) := by decide +kernel
theorem dX1_takeAway_37 : decode cX1_takeAway 37 = .ok (.laload, 1) := by decide +kernel
theorem dX1_takeAway_38 : decode cX1_takeAway 38 = .ok (.aload_n 0, 1) := by decide +kernel
theorem dX1_takeAway_39 : decode cX1_takeAway 39 = .ok (.getfield 20, 3) := by decide +kernel
theorem dX1_takeAway_42 : decode cX1_takeAway 42 = .ok (.getfield 45, 3) := by decide +kernel
theorem dX1_takeAway_45 : decode cX1_takeAway 45 = .ok (.iload 7, 2) := by decide +kernel
theorem dX1_takeAway_47 : decode cX1_takeAway 47 = .ok (.laload, 1) := by decide +kernel
theorem dX1_takeAway_48 : decode cX1_takeAway 48 = .ok (.lload_n 3, 1) := by decide +kernel
theorem dX1_takeAway_49 : decode cX1_takeAway 49 = .ok (.lmul, 1) := by decide +kernel
theorem dX1_takeAway_50 : decode cX1_takeAway 50 = .ok (.lsub, 1) := by decide +kernel
theorem dX1_takeAway_51 : decode cX1_takeAway 51 = .ok (.lload 5, 2) := by decide +kernel
theorem dX1_takeAway_53 : decode cX1_takeAway 53 = .ok (.lsub, 1) := by decide +kernel
theorem dX1_takeAway_54 : decode cX1_takeAway 54 = .ok (.lstore 8, 2) := by decide +kernel
theorem dX1_takeAway_56 : decode cX1_takeAway 56 = .ok (.aload_n 1, 1) := by decide +kernel
theorem dX1_takeAway_57 : decode cX1_takeAway 57 = .ok (.getfield 45, 3) := by decide +kernel
theorem dX1_takeAway_60 : decode cX1_takeAway 60 = .ok (.iload_n 2, 1) := by decide +kernel
theorem dX1_takeAway_61 : decode cX1_takeAway 61 = .ok (.iload 7, 2) := by decide +kernel
theorem dX1_takeAway_63 : decode cX1_takeAway 63 = .ok (.iadd, 1) := by decide +kernel
theorem dX1_takeAway_64 : decode cX1_takeAway 64 = .ok (.lload 8, 2) := by decide +kernel
theorem dX1_takeAway_66 : decode cX1_takeAway 66 = .ok (.ldc2_w 86, 3) := by decide +kernel
theorem dX1_takeAway_69 : decode cX1_takeAway 69 = .ok (.land, 1) := by decide +kernel
theorem dX1_takeAway_70 : decode cX1_takeAway 70 = .ok (.lastore, 1) := by decide +kernel
theorem dX1_takeAway_71 : decode cX1_takeAway 71 = .ok (.lload 8, 2) := by decide +kernel
theorem dX1_takeAway_73 : decode cX1_takeAway 73 = .ok (.bipush 30, 2) := by decide +kernel
theorem dX1_takeAway_75 : decode cX1_takeAway 75 = .ok (.lshr, 1) := by decide +kernel
theorem dX1_takeAway_76 : decode cX1_takeAway 76 = .ok (.lneg, 1) := by decide +kernel
theorem dX1_takeAway_77 : decode cX1_takeAway 77 = .ok (.lstore 5, 2) := by decide +kernel
theorem dX1_takeAway_79 : decode cX1_takeAway 79 = .ok (.iinc 7 1, 3) := by decide +kernel
theorem dX1_takeAway_82 : decode cX1_takeAway 82 = .ok (.goto (-76), 3) := by decide +kernel
theorem dX1_takeAway_85 : decode cX1_takeAway 85 = .ok (.lload 5, 2) := by decide +kernel
theorem dX1_takeAway_87 : decode cX1_takeAway 87 = .ok (.lreturn, 1) := by decide +kernel
theorem dX1_putBack_0 : decode cX1_putBack 0 = .ok (.lconst 0, 1) := by decide +kernel
theorem dX1_putBack_1 : decode cX1_putBack 1 = .ok (.lstore_n 3, 1) := by decide +kernel
theorem dX1_putBack_2 : decode cX1_putBack 2 = .ok (.iconst 0, 1) := by decide +kernel
theorem dX1_putBack_3 : decode cX1_putBack 3 = .ok (.istore 5, 2) := by decide +kernel
theorem dX1_putBack_5 : decode cX1_putBack 5 = .ok (.iload 5, 2) := by decide +kernel
theorem dX1_putBack_7 : decode cX1_putBack 7 = .ok (.aload_n 0, 1) := by decide +kernel
theorem dX1_putBack_8 : decode cX1_putBack 8 = .ok (.getfield 20, 3) := by decide +kernel
theorem dX1_putBack_11 : decode cX1_putBack 11 = .ok (.getfield 33, 3) := by decide +kernel
theorem dX1_putBack_14 : decode cX1_putBack 14 = .ok (.if_icmp .ge 65, 3) := by decide +kernel
theorem dX1_putBack_17 : decode cX1_putBack 17 = .ok (.iload_n 2, 1) := by decide +kernel
theorem dX1_putBack_18 : decode cX1_putBack 18 = .ok (.iload 5, 2) := by decide +kernel
theorem dX1_putBack_20 : decode cX1_putBack 20 = .ok (.iadd, 1) := by decide +kernel
theorem dX1_putBack_21 : decode cX1_putBack 21 = .ok (.aload_n 1, 1) := by decide +kernel
theorem dX1_putBack_22 : decode cX1_putBack 22 = .ok (.getfield 33, 3) := by decide +kernel
theorem dX1_putBack_25 : decode cX1_putBack 25 = .ok (.if_icmp .ge 54, 3) := by decide +kernel
theorem dX1_putBack_28 : decode cX1_putBack 28 = .ok (.aload_n 1, 1) := by decide +kernel
theorem dX1_putBack_29 : decode cX1_putBack 29 = .ok (.getfield 45, 3) := by decide +kernel
theorem dX1_putBack_32 : decode cX1_putBack 32 = .ok (.iload_n 2, 1) := by decide +kernel
theorem dX1_putBack_33 : decode cX1_putBack 33 = .ok (.iload 5, 2) := by decide +kernel
theorem dX1_putBack_35 : decode cX1_putBack 35 = .ok (.iadd, 1) := by decide +kernel
theorem dX1_putBack_36 : decode cX1_putBack 36 = .ok (.laload, 1) := by decide +kernel
theorem dX1_putBack_37 : decode cX1_putBack 37 = .ok (.aload_n 0, 1) := by decide +kernel
theorem dX1_putBack_38 : decode cX1_putBack 38 = .ok (.getfield 20, 3) := by decide +kernel
theorem dX1_putBack_41 : decode cX1_putBack 41 = .ok (.getfield 45, 3) := by decide +kernel
theorem dX1_putBack_44 : decode cX1_putBack 44 = .ok (.iload 5, 2) := by decide +kernel
theorem dX1_putBack_46 : decode cX1_putBack 46 = .ok (.laload, 1) := by decide +kernel
theorem dX1_putBack_47 : decode cX1_putBack 47 = .ok (.ladd, 1) := by decide +kernel
theorem dX1_putBack_48 : decode cX1_putBack 48 = .ok (.lload_n 3, 1) := by decide +kernel
theorem dX1_putBack_49 : decode cX1_putBack 49 = .ok (.ladd, 1) := by decide +kernel
theorem dX1_putBack_50 : decode cX1_putBack 50 = .ok (.lstore 6, 2) := by decide +kernel
theorem dX1_putBack_52 : decode cX1_putBack 52 = .ok (.aload_n 1, 1) := by decide +kernel
theorem dX1_putBack_53 : decode cX1_putBack 53 = .ok (.getfield 45, 3) := by decide +kernel
theorem dX1_putBack_56 : decode cX1_putBack 56 = .ok (.iload_n 2, 1) := by decide +kernel
theorem dX1_putBack_57 : decode cX1_putBack 57 = .ok (.iload 5, 2) := by decide +kernel
theorem dX1_putBack_59 : decode cX1_putBack 59 = .ok (.iadd, 1) := by decide +kernel
theorem dX1_putBack_60 : decode cX1_putBack 60 = .ok (.lload 6, 2) := by decide +kernel
theorem dX1_putBack_62 : decode cX1_putBack 62 = .ok (.ldc2_w 86, 3) := by decide +kernel
theorem dX1_putBack_65 : decode cX1_putBack 65 = .ok (.land, 1) := by decide +kernel
theorem dX1_putBack_66 : decode cX1_putBack 66 = .ok (.lastore, 1) := by decide +kernel
theorem dX1_putBack_67 : decode cX1_putBack 67 = .ok (.lload 6, 2) := by decide +kernel
theorem dX1_putBack_69 : decode cX1_putBack 69 = .ok (.bipush 30, 2) := by decide +kernel
theorem dX1_putBack_71 : decode cX1_putBack 71 = .ok (.lshr, 1) := by decide +kernel
theorem dX1_putBack_72 : decode cX1_putBack 72 = .ok (.lstore_n 3, 1) := by decide +kernel
theorem dX1_putBack_73 : decode cX1_putBack 73 = .ok (.iinc 5 1, 3) := by decide +kernel
theorem dX1_putBack_76 : decode cX1_putBack 76 = .ok (.goto (-71), 3) := by decide +kernel
theorem dX1_putBack_79 : decode cX1_putBack 79 = .ok (.return_, 1) := by decide +kernel
theorem dX1_reduce_0 : decode cX1_reduce 0 = .ok (.aload_n 0, 1) := by decide +kernel
theorem dX1_reduce_1 : decode cX1_reduce 1 = .ok (.getfield 23, 3) := by decide +kernel
theorem dX1_reduce_4 : decode cX1_reduce 4 = .ok (.astore_n 2, 1) := by decide +kernel
theorem dX1_reduce_5 : decode cX1_reduce 5 = .ok (.aload_n 0, 1) := by decide +kernel
theorem dX1_reduce_6 : decode cX1_reduce 6 = .ok (.getfield 26, 3) := by decide +kernel
theorem dX1_reduce_9 : decode cX1_reduce 9 = .ok (.astore_n 3, 1) := by decide +kernel
theorem dX1_reduce_10 : decode cX1_reduce 10 = .ok (.aload_n 2, 1) := by decide +kernel
theorem dX1_reduce_11 : decode cX1_reduce 11 = .ok (.aload_n 1, 1) := by decide +kernel
theorem dX1_reduce_12 : decode cX1_reduce 12 = .ok (.getfield 88, 3) := by decide +kernel
theorem dX1_reduce_15 : decode cX1_reduce 15 = .ok (.invokevirtual 41, 3) := by decide +kernel
theorem dX1_reduce_18 : decode cX1_reduce 18 = .ok (.aload_n 3, 1) := by decide +kernel
theorem dX1_reduce_19 : decode cX1_reduce 19 = .ok (.aload_n 1, 1) := by decide +kernel
theorem dX1_reduce_20 : decode cX1_reduce 20 = .ok (.getfield 93, 3) := by decide +kernel
theorem dX1_reduce_23 : decode cX1_reduce 23 = .ok (.invokevirtual 41, 3) := by decide +kernel
theorem dX1_reduce_26 : decode cX1_reduce 26 = .ok (.iconst 0, 1) := by decide +kernel
theorem dX1_reduce_27 : decode cX1_reduce 27 = .ok (.istore 4, 2) := by decide +kernel
theorem dX1_reduce_29 : decode cX1_reduce 29 = .ok (.iload 4, 2) := by decide +kernel
theorem dX1_reduce_31 : decode cX1_reduce 31 = .ok (.sipush 400, 3) := by decide +kernel
theorem dX1_reduce_34 : decode cX1_reduce 34 = .ok (.if_icmp .ge 30, 3) := by decide +kernel
theorem dX1_reduce_37 : decode cX1_reduce 37 = .ok (.aload_n 3, 1) := by decide +kernel
theorem dX1_reduce_38 : decode cX1_reduce 38 = .ok (.getfield 33, 3) := by decide +kernel
theorem dX1_reduce_41 : decode cX1_reduce 41 = .ok (.ifCond .le 23, 3) := by decide +kernel
theorem dX1_reduce_44 : decode cX1_reduce 44 = .ok (.aload_n 0, 1) := by decide +kernel
theorem dX1_reduce_45 : decode cX1_reduce 45 = .ok (.aload_n 2, 1) := by decide +kernel
theorem dX1_reduce_46 : decode cX1_reduce 46 = .ok (.aload_n 3, 1) := by decide +kernel
theorem dX1_reduce_47 : decode cX1_reduce 47 = .ok (.invokevirtual 96, 3) := by decide +kernel
theorem dX1_reduce_50 : decode cX1_reduce 50 = .ok (.aload_n 2, 1) := by decide +kernel
theorem dX1_reduce_51 : decode cX1_reduce 51 = .ok (.astore 5, 2) := by decide +kernel
theorem dX1_reduce_53 : decode cX1_reduce 53 = .ok (.aload_n 3, 1) := by decide +kernel
theorem dX1_reduce_54 : decode cX1_reduce 54 = .ok (.astore_n 2, 1) := by decide +kernel
theorem dX1_reduce_55 : decode cX1_reduce 55 = .ok (.aload 5, 2) := by decide +kernel
theorem dX1_reduce_57 : decode cX1_reduce 57 = .ok (.astore_n 3, 1) := by decide +kernel
theorem dX1_reduce_58 : decode cX1_reduce 58 = .ok (.iinc 4 1, 3) := by decide +kernel
theorem dX1_reduce_61 : decode cX1_reduce 61 = .ok (.goto (-32), 3) := by decide +kernel
theorem dX1_reduce_64 : decode cX1_reduce 64 = .ok (.aload_n 0, 1) := by decide +kernel
theorem dX1_reduce_65 : decode cX1_reduce 65 = .ok (.aload_n 1, 1) := by decide +kernel
theorem dX1_reduce_66 : decode cX1_reduce 66 = .ok (.getfield 88, 3) := by decide +kernel
theorem dX1_reduce_69 : decode cX1_reduce 69 = .ok (.aload_n 2, 1) := by decide +kernel
theorem dX1_reduce_70 : decode cX1_reduce 70 = .ok (.invokevirtual 96, 3) := by decide +kernel
theorem dX1_reduce_73 : decode cX1_reduce 73 = .ok (.aload_n 1, 1) := by decide +kernel
theorem dX1_reduce_74 : decode cX1_reduce 74 = .ok (.getfield 88, 3) := by decide +kernel
theorem dX1_reduce_77 : decode cX1_reduce 77 = .ok (.aload_n 0, 1) := by decide +kernel
theorem dX1_reduce_78 : decode cX1_reduce 78 = .ok (.getfield 14, 3) := by decide +kernel
theorem dX1_reduce_81 : decode cX1_reduce 81 = .ok (.invokevirtual 41, 3) := by decide +kernel
theorem dX1_reduce_84 : decode cX1_reduce 84 = .ok (.aload_n 0, 1) := by decide +kernel
theorem dX1_reduce_85 : decode cX1_reduce 85 = .ok (.aload_n 1, 1) := by decide +kernel
theorem dX1_reduce_86 : decode cX1_reduce 86 = .ok (.getfield 93, 3) := by decide +kernel
theorem dX1_reduce_89 : decode cX1_reduce 89 = .ok (.aload_n 2, 1) := by decide +kernel
theorem dX1_reduce_90 : decode cX1_reduce 90 = .ok (.invokevirtual 96, 3) := by decide +kernel
theorem dX1_reduce_93 : decode cX1_reduce 93 = .ok (.aload_n 1, 1) := by decide +kernel
theorem dX1_reduce_94 : decode cX1_reduce 94 = .ok (.getfield 93, 3) := by decide +kernel
theorem dX1_reduce_97 : decode cX1_reduce 97 = .ok (.aload_n 0, 1) := by decide +kernel
theorem dX1_reduce_98 : decode cX1_reduce 98 = .ok (.getfield 14, 3) := by decide +kernel
theorem dX1_reduce_101 : decode cX1_reduce 101 = .ok (.invokevirtual 41, 3) := by decide +kernel
theorem dX1_reduce_104 : decode cX1_reduce 104 = .ok (.return_, 1) := by decide +kernel
theorem dX2_init_0 : decode cX2_init 0 = .ok (.aload_n 0, 1) := by decide +kernel
theorem dX2_init_1 : decode cX2_init 1 = .ok (.invokespecial 3, 3) := by decide +kernel
theorem dX2_init_4 : decode cX2_init 4 = .ok (.aload_n 0, 1) := by decide +kernel
theorem dX2_init_5 : decode cX2_init 5 = .ok (.bipush 10, 2) := by decide +kernel
theorem dX2_init_7 : decode cX2_init 7 = .ok (.newarray .int, 2) := by decide +kernel
theorem dX2_init_9 : decode cX2_init 9 = .ok (.putfield 9, 3) := by decide +kernel
theorem dX2_init_12 : decode cX2_init 12 = .ok (.aload_n 0, 1) := by decide +kernel
theorem dX2_init_13 : decode cX2_init 13 = .ok (.bipush 10, 2) := by decide +kernel
theorem dX2_init_15 : decode cX2_init 15 = .ok (.bipush 10, 2) := by decide +kernel
theorem dX2_init_17 : decode cX2_init 17 = .ok (.multianewarray 15 2, 4) := by decide +kernel
theorem dX2_init_21 : decode cX2_init 21 = .ok (.putfield 17, 3) := by decide +kernel
theorem dX2_init_24 : decode cX2_init 24 = .ok (.aload_n 0, 1) := by decide +kernel
theorem dX2_init_25 : decode cX2_init 25 = .ok (.bipush 100, 2) := by decide +kernel
theorem dX2_init_27 : decode cX2_init 27 = .ok (.anewarray 20, 3) := by decide +kernel
theorem dX2_init_30 : decode cX2_init 30 = .ok (.putfield 22, 3) := by decide +kernel
theorem dX2_init_33 : decode cX2_init 33 = .ok (.aload_n 0, 1) := by decide +kernel
theorem dX2_init_34 : decode cX2_init 34 = .ok (.new 20, 3) := by decide +kernel
theorem dX2_init_37 : decode cX2_init 37 = .ok (.dup, 1) := by decide +kernel
theorem dX2_init_38 : decode cX2_init 38 = .ok (.bipush 6, 2) := by decide +kernel
theorem dX2_init_40 : decode cX2_init 40 = .ok (.invokespecial 26, 3) := by decide +kernel
theorem dX2_init_43 : decode cX2_init 43 = .ok (.putfield 29, 3) := by decide +kernel
theorem dX2_init_46 : decode cX2_init 46 = .ok (.aload_n 0, 1) := by decide +kernel
theorem dX2_init_47 : decode cX2_init 47 = .ok (.new 20, 3) := by decide +kernel
theorem dX2_init_50 : decode cX2_init 50 = .ok (.dup, 1) := by decide +kernel
theorem dX2_init_51 : decode cX2_init 51 = .ok (.bipush 6, 2) := by decide +kernel
theorem dX2_init_53 : decode cX2_init 53 = .ok (.invokespecial 26, 3) := by decide +kernel
theorem dX2_init_56 : decode cX2_init 56 = .ok (.putfield 33, 3) := by decide +kernel
theorem dX2_init_59 : decode cX2_init 59 = .ok (.aload_n 0, 1) := by decide +kernel
theorem dX2_init_60 : decode cX2_init 60 = .ok (.new 20, 3) := by decide +kernel
theorem dX2_init_63 : decode cX2_init 63 = .ok (.dup, 1) := by decide +kernel
theorem dX2_init_64 : decode cX2_init 64 = .ok (.bipush 12, 2) := by decide +kernel
theorem dX2_init_66 : decode cX2_init 66 = .ok (.invokespecial 26, 3) := by decide +kernel
theorem dX2_init_69 : decode cX2_init 69 = .ok (.putfield 36, 3) := by decide +kernel
theorem dX2_init_72 : decode cX2_init 72 = .ok (.aload_n 0, 1) := by decide +kernel
theorem dX2_init_73 : decode cX2_init 73 = .ok (.new 20, 3) := by decide +kernel
theorem dX2_init_76 : decode cX2_init 76 = .ok (.dup, 1) := by decide +kernel
theorem dX2_init_77 : decode cX2_init 77 = .ok (.bipush 12, 2) := by decide +kernel
theorem dX2_init_79 : decode cX2_init 79 = .ok (.invokespecial 26, 3) := by decide +kernel
theorem dX2_init_82 : decode cX2_init 82 = .ok (.putfield 39, 3) := by decide +kernel
theorem dX2_init_85 : decode cX2_init 85 = .ok (.aload_n 0, 1) := by decide +kernel
theorem dX2_init_86 : decode cX2_init 86 = .ok (.new 42, 3) := by decide +kernel
theorem dX2_init_89 : decode cX2_init 89 = .ok (.dup, 1) := by decide +kernel
theorem dX2_init_90 : decode cX2_init 90 = .ok (.invokespecial 44, 3) := by decide +kernel
theorem dX2_init_93 : decode cX2_init 93 = .ok (.putfield 45, 3) := by decide +kernel
theorem dX2_init_96 : decode cX2_init 96 = .ok (.aload_n 0, 1) := by decide +kernel
theorem dX2_init_97 : decode cX2_init 97 = .ok (.iconst 0, 1) := by decide +kernel
theorem dX2_init_98 : decode cX2_init 98 = .ok (.putfield 49, 3) := by decide +kernel
theorem dX2_init_101 : decode cX2_init 101 = .ok (.aload_n 0, 1) := by decide +kernel
theorem dX2_init_102 : decode cX2_init 102 = .ok (.iconst (-1), 1) := by decide +kernel
theorem dX2_init_103 : decode cX2_init 103 = .ok (.putfield 53, 3) := by decide +kernel
theorem dX2_init_106 : decode cX2_init 106 = .ok (.aload_n 0, 1) := by decide +kernel
theorem dX2_init_107 : decode cX2_init 107 = .ok (.aload_n 1, 1) := by decide +kernel
theorem dX2_init_108 : decode cX2_init 108 = .ok (.putfield 57, 3) := by decide +kernel
theorem dX2_init_111 : decode cX2_init 111 = .ok (.iconst 0, 1) := by decide +kernel
theorem dX2_init_112 : decode cX2_init 112 = .ok (.istore_n 2, 1) := by decide +kernel
theorem dX2_init_113 : decode cX2_init 113 = .ok (.iload_n 2, 1) := by decide +kernel
theorem dX2_init_114 : decode cX2_init 114 = .ok (.bipush 10, 2) := by decide +kernel
theorem dX2_init_116 : decode cX2_init 116 = .ok (.if_icmp .ge 60, 3) := by decide +kernel
theorem dX2_init_119 : decode cX2_init 119 = .ok (.iload_n 2, 1) := by decide +kernel
theorem dX2_init_120 : decode cX2_init 120 = .ok (.istore_n 3, 1) := by decide +kernel
theorem dX2_init_121 : decode cX2_init 121 = .ok (.iload_n 3, 1) := by decide +kernel
theorem dX2_init_122 : decode cX2_init 122 = .ok (.bipush 10, 2) := by decide +kernel
theorem dX2_init_124 : decode cX2_init 124 = .ok (.if_icmp .ge 46, 3) := by decide +kernel
theorem dX2_init_127 : decode cX2_init 127 = .ok (.new 20, 3) := by decide +kernel
theorem dX2_init_130 : decode cX2_init 130 = .ok (.dup, 1) := by decide +kernel
theorem dX2_init_131 : decode cX2_init 131 = .ok (.bipush 6, 2) := by decide +kernel
theorem dX2_init_133 : decode cX2_init 133 = .ok (.invokespecial 26, 3) := by decide +kernel
theorem dX2_init_136 : decode cX2_init 136 = .ok (.astore 4, 2) := by decide +kernel
theorem dX2_init_138 : decode cX2_init 138 = .ok (.aload_n 0, 1) := by decide +kernel
theorem dX2_init_139 : decode cX2_init 139 = .ok (.getfield 22, 3) := by decide +kernel
theorem dX2_init_142 : decode cX2_init 142 = .ok (.iload_n 2, 1) := by decide +kernel
theorem dX2_init_143 : decode cX2_init 143 = .ok (.bipush 10, 2) := by decide +kernel
theorem dX2_init_145 : decode cX2_init 145 = .ok (.imul, 1) := by decide +kernel
theorem dX2_init_146 : decode cX2_init 146 = .ok (.iload_n 3, 1) := by decide +kernel
theorem dX2_init_147 : decode cX2_init 147 = .ok (.iadd, 1) := by decide +kernel
theorem dX2_init_148 : decode cX2_init 148 = .ok (.aload 4, 2) := by decide +kernel
theorem dX2_init_150 : decode cX2_init 150 = .ok (.aastore, 1) := by decide +kernel
theorem dX2_init_151 : decode cX2_init 151 = .ok (.aload_n 0, 1) := by decide +kernel
theorem dX2_init_152 : decode cX2_init 152 = .ok (.getfield 22, 3) := by decide +kernel
theorem dX2_init_155 : decode cX2_init 155 = .ok (.iload_n 3, 1) := by decide +kernel
theorem dX2_init_156 : decode cX2_init 156 = .ok (.bipush 10, 2) := by decide +kernel
theorem dX2_init_158 : decode cX2_init 158 = .ok (.imul, 1) := by decide +kernel
theorem dX2_init_159 : decode cX2_init 159 = .ok (.iload_n 2, 1) := by decide +kernel
theorem dX2_init_160 : decode cX2_init 160 = .ok (.iadd, 1) := by decide +kernel
theorem dX2_init_161 : decode cX2_init 161 = .ok (.aload 4, 2) := by decide +kernel
theorem dX2_init_163 : decode cX2_init 163 = .ok (.aastore, 1) := by decide +kernel
theorem dX2_init_164 : decode cX2_init 164 = .ok (.iinc 3 1, 3) := by decide +kernel
theorem dX2_init_167 : decode cX2_init 167 = .ok (.goto (-46), 3) := by decide +kernel
theorem dX2_init_170 : decode cX2_init 170 = .ok (.iinc 2 1, 3) := by decide +kernel
theorem dX2_init_173 : decode cX2_init 173 = .ok (.goto (-60), 3) := by decide +kernel
theorem dX2_init_176 : decode cX2_init 176 = .ok (.return_, 1) := by decide +kernel
theorem dX2_forget_0 : decode cX2_forget 0 = .ok (.aload_n 0, 1) := by decide +kernel
theorem dX2_forget_1 : decode cX2_forget 1 = .ok (.iconst 0, 1) := by decide +kernel
theorem dX2_forget_2 : decode cX2_forget 2 = .ok (.putfield 49, 3) := by decide +kernel
theorem dX2_forget_5 : decode cX2_forget 5 = .ok (.aload_n 0, 1) := by decide +kernel
theorem dX2_forget_6 : decode cX2_forget 6 = .ok (.iconst (-1), 1) := by decide +kernel
theorem dX2_forget_7 : decode cX2_forget 7 = .ok (.putfield 53, 3) := by decide +kernel
theorem dX2_forget_10 : decode cX2_forget 10 = .ok (.return_, 1) := by decide +kernel
theorem dX2_refresh_0 : decode cX2_refresh 0 = .ok (.aload_n 0, 1) := by decide +kernel
theorem dX2_refresh_1 : decode cX2_refresh 1 = .ok (.getfield 49, 3) := by decide +kernel
theorem dX2_refresh_4 : decode cX2_refresh 4 = .ok (.ifCond .eq 4, 3) := by decide +kernel
theorem dX2_refresh_7 : decode cX2_refresh 7 = .ok (.return_, 1) := by decide +kernel
theorem dX2_refresh_8 : decode cX2_refresh 8 = .ok (.aload_n 0, 1) := by decide +kernel
theorem dX2_refresh_9 : decode cX2_refresh 9 = .ok (.iconst 1, 1) := by decide +kernel
theorem dX2_refresh_10 : decode cX2_refresh 10 = .ok (.putfield 49, 3) := by decide +kernel
theorem dX2_refresh_13 : decode cX2_refresh 13 = .ok (.iconst 0, 1) := by decide +kernel
theorem dX2_refresh_14 : decode cX2_refresh 14 = .ok (.istore_n 1, 1) := by decide +kernel
theorem dX2_refresh_15 : decode cX2_refresh 15 = .ok (.iload_n 1, 1) := by decide +kernel
theorem dX2_refresh_16 : decode cX2_refresh 16 = .ok (.aload_n 0, 1) := by decide +kernel
theorem dX2_refresh_17 : decode cX2_refresh 17 = .ok (.getfield 57, 3) := by decide +kernel
theorem dX2_refresh_20 : decode cX2_refresh 20 = .ok (.getfield 61, 3) := by decide +kernel
theorem dX2_refresh_23 : decode cX2_refresh 23 = .ok (.if_icmp .ge 26, 3) := by decide +kernel
theorem dX2_refresh_26 : decode cX2_refresh 26 = .ok (.aload_n 0, 1) := by decide +kernel
theorem dX2_refresh_27 : decode cX2_refresh 27 = .ok (.getfield 9, 3) := by decide +kernel
theorem dX2_refresh_30 : decode cX2_refresh 30 = .ok (.iload_n 1, 1) := by decide +kernel
theorem dX2_refresh_31 : decode cX2_refresh 31 = .ok (.iload_n 1, 1) := by decide +kernel
theorem dX2_refresh_32 : decode cX2_refresh 32 = .ok (.iastore, 1) := by decide +kernel
theorem dX2_refresh_33 : decode cX2_refresh 33 = .ok (.aload_n 0, 1) := by decide +kernel
theorem dX2_refresh_34 : decode cX2_refresh 34 = .ok (.getfield 17, 3) := by decide +kernel
theorem dX2_refresh_37 : decode cX2_refresh 37 = .ok (.iload_n 1, 1) := by decide +kernel
theorem dX2_refresh_38 : decode cX2_refresh 38 = .ok (.aaload, 1) := by decide +kernel
theorem dX2_refresh_39 : decode cX2_refresh 39 = .ok (.iconst 0, 1) := by decide +kernel
theorem dX2_refresh_40 : decode cX2_refresh 40 = .ok (.invokestatic 66, 3) := by decide +kernel
theorem dX2_refresh_43 : decode cX2_refresh 43 = .ok (.iinc 1 1, 3) := by decide +kernel
theorem dX2_refresh_46 : decode cX2_refresh 46 = .ok (.goto (-31), 3) := by decide +kernel
theorem dX2_refresh_49 : decode cX2_refresh 49 = .ok (.iconst 0, 1) := by decide +kernel
theorem dX2_refresh_50 : decode cX2_refresh 50 = .ok (.istore_n 1, 1) := by decide +kernel
theorem dX2_refresh_51 : decode cX2_refresh 51 = .ok (.iload_n 1, 1) := by decide +kernel
theorem dX2_refresh_52 : decode cX2_refresh 52 = .ok (.aload_n 0, 1) := by decide +kernel
theorem dX2_refresh_53 : decode cX2_refresh 53 = .ok (.getfield 57, 3) := by decide +kernel
theorem dX2_refresh_56 : decode cX2_refresh 56 = .ok (.getfield 72, 3) := by decide +kernel
theorem dX2_refresh_59 : decode cX2_refresh 59 = .ok (.if_icmp .ge 81, 3) := by decide +kernel
theorem dX2_refresh_62 : decode cX2_refresh 62 = .ok (.aload_n 0, 1) := by decide +kernel
theorem dX2_refresh_63 : decode cX2_refresh 63 = .ok (.getfield 17, 3) := by decide +kernel
theorem dX2_refresh_66 : decode cX2_refresh 66 = .ok (.aload_n 0, 1) := by decide +kernel
theorem dX2_refresh_67 : decode cX2_refresh 67 = .ok (.getfield 57, 3) := by decide +kernel
theorem dX2_refresh_70 : decode cX2_refresh 70 = .ok (.getfield 75, 3) := by decide +kernel
theorem dX2_refresh_73 : decode cX2_refresh 73 = .ok (.iload_n 1, 1) := by decide +kernel
theorem dX2_refresh_74 : decode cX2_refresh 74 = .ok (.iaload, 1) := by decide +kernel
theorem dX2_refresh_75 : decode cX2_refresh 75 = .ok (.aaload, 1) := by decide +kernel
theorem dX2_refresh_76 : decode cX2_refresh 76 = .ok (.aload_n 0, 1) := by decide +kernel
theorem dX2_refresh_77 : decode cX2_refresh 77 = .ok (.getfield 57, 3) := by decide +kernel
theorem dX2_refresh_80 : decode cX2_refresh 80 = .ok (.getfield 78, 3) := by decide +kernel
theorem dX2_refresh_83 : decode cX2_refresh 83 = .ok (.iload_n 1, 1) := by decide +kernel
theorem dX2_refresh_84 : decode cX2_refresh 84 = .ok (.iaload, 1) := by decide +kernel
theorem dX2_refresh_85 : decode cX2_refresh 85 = .ok (.dup2, 1) := by decide +kernel
theorem dX2_refresh_86 : decode cX2_refresh 86 = .ok (.iaload, 1) := by decide +kernel
theorem dX2_refresh_87 : decode cX2_refresh 87 = .ok (.aload_n 0, 1) := by decide +kernel
theorem dX2_refresh_88 : decode cX2_refresh 88 = .ok (.getfield 57, 3) := by decide +kernel
theorem dX2_refresh_91 : decode cX2_refresh 91 = .ok (.getfield 81, 3) := by decide +kernel
theorem dX2_refresh_94 : decode cX2_refresh 94 = .ok (.iload_n 1, 1) := by decide +kernel
theorem dX2_refresh_95 : decode cX2_refresh 95 = .ok (.iaload, 1) := by decide +kernel
theorem dX2_refresh_96 : decode cX2_refresh 96 = .ok (.iadd, 1) := by decide +kernel
theorem dX2_refresh_97 : decode cX2_refresh 97 = .ok (.iastore, 1) := by decide +kernel
theorem dX2_refresh_98 : decode cX2_refresh 98 = .ok (.aload_n 0, 1) := by decide +kernel
theorem dX2_refresh_99 : decode cX2_refresh 99 = .ok (.getfield 17, 3) := by decide +kernel
theorem dX2_refresh_102 : decode cX2_refresh 102 = .ok (.aload_n 0, 1) := by decide +kernel
theorem dX2_refresh_103 : decode cX2_refresh 103 = .ok (.getfield 57, 3) := by decide +kernel
theorem dX2_refresh_106 : decode cX2_refresh 106 = .ok (.getfield 78, 3) := by decide +kernel
theorem dX2_refresh_109 : decode cX2_refresh 109 = .ok (.iload_n 1, 1) := by decide +kernel
theorem dX2_refresh_110 : decode cX2_refresh 110 = .ok (.iaload, 1) := by decide +kernel
theorem dX2_refresh_111 : decode cX2_refresh 111 = .ok (.aaload, 1) := by decide +kernel
theorem dX2_refresh_112 : decode cX2_refresh 112 = .ok (.aload_n 0, 1) := by decide +kernel
theorem dX2_refresh_113 : decode cX2_refresh 113 = .ok (.getfield 57, 3) := by decide +kernel
theorem dX2_refresh_116 : decode cX2_refresh 116 = .ok (.getfield 75, 3) := by decide +kernel
theorem dX2_refresh_119 : decode cX2_refresh 119 = .ok (.iload_n 1, 1) := by decide +kernel
theorem dX2_refresh_120 : decode cX2_refresh 120 = .ok (.iaload, 1) := by decide +kernel
theorem dX2_refresh_121 : decode cX2_refresh 121 = .ok (.dup2, 1) := by decide +kernel
theorem dX2_refresh_122 : decode cX2_refresh 122 = .ok (.iaload, 1) := by decide +kernel
theorem dX2_refresh_123 : decode cX2_refresh 123 = .ok (.aload_n 0, 1) := by decide +kernel
theorem dX2_refresh_124 : decode cX2_refresh 124 = .ok (.getfield 57, 3) := by decide +kernel
theorem dX2_refresh_127 : decode cX2_refresh 127 = .ok (.getfield 81, 3) := by decide +kernel
theorem dX2_refresh_130 : decode cX2_refresh 130 = .ok (.iload_n 1, 1) := by decide +kernel
theorem dX2_refresh_131 : decode cX2_refresh 131 = .ok (.iaload, 1) := by decide +kernel
theorem dX2_refresh_132 : decode cX2_refresh 132 = .ok (.iadd, 1) := by decide +kernel
theorem dX2_refresh_133 : decode cX2_refresh 133 = .ok (.iastore, 1) := by decide +kernel
theorem dX2_refresh_134 : decode cX2_refresh 134 = .ok (.iinc 1 1, 3) := by decide +kernel
theorem dX2_refresh_137 : decode cX2_refresh 137 = .ok (.goto (-86), 3) := by decide +kernel
theorem dX2_refresh_140 : decode cX2_refresh 140 = .ok (.iconst 0, 1) := by decide +kernel
theorem dX2_refresh_141 : decode cX2_refresh 141 = .ok (.istore_n 1, 1) := by decide +kernel
theorem dX2_refresh_142 : decode cX2_refresh 142 = .ok (.iload_n 1, 1) := by decide +kernel
theorem dX2_refresh_143 : decode cX2_refresh 143 = .ok (.aload_n 0, 1) := by decide +kernel
theorem dX2_refresh_144 : decode cX2_refresh 144 = .ok (.getfield 57, 3) := by decide +kernel
theorem dX2_refresh_147 : decode cX2_refresh 147 = .ok (.getfield 61, 3) := by decide +kernel
theorem dX2_refresh_150 : decode cX2_refresh 150 = .ok (.if_icmp .ge 13, 3) := by decide +kernel
theorem dX2_refresh_153 : decode cX2_refresh 153 = .ok (.aload_n 0, 1) := by decide +kernel
theorem dX2_refresh_154 : decode cX2_refresh 154 = .ok (.invokevirtual 84, 3) := by decide +kernel
theorem dX2_refresh_157 : decode cX2_refresh 157 = .ok (.iinc 1 1, 3) := by decide +kernel
theorem dX2_refresh_160 : decode cX2_refresh 160 = .ok (.goto (-18), 3) := by decide +kernel
theorem dX2_refresh_163 : decode cX2_refresh 163 = .ok (.return_, 1) := by decide +kernel
theorem dX2_lowerGrounds_0 : decode cX2_lowerGrounds 0 = .ok (.iconst 0, 1) := by decide +kernel
theorem dX2_lowerGrounds_1 : decode cX2_lowerGrounds 1 = .ok (.istore_n 1, 1) := by decide +kernel
theorem dX2_lowerGrounds_2 : decode cX2_lowerGrounds 2 = .ok (.iload_n 1, 1) := by decide +kernel
theorem dX2_lowerGrounds_3 : decode cX2_lowerGrounds 3 = .ok (.aload_n 0, 1) := by decide +kernel
theorem dX2_lowerGrounds_4 : decode cX2_lowerGrounds 4 = .ok (.getfield 57, 3) := by decide +kernel
theorem dX2_lowerGrounds_7 : decode cX2_lowerGrounds 7 = .ok (.getfield 72, 3) := by decide +kernel
theorem dX2_lowerGrounds_10 : decode cX2_lowerGrounds 10 = .ok (.if_icmp .ge 83, 3) := by decide +kernel
theorem dX2_lowerGrounds_13 : decode cX2_lowerGrounds 13 = .ok (.aload_n 0, 1) := by decide +kernel
theorem dX2_lowerGrounds_14 : decode cX2_lowerGrounds 14 = .ok (.getfield 57, 3) := by decide +kernel
theorem dX2_lowerGrounds_17 : decode cX2_lowerGrounds 17 = .ok (.getfield 81, 3) := by decide +kernel
theorem dX2_lowerGrounds_20 : decode cX2_lowerGrounds 20 = .ok (.iload_n 1, 1) := by decide +kernel
theorem dX2_lowerGrounds_21 : decode cX2_lowerGrounds 21 = .ok (.iaload, 1) := by decide +kernel
theorem dX2_lowerGrounds_22 : decode cX2_lowerGrounds 22 = .ok (.ifCond .le 65, 3) := by decide +kernel
theorem dX2_lowerGrounds_25 : decode cX2_lowerGrounds 25 = .ok (.aload_n 0, 1) := by decide +kernel
theorem dX2_lowerGrounds_26 : decode cX2_lowerGrounds 26 = .ok (.getfield 9, 3) := by decide +kernel
theorem dX2_lowerGrounds_29 : decode cX2_lowerGrounds 29 = .ok (.aload_n 0, 1) := by decide +kernel
theorem dX2_lowerGrounds_30 : decode cX2_lowerGrounds 30 = .ok (.getfield 57, 3) := by decide +kernel
theorem dX2_lowerGrounds_33 : decode cX2_lowerGrounds 33 = .ok (.getfield 75, 3) := by decide +kernel
theorem dX2_lowerGrounds_36 : decode cX2_lowerGrounds 36 = .ok (.iload_n 1, 1) := by decide +kernel
theorem dX2_lowerGrounds_37 : decode cX2_lowerGrounds 37 = .ok (.iaload, 1) := by decide +kernel
theorem dX2_lowerGrounds_38 : decode cX2_lowerGrounds 38 = .ok (.iaload, 1) := by decide +kernel
theorem dX2_lowerGrounds_39 : decode cX2_lowerGrounds 39 = .ok (.aload_n 0, 1) := by decide +kernel
theorem dX2_lowerGrounds_40 : decode cX2_lowerGrounds 40 = .ok (.getfield 9, 3) := by decide +kernel
theorem dX2_lowerGrounds_43 : decode cX2_lowerGrounds 43 = .ok (.aload_n 0, 1) := by decide +kernel
theorem dX2_lowerGrounds_44 : decode cX2_lowerGrounds 44 = .ok (.getfield 57, 3) := by decide +kernel
theorem dX2_lowerGrounds_47 : decode cX2_lowerGrounds 47 = .ok (.getfield 78, 3) := by decide +kernel
theorem dX2_lowerGrounds_50 : decode cX2_lowerGrounds 50 = .ok (.iload_n 1, 1) := by decide +kernel
theorem dX2_lowerGrounds_51 : decode cX2_lowerGrounds 51 = .ok (.iaload, 1) := by decide +kernel
theorem dX2_lowerGrounds_52 : decode cX2_lowerGrounds 52 = .ok (.iaload, 1) := by decide +kernel
theorem dX2_lowerGrounds_53 : decode cX2_lowerGrounds 53 = .ok (.invokestatic 87, 3) := by decide +kernel
theorem dX2_lowerGrounds_56 : decode cX2_lowerGrounds 56 = .ok (.istore_n 2, 1) := by decide +kernel
theorem dX2_lowerGrounds_57 : decode cX2_lowerGrounds 57 = .ok (.aload_n 0, 1) := by decide +kernel
theorem dX2_lowerGrounds_58 : decode cX2_lowerGrounds 58 = .ok (.getfield 9, 3) := by decide +kernel
theorem dX2_lowerGrounds_61 : decode cX2_lowerGrounds 61 = .ok (.aload_n 0, 1) := by decide +kernel
theorem dX2_lowerGrounds_62 : decode cX2_lowerGrounds 62 = .ok (.getfield 57, 3) := by decide +kernel
theorem dX2_lowerGrounds_65 : decode cX2_lowerGrounds 65 = .ok (.getfield 75, 3) := by decide +kernel
theorem dX2_lowerGrounds_68 : decode cX2_lowerGrounds 68 = .ok (.iload_n 1, 1) := by decide +kernel
theorem dX2_lowerGrounds_69 : decode cX2_lowerGrounds 69 = .ok (.iaload, 1) := by decide +kernel
theorem dX2_lowerGrounds_70 : decode cX2_lowerGrounds 70 = .ok (.iload_n 2, 1) := by decide +kernel
theorem dX2_lowerGrounds_71 : decode cX2_lowerGrounds 71 = .ok (.iastore, 1) := by decide +kernel
theorem dX2_lowerGrounds_72 : decode cX2_lowerGrounds 72 = .ok (.aload_n 0, 1) := by decide +kernel
theorem dX2_lowerGrounds_73 : decode cX2_lowerGrounds 73 = .ok (.getfield 9, 3) := by decide +kernel
theorem dX2_lowerGrounds_76 : decode cX2_lowerGrounds 76 = .ok (.aload_n 0, 1) := by decide +kernel
theorem dX2_lowerGrounds_77 : decode cX2_lowerGrounds 77 = .ok (.getfield 57, 3) := by decide +kernel
theorem dX2_lowerGrounds_80 : decode cX2_lowerGrounds 80 = .ok (.getfield 78, 3) := by decide +kernel
theorem dX2_lowerGrounds_83 : decode cX2_lowerGrounds 83 = .ok (.iload_n 1, 1) := by decide +kernel
theorem dX2_lowerGrounds_84 : decode cX2_lowerGrounds 84 = .ok (.iaload, 1) := by decide +kernel
theorem dX2_lowerGrounds_85 : decode cX2_lowerGrounds 85 = .ok (.iload_n 2, 1) := by decide +kernel
theorem dX2_lowerGrounds_86 : decode cX2_lowerGrounds 86 = .ok (.iastore, 1) := by decide +kernel
theorem dX2_lowerGrounds_87 : decode cX2_lowerGrounds 87 = .ok (.iinc 1 1, 3) := by decide +kernel
theorem dX2_lowerGrounds_90 : decode cX2_lowerGrounds 90 = .ok (.goto (-88), 3) := by decide +kernel
theorem dX2_lowerGrounds_93 : decode cX2_lowerGrounds 93 = .ok (.return_, 1) := by decide +kernel
theorem dX2_countPieces_0 : decode cX2_countPieces 0 = .ok (.iconst 0, 1) := by decide +kernel
theorem dX2_countPieces_1 : decode cX2_countPieces 1 = .ok (.istore_n 1, 1) := by decide +kernel
theorem dX2_countPieces_2 : decode cX2_countPieces 2 = .ok (.iconst 0, 1) := by decide +kernel
theorem dX2_countPieces_3 : decode cX2_countPieces 3 = .ok (.istore_n 2, 1) := by decide +kernel
theorem dX2_countPieces_4 : decode cX2_countPieces 4 = .ok (.iload_n 2, 1) := by decide +kernel
theorem dX2_countPieces_5 : decode cX2_countPieces 5 = .ok (.aload_n 0, 1) := by decide +kernel
theorem dX2_countPieces_6 : decode cX2_countPieces 6 = .ok (.getfield 57, 3) := by decide +kernel
theorem dX2_countPieces_9 : decode cX2_countPieces 9 = .ok (.getfield 61, 3) := by decide +kernel
theorem dX2_countPieces_12 : decode cX2_countPieces 12 = .ok (.if_icmp .ge 22, 3) := by decide +kernel
theorem dX2_countPieces_15 : decode cX2_countPieces 15 = .ok (.aload_n 0, 1) := by decide +kernel
theorem dX2_countPieces_16 : decode cX2_countPieces 16 = .ok (.getfield 9, 3) := by decide +kernel
theorem dX2_countPieces_19 : decode cX2_countPieces 19 = .ok (.iload_n 2, 1) := by decide +kernel
theorem dX2_countPieces_20 : decode cX2_countPieces 20 = .ok (.iaload, 1) := by decide +kernel
theorem dX2_countPieces_21 : decode cX2_countPieces 21 = .ok (.iload_n 2, 1) := by decide +kernel
theorem dX2_countPieces_22 : decode cX2_countPieces 22 = .ok (.if_icmp .ne 6, 3) := by decide +kernel
theorem dX2_countPieces_25 : decode cX2_countPieces 25 = .ok (.iinc 1 1, 3) := by decide +kernel
theorem dX2_countPieces_28 : decode cX2_countPieces 28 = .ok (.iinc 2 1, 3) := by decide +kernel
theorem dX2_countPieces_31 : decode cX2_countPieces 31 = .ok (.goto (-27), 3) := by decide +kernel
theorem dX2_countPieces_34 : decode cX2_countPieces 34 = .ok (.iload_n 1, 1) := by decide +kernel
theorem dX2_countPieces_35 : decode cX2_countPieces 35 = .ok (.ireturn, 1) := by decide +kernel
theorem dX2_entryOf_0 : decode cX2_entryOf 0 = .ok (.aload_n 0, 1) := by decide +kernel
theorem dX2_entryOf_1 : decode cX2_entryOf 1 = .ok (.getfield 22, 3) := by decide +kernel
theorem dX2_entryOf_4 : decode cX2_entryOf 4 = .ok (.iload_n 1, 1) := by decide +kernel
theorem dX2_entryOf_5 : decode cX2_entryOf 5 = .ok (.bipush 10, 2) := by decide +kernel
theorem dX2_entryOf_7 : decode cX2_entryOf 7 = .ok (.imul, 1) := by decide +kernel
theorem dX2_entryOf_8 : decode cX2_entryOf 8 = .ok (.iload_n 2, 1) := by decide +kernel
theorem dX2_entryOf_9 : decode cX2_entryOf 9 = .ok (.iadd, 1) := by decide +kernel
theorem dX2_entryOf_10 : decode cX2_entryOf 10 = .ok (.aaload, 1) := by decide +kernel
theorem dX2_entryOf_11 : decode cX2_entryOf 11 = .ok (.areturn, 1) := by decide +kernel
theorem dX2_isInner_0 : decode cX2_isInner 0 = .ok (.iload_n 1, 1) := by decide +kernel
theorem dX2_isInner_1 : decode cX2_isInner 1 = .ok (.iload_n 2, 1) := by decide +kernel
theorem dX2_isInner_2 : decode cX2_isInner 2 = .ok (.if_icmp .eq 17, 3) := by decide +kernel
theorem dX2_isInner_5 : decode cX2_isInner 5 = .ok (.aload_n 0, 1) := by decide +kernel
theorem dX2_isInner_6 : decode cX2_isInner 6 = .ok (.getfield 9, 3) := by decide +kernel
theorem dX2_isInner_9 : decode cX2_isInner 9 = .ok (.iload_n 1, 1) := by decide +kernel
theorem dX2_isInner_10 : decode cX2_isInner 10 = .ok (.iaload, 1) := by decide +kernel
theorem dX2_isInner_11 : decode cX2_isInner 11 = .ok (.iload_n 2, 1) := by decide +kernel
theorem dX2_isInner_12 : decode cX2_isInner 12 = .ok (.if_icmp .ne 7, 3) := by decide +kernel
theorem dX2_isInner_15 : decode cX2_isInner 15 = .ok (.iconst 1, 1) := by decide +kernel
theorem dX2_isInner_16 : decode cX2_isInner 16 = .ok (.goto 4, 3) := by decide +kernel
theorem dX2_isInner_19 : decode cX2_isInner 19 = .ok (.iconst 0, 1) := by decide +kernel
theorem dX2_isInner_20 : decode cX2_isInner 20 = .ok (.ireturn, 1) := by decide +kernel
theorem dX2_settle_0 : decode cX2_settle 0 = .ok (.aload_n 0, 1) := by decide +kernel
theorem dX2_settle_1 : decode cX2_settle 1 = .ok (.getfield 53, 3) := by decide +kernel
theorem dX2_settle_4 : decode cX2_settle 4 = .ok (.iload_n 1, 1) := by decide +kernel
theorem dX2_settle_5 : decode cX2_settle 5 = .ok (.if_icmp .ne 4, 3) := by decide +kernel
theorem dX2_settle_8 : decode cX2_settle 8 = .ok (.return_, 1) := by decide +kernel
theorem dX2_settle_9 : decode cX2_settle 9 = .ok (.aload_n 0, 1) := by decide +kernel
theorem dX2_settle_10 : decode cX2_settle 10 = .ok (.iload_n 1, 1) := by decide +kernel
theorem dX2_settle_11 : decode cX2_settle 11 = .ok (.putfield 53, 3) := by decide +kernel
theorem dX2_settle_14 : decode cX2_settle 14 = .ok (.aload_n 0, 1) := by decide +kernel
theorem dX2_settle_15 : decode cX2_settle 15 = .ok (.getfield 29, 3) := by decide +kernel
theorem dX2_settle_18 : decode cX2_settle 18 = .ok (.lconst 1, 1) := by decide +kernel
theorem dX2_settle_19 : decode cX2_settle 19 = .ok (.invokevirtual 93, 3) := by decide +kernel
theorem dX2_settle_22 : decode cX2_settle 22 = .ok (.iconst 0, 1) := by decide +kernel
theorem dX2_settle_23 : decode cX2_settle 23 = .ok (.istore_n 2, 1) := by decide +kernel
theorem dX2_settle_24 : decode cX2_settle 24 = .ok (.iload_n 2, 1) := by decide +kernel
theorem dX2_settle_25 : decode cX2_settle 25 = .ok (.aload_n 0, 1) := by decide +kernel
theorem dX2_settle_26 : decode cX2_settle 26 = .ok (.getfield 57, 3) := by decide +kernel
theorem dX2_settle_29 : decode cX2_settle 29 = .ok (.getfield 61, 3) := by decide +kernel
theorem dX2_settle_32 : decode cX2_settle 32 = .ok (.if_icmp .ge 78, 3) := by decide +kernel
theorem dX2_settle_35 : decode cX2_settle 35 = .ok (.iload_n 2, 1) := by decide +kernel
theorem dX2_settle_36 : decode cX2_settle 36 = .ok (.istore_n 3, 1) := by decide +kernel
theorem dX2_settle_37 : decode cX2_settle 37 = .ok (.iload_n 3, 1) := by decide +kernel
theorem dX2_settle_38 : decode cX2_settle 38 = .ok (.aload_n 0, 1) := by decide +kernel
theorem dX2_settle_39 : decode cX2_settle 39 = .ok (.getfield 57, 3) := by decide +kernel
theorem dX2_settle_42 : decode cX2_settle 42 = .ok (.getfield 61, 3) := by decide +kernel
theorem dX2_settle_45 : decode cX2_settle 45 = .ok (.if_icmp .ge 59, 3) := by decide +kernel
