theorem dX2_init_0 : decode cX2_init 0 = .ok (.aload_n 0, 1) := by decide +kernel
theorem dX2_init_1 : decode cX2_init 1 = .ok (.invokespecial 1, 3) := by decide +kernel
theorem dX2_init_4 : decode cX2_init 4 = .ok (.aload_n 0, 1) := by decide +kernel
theorem dX2_init_5 : decode cX2_init 5 = .ok (.bipush 12, 2) := by decide +kernel
theorem dX2_init_7 : decode cX2_init 7 = .ok (.newarray .int, 2) := by decide +kernel
theorem dX2_init_9 : decode cX2_init 9 = .ok (.putfield 9, 3) := by decide +kernel
theorem dX2_init_12 : decode cX2_init 12 = .ok (.getstatic 13, 3) := by decide +kernel
theorem dX2_init_15 : decode cX2_init 15 = .ok (.iconst 0, 1) := by decide +kernel
theorem dX2_init_16 : decode cX2_init 16 = .ok (.aload_n 0, 1) := by decide +kernel
theorem dX2_init_17 : decode cX2_init 17 = .ok (.getfield 9, 3) := by decide +kernel
theorem dX2_init_20 : decode cX2_init 20 = .ok (.iconst 0, 1) := by decide +kernel
theorem dX2_init_21 : decode cX2_init 21 = .ok (.bipush 12, 2) := by decide +kernel
theorem dX2_init_23 : decode cX2_init 23 = .ok (.invokestatic 16, 3) := by decide +kernel
theorem dX2_init_26 : decode cX2_init 26 = .ok (.return_, 1) := by decide +kernel
theorem dX2_signOf_0 : decode cX2_signOf 0 = .ok (.iload_n 0, 1) := by decide +kernel
theorem dX2_signOf_1 : decode cX2_signOf 1 = .ok (.ifCond .lt 21, 3) := by decide +kernel
theorem dX2_signOf_4 : decode cX2_signOf 4 = .ok (.iload_n 0, 1) := by decide +kernel
theorem dX2_signOf_5 : decode cX2_signOf 5 = .ok (.ldc 22, 2) := by decide +kernel
theorem dX2_signOf_7 : decode cX2_signOf 7 = .ok (.invokevirtual 24, 3) := by decide +kernel
theorem dX2_signOf_10 : decode cX2_signOf 10 = .ok (.if_icmp .ge 12, 3) := by decide +kernel
theorem dX2_signOf_13 : decode cX2_signOf 13 = .ok (.ldc 22, 2) := by decide +kernel
theorem dX2_signOf_15 : decode cX2_signOf 15 = .ok (.iload_n 0, 1) := by decide +kernel
theorem dX2_signOf_16 : decode cX2_signOf 16 = .ok (.invokevirtual 30, 3) := by decide +kernel
theorem dX2_signOf_19 : decode cX2_signOf 19 = .ok (.goto 5, 3) := by decide +kernel
theorem dX2_signOf_22 : decode cX2_signOf 22 = .ok (.bipush 32, 2) := by decide +kernel
theorem dX2_signOf_24 : decode cX2_signOf 24 = .ok (.ireturn, 1) := by decide +kernel
theorem dX2_nthOf_0 : decode cX2_nthOf 0 = .ok (.iload_n 1, 1) := by decide +kernel
theorem dX2_nthOf_1 : decode cX2_nthOf 1 = .ok (.istore_n 2, 1) := by decide +kernel
theorem dX2_nthOf_2 : decode cX2_nthOf 2 = .ok (.iconst 0, 1) := by decide +kernel
theorem dX2_nthOf_3 : decode cX2_nthOf 3 = .ok (.istore_n 3, 1) := by decide +kernel
theorem dX2_nthOf_4 : decode cX2_nthOf 4 = .ok (.iload_n 3, 1) := by decide +kernel
theorem dX2_nthOf_5 : decode cX2_nthOf 5 = .ok (.bipush 12, 2) := by decide +kernel
theorem dX2_nthOf_7 : decode cX2_nthOf 7 = .ok (.if_icmp .ge 26, 3) := by decide +kernel
theorem dX2_nthOf_10 : decode cX2_nthOf 10 = .ok (.iload_n 0, 1) := by decide +kernel
theorem dX2_nthOf_11 : decode cX2_nthOf 11 = .ok (.iload_n 3, 1) := by decide +kernel
theorem dX2_nthOf_12 : decode cX2_nthOf 12 = .ok (.ishr, 1) := by decide +kernel
theorem dX2_nthOf_13 : decode cX2_nthOf 13 = .ok (.iconst 1, 1) := by decide +kernel
theorem dX2_nthOf_14 : decode cX2_nthOf 14 = .ok (.iand, 1) := by decide +kernel
theorem dX2_nthOf_15 : decode cX2_nthOf 15 = .ok (.ifCond .eq 12, 3) := by decide +kernel
theorem dX2_nthOf_18 : decode cX2_nthOf 18 = .ok (.iload_n 2, 1) := by decide +kernel
theorem dX2_nthOf_19 : decode cX2_nthOf 19 = .ok (.ifCond .ne 5, 3) := by decide +kernel
theorem dX2_nthOf_22 : decode cX2_nthOf 22 = .ok (.iload_n 3, 1) := by decide +kernel
theorem dX2_nthOf_23 : decode cX2_nthOf 23 = .ok (.ireturn, 1) := by decide +kernel
theorem dX2_nthOf_24 : decode cX2_nthOf 24 = .ok (.iinc 2 (-1), 3) := by decide +kernel
theorem dX2_nthOf_27 : decode cX2_nthOf 27 = .ok (.iinc 3 1, 3) := by decide +kernel
theorem dX2_nthOf_30 : decode cX2_nthOf 30 = .ok (.goto (-26), 3) := by decide +kernel
theorem dX2_nthOf_33 : decode cX2_nthOf 33 = .ok (.iconst (-1), 1) := by decide +kernel
theorem dX2_nthOf_34 : decode cX2_nthOf 34 = .ok (.ireturn, 1) := by decide +kernel
theorem dX2_weightOf_0 : decode cX2_weightOf 0 = .ok (.iload_n 1, 1) := by decide +kernel
theorem dX2_weightOf_1 : decode cX2_weightOf 1 = .ok (.ifCond .lt 21, 3) := by decide +kernel
theorem dX2_weightOf_4 : decode cX2_weightOf 4 = .ok (.iload_n 1, 1) := by decide +kernel
theorem dX2_weightOf_5 : decode cX2_weightOf 5 = .ok (.aload_n 0, 1) := by decide +kernel
theorem dX2_weightOf_6 : decode cX2_weightOf 6 = .ok (.getfield 9, 3) := by decide +kernel
theorem dX2_weightOf_9 : decode cX2_weightOf 9 = .ok (.arraylength, 1) := by decide +kernel
theorem dX2_weightOf_10 : decode cX2_weightOf 10 = .ok (.if_icmp .ge 12, 3) := by decide +kernel
theorem dX2_weightOf_13 : decode cX2_weightOf 13 = .ok (.aload_n 0, 1) := by decide +kernel
theorem dX2_weightOf_14 : decode cX2_weightOf 14 = .ok (.getfield 9, 3) := by decide +kernel
theorem dX2_weightOf_17 : decode cX2_weightOf 17 = .ok (.iload_n 1, 1) := by decide +kernel
theorem dX2_weightOf_18 : decode cX2_weightOf 18 = .ok (.iaload, 1) := by decide +kernel
theorem dX2_weightOf_19 : decode cX2_weightOf 19 = .ok (.goto 4, 3) := by decide +kernel
theorem dX2_weightOf_22 : decode cX2_weightOf 22 = .ok (.iconst 0, 1) := by decide +kernel
theorem dX2_weightOf_23 : decode cX2_weightOf 23 = .ok (.ireturn, 1) := by decide +kernel
theorem dX2_setWeight_0 : decode cX2_setWeight 0 = .ok (.iload_n 1, 1) := by decide +kernel
theorem dX2_setWeight_1 : decode cX2_setWeight 1 = .ok (.ifCond .lt 29, 3) := by decide +kernel
theorem dX2_setWeight_4 : decode cX2_setWeight 4 = .ok (.iload_n 1, 1) := by decide +kernel
theorem dX2_setWeight_5 : decode cX2_setWeight 5 = .ok (.aload_n 0, 1) := by decide +kernel
theorem dX2_setWeight_6 : decode cX2_setWeight 6 = .ok (.getfield 9, 3) := by decide +kernel
theorem dX2_setWeight_9 : decode cX2_setWeight 9 = .ok (.arraylength, 1) := by decide +kernel
theorem dX2_setWeight_10 : decode cX2_setWeight 10 = .ok (.if_icmp .ge 20, 3) := by decide +kernel
theorem dX2_setWeight_13 : decode cX2_setWeight 13 = .ok (.aload_n 0, 1) := by decide +kernel
theorem dX2_setWeight_14 : decode cX2_setWeight 14 = .ok (.getfield 9, 3) := by decide +kernel
theorem dX2_setWeight_17 : decode cX2_setWeight 17 = .ok (.iload_n 1, 1) := by decide +kernel
theorem dX2_setWeight_18 : decode cX2_setWeight 18 = .ok (.iload_n 2, 1) := by decide +kernel
theorem dX2_setWeight_19 : decode cX2_setWeight 19 = .ok (.iastore, 1) := by decide +kernel
theorem dX2_setWeight_20 : decode cX2_setWeight 20 = .ok (.aload_n 0, 1) := by decide +kernel
theorem dX2_setWeight_21 : decode cX2_setWeight 21 = .ok (.dup, 1) := by decide +kernel
theorem dX2_setWeight_22 : decode cX2_setWeight 22 = .ok (.getfield 34, 3) := by decide +kernel
theorem dX2_setWeight_25 : decode cX2_setWeight 25 = .ok (.iconst 1, 1) := by decide +kernel
theorem dX2_setWeight_26 : decode cX2_setWeight 26 = .ok (.iadd, 1) := by decide +kernel
theorem dX2_setWeight_27 : decode cX2_setWeight 27 = .ok (.putfield 34, 3) := by decide +kernel
theorem dX2_setWeight_30 : decode cX2_setWeight 30 = .ok (.return_, 1) := by decide +kernel
theorem dX2_adopt_0 : decode cX2_adopt 0 = .ok (.iconst 0, 1) := by decide +kernel
theorem dX2_adopt_1 : decode cX2_adopt 1 = .ok (.istore_n 2, 1) := by decide +kernel
theorem dX2_adopt_2 : decode cX2_adopt 2 = .ok (.iconst 0, 1) := by decide +kernel
theorem dX2_adopt_3 : decode cX2_adopt 3 = .ok (.istore_n 3, 1) := by decide +kernel
theorem dX2_adopt_4 : decode cX2_adopt 4 = .ok (.iload_n 3, 1) := by decide +kernel
theorem dX2_adopt_5 : decode cX2_adopt 5 = .ok (.bipush 12, 2) := by decide +kernel
theorem dX2_adopt_7 : decode cX2_adopt 7 = .ok (.if_icmp .ge 59, 3) := by decide +kernel
theorem dX2_adopt_10 : decode cX2_adopt 10 = .ok (.iload_n 1, 1) := by decide +kernel
theorem dX2_adopt_11 : decode cX2_adopt 11 = .ok (.bipush 12, 2) := by decide +kernel
theorem dX2_adopt_13 : decode cX2_adopt 13 = .ok (.imul, 1) := by decide +kernel
theorem dX2_adopt_14 : decode cX2_adopt 14 = .ok (.iload_n 3, 1) := by decide +kernel
theorem dX2_adopt_15 : decode cX2_adopt 15 = .ok (.iadd, 1) := by decide +kernel
theorem dX2_adopt_16 : decode cX2_adopt 16 = .ok (.istore 4, 2) := by decide +kernel
theorem dX2_adopt_18 : decode cX2_adopt 18 = .ok (.iload 4, 2) := by decide +kernel
theorem dX2_adopt_20 : decode cX2_adopt 20 = .ok (.ifCond .lt 40, 3) := by decide +kernel
theorem dX2_adopt_23 : decode cX2_adopt 23 = .ok (.iload 4, 2) := by decide +kernel
theorem dX2_adopt_25 : decode cX2_adopt 25 = .ok (.getstatic 13, 3) := by decide +kernel
theorem dX2_adopt_28 : decode cX2_adopt 28 = .ok (.arraylength, 1) := by decide +kernel
theorem dX2_adopt_29 : decode cX2_adopt 29 = .ok (.if_icmp .ge 31, 3) := by decide +kernel
theorem dX2_adopt_32 : decode cX2_adopt 32 = .ok (.aload_n 0, 1) := by decide +kernel
theorem dX2_adopt_33 : decode cX2_adopt 33 = .ok (.iload_n 3, 1) := by decide +kernel
theorem dX2_adopt_34 : decode cX2_adopt 34 = .ok (.invokevirtual 38, 3) := by decide +kernel
theorem dX2_adopt_37 : decode cX2_adopt 37 = .ok (.getstatic 13, 3) := by decide +kernel
theorem dX2_adopt_40 : decode cX2_adopt 40 = .ok (.iload 4, 2) := by decide +kernel
theorem dX2_adopt_42 : decode cX2_adopt 42 = .ok (.iaload, 1) := by decide +kernel
theorem dX2_adopt_43 : decode cX2_adopt 43 = .ok (.if_icmp .eq 17, 3) := by decide +kernel
theorem dX2_adopt_46 : decode cX2_adopt 46 = .ok (.aload_n 0, 1) := by decide +kernel
theorem dX2_adopt_47 : decode cX2_adopt 47 = .ok (.iload_n 3, 1) := by decide +kernel
theorem dX2_adopt_48 : decode cX2_adopt 48 = .ok (.getstatic 13, 3) := by decide +kernel
theorem dX2_adopt_51 : decode cX2_adopt 51 = .ok (.iload 4, 2) := by decide +kernel
theorem dX2_adopt_53 : decode cX2_adopt 53 = .ok (.iaload, 1) := by decide +kernel
theorem dX2_adopt_54 : decode cX2_adopt 54 = .ok (.invokevirtual 42, 3) := by decide +kernel
theorem dX2_adopt_57 : decode cX2_adopt 57 = .ok (.iinc 2 1, 3) := by decide +kernel
theorem dX2_adopt_60 : decode cX2_adopt 60 = .ok (.iinc 3 1, 3) := by decide +kernel
theorem dX2_adopt_63 : decode cX2_adopt 63 = .ok (.goto (-59), 3) := by decide +kernel
theorem dX2_adopt_66 : decode cX2_adopt 66 = .ok (.iload_n 2, 1) := by decide +kernel
theorem dX2_adopt_67 : decode cX2_adopt 67 = .ok (.ireturn, 1) := by decide +kernel
theorem dX2_changes_0 : decode cX2_changes 0 = .ok (.aload_n 0, 1) := by decide +kernel
theorem dX2_changes_1 : decode cX2_changes 1 = .ok (.getfield 34, 3) := by decide +kernel
theorem dX2_changes_4 : decode cX2_changes 4 = .ok (.ireturn, 1) := by decide +kernel
theorem dX2_weighing_0 : decode cX2_weighing 0 = .ok (.iconst 0, 1) := by decide +kernel
theorem dX2_weighing_1 : decode cX2_weighing 1 = .ok (.istore_n 2, 1) := by decide +kernel
theorem dX2_weighing_2 : decode cX2_weighing 2 = .ok (.iconst 0, 1) := by decide +kernel
theorem dX2_weighing_3 : decode cX2_weighing 3 = .ok (.istore_n 3, 1) := by decide +kernel
theorem dX2_weighing_4 : decode cX2_weighing 4 = .ok (.iload_n 3, 1) := by decide +kernel
theorem dX2_weighing_5 : decode cX2_weighing 5 = .ok (.bipush 12, 2) := by decide +kernel
theorem dX2_weighing_7 : decode cX2_weighing 7 = .ok (.if_icmp .ge 24, 3) := by decide +kernel
theorem dX2_weighing_10 : decode cX2_weighing 10 = .ok (.aload_n 0, 1) := by decide +kernel
theorem dX2_weighing_11 : decode cX2_weighing 11 = .ok (.iload_n 3, 1) := by decide +kernel
theorem dX2_weighing_12 : decode cX2_weighing 12 = .ok (.invokevirtual 38, 3) := by decide +kernel
theorem dX2_weighing_15 : decode cX2_weighing 15 = .ok (.iload_n 1, 1) := by decide +kernel
theorem dX2_weighing_16 : decode cX2_weighing 16 = .ok (.if_icmp .lt 9, 3) := by decide +kernel
theorem dX2_weighing_19 : decode cX2_weighing 19 = .ok (.iload_n 2, 1) := by decide +kernel
theorem dX2_weighing_20 : decode cX2_weighing 20 = .ok (.iconst 1, 1) := by decide +kernel
theorem dX2_weighing_21 : decode cX2_weighing 21 = .ok (.iload_n 3, 1) := by decide +kernel
theorem dX2_weighing_22 : decode cX2_weighing 22 = .ok (.ishl, 1) := by decide +kernel
theorem dX2_weighing_23 : decode cX2_weighing 23 = .ok (.ior, 1) := by decide +kernel
theorem dX2_weighing_24 : decode cX2_weighing 24 = .ok (.istore_n 2, 1) := by decide +kernel
theorem dX2_weighing_25 : decode cX2_weighing 25 = .ok (.iinc 3 1, 3) := by decide +kernel
theorem dX2_weighing_28 : decode cX2_weighing 28 = .ok (.goto (-24), 3) := by decide +kernel
theorem dX2_weighing_31 : decode cX2_weighing 31 = .ok (.iload_n 2, 1) := by decide +kernel
theorem dX2_weighing_32 : decode cX2_weighing 32 = .ok (.ireturn, 1) := by decide +kernel
theorem dX2_costOf_0 : decode cX2_costOf 0 = .ok (.iconst 0, 1) := by decide +kernel
theorem dX2_costOf_1 : decode cX2_costOf 1 = .ok (.istore_n 2, 1) := by decide +kernel
theorem dX2_costOf_2 : decode cX2_costOf 2 = .ok (.iconst 0, 1) := by decide +kernel
theorem dX2_costOf_3 : decode cX2_costOf 3 = .ok (.istore_n 3, 1) := by decide +kernel
theorem dX2_costOf_4 : decode cX2_costOf 4 = .ok (.iload_n 3, 1) := by decide +kernel
theorem dX2_costOf_5 : decode cX2_costOf 5 = .ok (.bipush 12, 2) := by decide +kernel
theorem dX2_costOf_7 : decode cX2_costOf 7 = .ok (.if_icmp .ge 31, 3) := by decide +kernel
theorem dX2_costOf_10 : decode cX2_costOf 10 = .ok (.iload_n 1, 1) := by decide +kernel
theorem dX2_costOf_11 : decode cX2_costOf 11 = .ok (.iload_n 3, 1) := by decide +kernel
theorem dX2_costOf_12 : decode cX2_costOf 12 = .ok (.ishr, 1) := by decide +kernel
theorem dX2_costOf_13 : decode cX2_costOf 13 = .ok (.ifCond .eq 25, 3) := by decide +kernel
theorem dX2_costOf_16 : decode cX2_costOf 16 = .ok (.iload_n 1, 1) := by decide +kernel
theorem dX2_costOf_17 : decode cX2_costOf 17 = .ok (.iload_n 3, 1) := by decide +kernel
theorem dX2_costOf_18 : decode cX2_costOf 18 = .ok (.ishr, 1) := by decide +kernel
theorem dX2_costOf_19 : decode cX2_costOf 19 = .ok (.iconst 1, 1) := by decide +kernel
theorem dX2_costOf_20 : decode cX2_costOf 20 = .ok (.iand, 1) := by decide +kernel
theorem dX2_costOf_21 : decode cX2_costOf 21 = .ok (.ifCond .eq 11, 3) := by decide +kernel
theorem dX2_costOf_24 : decode cX2_costOf 24 = .ok (.iload_n 2, 1) := by decide +kernel
theorem dX2_costOf_25 : decode cX2_costOf 25 = .ok (.aload_n 0, 1) := by decide +kernel
theorem dX2_costOf_26 : decode cX2_costOf 26 = .ok (.iload_n 3, 1) := by decide +kernel
theorem dX2_costOf_27 : decode cX2_costOf 27 = .ok (.invokevirtual 38, 3) := by decide +kernel
theorem dX2_costOf_30 : decode cX2_costOf 30 = .ok (.iadd, 1) := by decide +kernel
theorem dX2_costOf_31 : decode cX2_costOf 31 = .ok (.istore_n 2, 1) := by decide +kernel
theorem dX2_costOf_32 : decode cX2_costOf 32 = .ok (.iinc 3 1, 3) := by decide +kernel
theorem dX2_costOf_35 : decode cX2_costOf 35 = .ok (.goto (-31), 3) := by decide +kernel
theorem dX2_costOf_38 : decode cX2_costOf 38 = .ok (.iload_n 2, 1) := by decide +kernel
theorem dX2_costOf_39 : decode cX2_costOf 39 = .ok (.ireturn, 1) := by decide +kernel
