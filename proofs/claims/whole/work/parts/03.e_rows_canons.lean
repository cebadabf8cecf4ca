theorem dX0_faultsOf_0 : decode cX0_faultsOf 0 = .ok (.iconst 0, 1) := by decide +kernel
theorem dX0_faultsOf_1 : decode cX0_faultsOf 1 = .ok (.istore_n 3, 1) := by decide +kernel
theorem dX0_faultsOf_2 : decode cX0_faultsOf 2 = .ok (.iconst (-1), 1) := by decide +kernel
theorem dX0_faultsOf_3 : decode cX0_faultsOf 3 = .ok (.istore 4, 2) := by decide +kernel
theorem dX0_faultsOf_5 : decode cX0_faultsOf 5 = .ok (.iload_n 1, 1) := by decide +kernel
theorem dX0_faultsOf_6 : decode cX0_faultsOf 6 = .ok (.istore 5, 2) := by decide +kernel
theorem dX0_faultsOf_8 : decode cX0_faultsOf 8 = .ok (.iload 5, 2) := by decide +kernel
theorem dX0_faultsOf_10 : decode cX0_faultsOf 10 = .ok (.aload_n 0, 1) := by decide +kernel
theorem dX0_faultsOf_11 : decode cX0_faultsOf 11 = .ok (.invokevirtual 7, 3) := by decide +kernel
theorem dX0_faultsOf_14 : decode cX0_faultsOf 14 = .ok (.if_icmp .ge 95, 3) := by decide +kernel
theorem dX0_faultsOf_17 : decode cX0_faultsOf 17 = .ok (.aload_n 0, 1) := by decide +kernel
theorem dX0_faultsOf_18 : decode cX0_faultsOf 18 = .ok (.iload 5, 2) := by decide +kernel
theorem dX0_faultsOf_20 : decode cX0_faultsOf 20 = .ok (.invokevirtual 13, 3) := by decide +kernel
theorem dX0_faultsOf_23 : decode cX0_faultsOf 23 = .ok (.aload_n 0, 1) := by decide +kernel
theorem dX0_faultsOf_24 : decode cX0_faultsOf 24 = .ok (.iload 5, 2) := by decide +kernel
theorem dX0_faultsOf_26 : decode cX0_faultsOf 26 = .ok (.iload_n 1, 1) := by decide +kernel
theorem dX0_faultsOf_27 : decode cX0_faultsOf 27 = .ok (.isub, 1) := by decide +kernel
theorem dX0_faultsOf_28 : decode cX0_faultsOf 28 = .ok (.invokevirtual 13, 3) := by decide +kernel
theorem dX0_faultsOf_31 : decode cX0_faultsOf 31 = .ok (.iload_n 2, 1) := by decide +kernel
theorem dX0_faultsOf_32 : decode cX0_faultsOf 32 = .ok (.iadd, 1) := by decide +kernel
theorem dX0_faultsOf_33 : decode cX0_faultsOf 33 = .ok (.invokestatic 17, 3) := by decide +kernel
theorem dX0_faultsOf_36 : decode cX0_faultsOf 36 = .ok (.istore 6, 2) := by decide +kernel
theorem dX0_faultsOf_38 : decode cX0_faultsOf 38 = .ok (.iload 6, 2) := by decide +kernel
theorem dX0_faultsOf_40 : decode cX0_faultsOf 40 = .ok (.invokestatic 23, 3) := by decide +kernel
theorem dX0_faultsOf_43 : decode cX0_faultsOf 43 = .ok (.ifCond .eq 6, 3) := by decide +kernel
theorem dX0_faultsOf_46 : decode cX0_faultsOf 46 = .ok (.iinc 3 1, 3) := by decide +kernel
theorem dX0_faultsOf_49 : decode cX0_faultsOf 49 = .ok (.aload_n 0, 1) := by decide +kernel
theorem dX0_faultsOf_50 : decode cX0_faultsOf 50 = .ok (.iload 5, 2) := by decide +kernel
theorem dX0_faultsOf_52 : decode cX0_faultsOf 52 = .ok (.invokevirtual 27, 3) := by decide +kernel
theorem dX0_faultsOf_55 : decode cX0_faultsOf 55 = .ok (.ifCond .eq 18, 3) := by decide +kernel
theorem dX0_faultsOf_58 : decode cX0_faultsOf 58 = .ok (.aload_n 0, 1) := by decide +kernel
theorem dX0_faultsOf_59 : decode cX0_faultsOf 59 = .ok (.iload 5, 2) := by decide +kernel
theorem dX0_faultsOf_61 : decode cX0_faultsOf 61 = .ok (.iload_n 1, 1) := by decide +kernel
theorem dX0_faultsOf_62 : decode cX0_faultsOf 62 = .ok (.isub, 1) := by decide +kernel
theorem dX0_faultsOf_63 : decode cX0_faultsOf 63 = .ok (.invokevirtual 27, 3) := by decide +kernel
theorem dX0_faultsOf_66 : decode cX0_faultsOf 66 = .ok (.ifCond .eq 7, 3) := by decide +kernel
theorem dX0_faultsOf_69 : decode cX0_faultsOf 69 = .ok (.iconst 1, 1) := by decide +kernel
theorem dX0_faultsOf_70 : decode cX0_faultsOf 70 = .ok (.goto 4, 3) := by decide +kernel
theorem dX0_faultsOf_73 : decode cX0_faultsOf 73 = .ok (.iconst 0, 1) := by decide +kernel
theorem dX0_faultsOf_74 : decode cX0_faultsOf 74 = .ok (.istore 7, 2) := by decide +kernel
theorem dX0_faultsOf_76 : decode cX0_faultsOf 76 = .ok (.iload 6, 2) := by decide +kernel
theorem dX0_faultsOf_78 : decode cX0_faultsOf 78 = .ok (.iload 4, 2) := by decide +kernel
theorem dX0_faultsOf_80 : decode cX0_faultsOf 80 = .ok (.if_icmp .ne 19, 3) := by decide +kernel
theorem dX0_faultsOf_83 : decode cX0_faultsOf 83 = .ok (.iload 7, 2) := by decide +kernel
theorem dX0_faultsOf_85 : decode cX0_faultsOf 85 = .ok (.ifCond .eq 14, 3) := by decide +kernel
theorem dX0_faultsOf_88 : decode cX0_faultsOf 88 = .ok (.iload 6, 2) := by decide +kernel
theorem dX0_faultsOf_90 : decode cX0_faultsOf 90 = .ok (.invokestatic 30, 3) := by decide +kernel
theorem dX0_faultsOf_93 : decode cX0_faultsOf 93 = .ok (.ifCond .eq 6, 3) := by decide +kernel
theorem dX0_faultsOf_96 : decode cX0_faultsOf 96 = .ok (.iinc 3 1, 3) := by decide +kernel
theorem dX0_faultsOf_99 : decode cX0_faultsOf 99 = .ok (.iload 6, 2) := by decide +kernel
theorem dX0_faultsOf_101 : decode cX0_faultsOf 101 = .ok (.istore 4, 2) := by decide +kernel
theorem dX0_faultsOf_103 : decode cX0_faultsOf 103 = .ok (.iinc 5 1, 3) := by decide +kernel
theorem dX0_faultsOf_106 : decode cX0_faultsOf 106 = .ok (.goto (-98), 3) := by decide +kernel
theorem dX0_faultsOf_109 : decode cX0_faultsOf 109 = .ok (.iload_n 3, 1) := by decide +kernel
theorem dX0_faultsOf_110 : decode cX0_faultsOf 110 = .ok (.ireturn, 1) := by decide +kernel
theorem dX0_farthestOf_0 : decode cX0_farthestOf 0 = .ok (.bipush 12, 2) := by decide +kernel
theorem dX0_farthestOf_2 : decode cX0_farthestOf 2 = .ok (.aload_n 0, 1) := by decide +kernel
theorem dX0_farthestOf_3 : decode cX0_farthestOf 3 = .ok (.invokevirtual 7, 3) := by decide +kernel
theorem dX0_farthestOf_6 : decode cX0_farthestOf 6 = .ok (.iconst 1, 1) := by decide +kernel
theorem dX0_farthestOf_7 : decode cX0_farthestOf 7 = .ok (.isub, 1) := by decide +kernel
theorem dX0_farthestOf_8 : decode cX0_farthestOf 8 = .ok (.invokestatic 35, 3) := by decide +kernel
theorem dX0_farthestOf_11 : decode cX0_farthestOf 11 = .ok (.ireturn, 1) := by decide +kernel
theorem dX0_faultlessCount_0 : decode cX0_faultlessCount 0 = .ok (.iconst 0, 1) := by decide +kernel
theorem dX0_faultlessCount_1 : decode cX0_faultlessCount 1 = .ok (.istore_n 1, 1) := by decide +kernel
theorem dX0_faultlessCount_2 : decode cX0_faultlessCount 2 = .ok (.iconst 1, 1) := by decide +kernel
theorem dX0_faultlessCount_3 : decode cX0_faultlessCount 3 = .ok (.istore_n 2, 1) := by decide +kernel
theorem dX0_faultlessCount_4 : decode cX0_faultlessCount 4 = .ok (.iload_n 2, 1) := by decide +kernel
theorem dX0_faultlessCount_5 : decode cX0_faultlessCount 5 = .ok (.aload_n 0, 1) := by decide +kernel
theorem dX0_faultlessCount_6 : decode cX0_faultlessCount 6 = .ok (.invokestatic 40, 3) := by decide +kernel
theorem dX0_faultlessCount_9 : decode cX0_faultlessCount 9 = .ok (.if_icmp .gt 36, 3) := by decide +kernel
theorem dX0_faultlessCount_12 : decode cX0_faultlessCount 12 = .ok (.bipush (-7), 2) := by decide +kernel
theorem dX0_faultlessCount_14 : decode cX0_faultlessCount 14 = .ok (.istore_n 3, 1) := by decide +kernel
theorem dX0_faultlessCount_15 : decode cX0_faultlessCount 15 = .ok (.iload_n 3, 1) := by decide +kernel
theorem dX0_faultlessCount_16 : decode cX0_faultlessCount 16 = .ok (.bipush 7, 2) := by decide +kernel
theorem dX0_faultlessCount_18 : decode cX0_faultlessCount 18 = .ok (.if_icmp .gt 21, 3) := by decide +kernel
theorem dX0_faultlessCount_21 : decode cX0_faultlessCount 21 = .ok (.aload_n 0, 1) := by decide +kernel
theorem dX0_faultlessCount_22 : decode cX0_faultlessCount 22 = .ok (.iload_n 2, 1) := by decide +kernel
theorem dX0_faultlessCount_23 : decode cX0_faultlessCount 23 = .ok (.iload_n 3, 1) := by decide +kernel
theorem dX0_faultlessCount_24 : decode cX0_faultlessCount 24 = .ok (.invokestatic 44, 3) := by decide +kernel
theorem dX0_faultlessCount_27 : decode cX0_faultlessCount 27 = .ok (.ifCond .ne 6, 3) := by decide +kernel
theorem dX0_faultlessCount_30 : decode cX0_faultlessCount 30 = .ok (.iinc 1 1, 3) := by decide +kernel
theorem dX0_faultlessCount_33 : decode cX0_faultlessCount 33 = .ok (.iinc 3 1, 3) := by decide +kernel
theorem dX0_faultlessCount_36 : decode cX0_faultlessCount 36 = .ok (.goto (-21), 3) := by decide +kernel
theorem dX0_faultlessCount_39 : decode cX0_faultlessCount 39 = .ok (.iinc 2 1, 3) := by decide +kernel
theorem dX0_faultlessCount_42 : decode cX0_faultlessCount 42 = .ok (.goto (-38), 3) := by decide +kernel
theorem dX0_faultlessCount_45 : decode cX0_faultlessCount 45 = .ok (.iload_n 1, 1) := by decide +kernel
theorem dX0_faultlessCount_46 : decode cX0_faultlessCount 46 = .ok (.ireturn, 1) := by decide +kernel
theorem dX0_faultlessNumber_0 : decode cX0_faultlessNumber 0 = .ok (.iconst 0, 1) := by decide +kernel
theorem dX0_faultlessNumber_1 : decode cX0_faultlessNumber 1 = .ok (.istore_n 2, 1) := by decide +kernel
theorem dX0_faultlessNumber_2 : decode cX0_faultlessNumber 2 = .ok (.iconst 1, 1) := by decide +kernel
theorem dX0_faultlessNumber_3 : decode cX0_faultlessNumber 3 = .ok (.istore_n 3, 1) := by decide +kernel
theorem dX0_faultlessNumber_4 : decode cX0_faultlessNumber 4 = .ok (.iload_n 3, 1) := by decide +kernel
theorem dX0_faultlessNumber_5 : decode cX0_faultlessNumber 5 = .ok (.aload_n 0, 1) := by decide +kernel
theorem dX0_faultlessNumber_6 : decode cX0_faultlessNumber 6 = .ok (.invokestatic 40, 3) := by decide +kernel
theorem dX0_faultlessNumber_9 : decode cX0_faultlessNumber 9 = .ok (.if_icmp .gt 55, 3) := by decide +kernel
theorem dX0_faultlessNumber_12 : decode cX0_faultlessNumber 12 = .ok (.bipush (-7), 2) := by decide +kernel
theorem dX0_faultlessNumber_14 : decode cX0_faultlessNumber 14 = .ok (.istore 4, 2) := by decide +kernel
theorem dX0_faultlessNumber_16 : decode cX0_faultlessNumber 16 = .ok (.iload 4, 2) := by decide +kernel
theorem dX0_faultlessNumber_18 : decode cX0_faultlessNumber 18 = .ok (.bipush 7, 2) := by decide +kernel
theorem dX0_faultlessNumber_20 : decode cX0_faultlessNumber 20 = .ok (.if_icmp .gt 38, 3) := by decide +kernel
theorem dX0_faultlessNumber_23 : decode cX0_faultlessNumber 23 = .ok (.aload_n 0, 1) := by decide +kernel
theorem dX0_faultlessNumber_24 : decode cX0_faultlessNumber 24 = .ok (.iload_n 3, 1) := by decide +kernel
theorem dX0_faultlessNumber_25 : decode cX0_faultlessNumber 25 = .ok (.iload 4, 2) := by decide +kernel
theorem dX0_faultlessNumber_27 : decode cX0_faultlessNumber 27 = .ok (.invokestatic 44, 3) := by decide +kernel
theorem dX0_faultlessNumber_30 : decode cX0_faultlessNumber 30 = .ok (.ifCond .ne 22, 3) := by decide +kernel
theorem dX0_faultlessNumber_33 : decode cX0_faultlessNumber 33 = .ok (.iload_n 2, 1) := by decide +kernel
theorem dX0_faultlessNumber_34 : decode cX0_faultlessNumber 34 = .ok (.iload_n 1, 1) := by decide +kernel
theorem dX0_faultlessNumber_35 : decode cX0_faultlessNumber 35 = .ok (.if_icmp .ne 14, 3) := by decide +kernel
theorem dX0_faultlessNumber_38 : decode cX0_faultlessNumber 38 = .ok (.bipush 100, 2) := by decide +kernel
theorem dX0_faultlessNumber_40 : decode cX0_faultlessNumber 40 = .ok (.iload_n 3, 1) := by decide +kernel
theorem dX0_faultlessNumber_41 : decode cX0_faultlessNumber 41 = .ok (.imul, 1) := by decide +kernel
theorem dX0_faultlessNumber_42 : decode cX0_faultlessNumber 42 = .ok (.bipush 50, 2) := by decide +kernel
theorem dX0_faultlessNumber_44 : decode cX0_faultlessNumber 44 = .ok (.iadd, 1) := by decide +kernel
theorem dX0_faultlessNumber_45 : decode cX0_faultlessNumber 45 = .ok (.iload 4, 2) := by decide +kernel
theorem dX0_faultlessNumber_47 : decode cX0_faultlessNumber 47 = .ok (.iadd, 1) := by decide +kernel
theorem dX0_faultlessNumber_48 : decode cX0_faultlessNumber 48 = .ok (.ireturn, 1) := by decide +kernel
theorem dX0_faultlessNumber_49 : decode cX0_faultlessNumber 49 = .ok (.iinc 2 1, 3) := by decide +kernel
theorem dX0_faultlessNumber_52 : decode cX0_faultlessNumber 52 = .ok (.iinc 4 1, 3) := by decide +kernel
theorem dX0_faultlessNumber_55 : decode cX0_faultlessNumber 55 = .ok (.goto (-39), 3) := by decide +kernel
theorem dX0_faultlessNumber_58 : decode cX0_faultlessNumber 58 = .ok (.iinc 3 1, 3) := by decide +kernel
theorem dX0_faultlessNumber_61 : decode cX0_faultlessNumber 61 = .ok (.goto (-57), 3) := by decide +kernel
theorem dX0_faultlessNumber_64 : decode cX0_faultlessNumber 64 = .ok (.iconst (-1), 1) := by decide +kernel
theorem dX0_faultlessNumber_65 : decode cX0_faultlessNumber 65 = .ok (.ireturn, 1) := by decide +kernel
