theorem dX4_init_0 : decode cX4_init 0 = .ok (.aload_n 0, 1) := by decide +kernel
theorem dX4_init_1 : decode cX4_init 1 = .ok (.invokespecial 1, 3) := by decide +kernel
theorem dX4_init_4 : decode cX4_init 4 = .ok (.aload_n 0, 1) := by decide +kernel
theorem dX4_init_5 : decode cX4_init 5 = .ok (.aload_n 1, 1) := by decide +kernel
theorem dX4_init_6 : decode cX4_init 6 = .ok (.putfield 7, 3) := by decide +kernel
theorem dX4_init_9 : decode cX4_init 9 = .ok (.aload_n 0, 1) := by decide +kernel
theorem dX4_init_10 : decode cX4_init 10 = .ok (.aload_n 2, 1) := by decide +kernel
theorem dX4_init_11 : decode cX4_init 11 = .ok (.putfield 13, 3) := by decide +kernel
theorem dX4_init_14 : decode cX4_init 14 = .ok (.aload_n 0, 1) := by decide +kernel
theorem dX4_init_15 : decode cX4_init 15 = .ok (.new 17, 3) := by decide +kernel
theorem dX4_init_18 : decode cX4_init 18 = .ok (.dup, 1) := by decide +kernel
theorem dX4_init_19 : decode cX4_init 19 = .ok (.aload_n 1, 1) := by decide +kernel
theorem dX4_init_20 : decode cX4_init 20 = .ok (.invokespecial 19, 3) := by decide +kernel
theorem dX4_init_23 : decode cX4_init 23 = .ok (.putfield 22, 3) := by decide +kernel
theorem dX4_init_26 : decode cX4_init 26 = .ok (.aload_n 0, 1) := by decide +kernel
theorem dX4_init_27 : decode cX4_init 27 = .ok (.new 17, 3) := by decide +kernel
theorem dX4_init_30 : decode cX4_init 30 = .ok (.dup, 1) := by decide +kernel
theorem dX4_init_31 : decode cX4_init 31 = .ok (.aload_n 1, 1) := by decide +kernel
theorem dX4_init_32 : decode cX4_init 32 = .ok (.invokespecial 19, 3) := by decide +kernel
theorem dX4_init_35 : decode cX4_init 35 = .ok (.putfield 26, 3) := by decide +kernel
theorem dX4_init_38 : decode cX4_init 38 = .ok (.aload_n 0, 1) := by decide +kernel
theorem dX4_init_39 : decode cX4_init 39 = .ok (.sipush 28000, 3) := by decide +kernel
theorem dX4_init_42 : decode cX4_init 42 = .ok (.newarray .int, 2) := by decide +kernel
theorem dX4_init_44 : decode cX4_init 44 = .ok (.putfield 29, 3) := by decide +kernel
theorem dX4_init_47 : decode cX4_init 47 = .ok (.aload_n 0, 1) := by decide +kernel
theorem dX4_init_48 : decode cX4_init 48 = .ok (.sipush 2700, 3) := by decide +kernel
theorem dX4_init_51 : decode cX4_init 51 = .ok (.newarray .int, 2) := by decide +kernel
theorem dX4_init_53 : decode cX4_init 53 = .ok (.putfield 33, 3) := by decide +kernel
theorem dX4_init_56 : decode cX4_init 56 = .ok (.aload_n 0, 1) := by decide +kernel
theorem dX4_init_57 : decode cX4_init 57 = .ok (.sipush 2700, 3) := by decide +kernel
theorem dX4_init_60 : decode cX4_init 60 = .ok (.newarray .long, 2) := by decide +kernel
theorem dX4_init_62 : decode cX4_init 62 = .ok (.putfield 36, 3) := by decide +kernel
theorem dX4_init_65 : decode cX4_init 65 = .ok (.aload_n 0, 1) := by decide +kernel
theorem dX4_init_66 : decode cX4_init 66 = .ok (.iconst (-1), 1) := by decide +kernel
theorem dX4_init_67 : decode cX4_init 67 = .ok (.putfield 40, 3) := by decide +kernel
theorem dX4_init_70 : decode cX4_init 70 = .ok (.aload_n 0, 1) := by decide +kernel
theorem dX4_init_71 : decode cX4_init 71 = .ok (.iconst (-1), 1) := by decide +kernel
theorem dX4_init_72 : decode cX4_init 72 = .ok (.putfield 44, 3) := by decide +kernel
theorem dX4_init_75 : decode cX4_init 75 = .ok (.aload_n 0, 1) := by decide +kernel
theorem dX4_init_76 : decode cX4_init 76 = .ok (.iconst (-1), 1) := by decide +kernel
theorem dX4_init_77 : decode cX4_init 77 = .ok (.putfield 47, 3) := by decide +kernel
theorem dX4_init_80 : decode cX4_init 80 = .ok (.return_, 1) := by decide +kernel
theorem dX4_prepare_0 : decode cX4_prepare 0 = .ok (.aload_n 0, 1) := by decide +kernel
theorem dX4_prepare_1 : decode cX4_prepare 1 = .ok (.getfield 40, 3) := by decide +kernel
theorem dX4_prepare_4 : decode cX4_prepare 4 = .ok (.aload_n 0, 1) := by decide +kernel
theorem dX4_prepare_5 : decode cX4_prepare 5 = .ok (.getfield 7, 3) := by decide +kernel
theorem dX4_prepare_8 : decode cX4_prepare 8 = .ok (.invokevirtual 50, 3) := by decide +kernel
theorem dX4_prepare_11 : decode cX4_prepare 11 = .ok (.if_icmp .ne 4, 3) := by decide +kernel
theorem dX4_prepare_14 : decode cX4_prepare 14 = .ok (.return_, 1) := by decide +kernel
theorem dX4_prepare_15 : decode cX4_prepare 15 = .ok (.aload_n 0, 1) := by decide +kernel
theorem dX4_prepare_16 : decode cX4_prepare 16 = .ok (.aload_n 0, 1) := by decide +kernel
theorem dX4_prepare_17 : decode cX4_prepare 17 = .ok (.getfield 7, 3) := by decide +kernel
theorem dX4_prepare_20 : decode cX4_prepare 20 = .ok (.invokevirtual 50, 3) := by decide +kernel
theorem dX4_prepare_23 : decode cX4_prepare 23 = .ok (.putfield 40, 3) := by decide +kernel
theorem dX4_prepare_26 : decode cX4_prepare 26 = .ok (.aload_n 0, 1) := by decide +kernel
theorem dX4_prepare_27 : decode cX4_prepare 27 = .ok (.aload_n 0, 1) := by decide +kernel
theorem dX4_prepare_28 : decode cX4_prepare 28 = .ok (.getfield 7, 3) := by decide +kernel
theorem dX4_prepare_31 : decode cX4_prepare 31 = .ok (.invokevirtual 56, 3) := by decide +kernel
theorem dX4_prepare_34 : decode cX4_prepare 34 = .ok (.bipush 27, 2) := by decide +kernel
theorem dX4_prepare_36 : decode cX4_prepare 36 = .ok (.invokestatic 59, 3) := by decide +kernel
theorem dX4_prepare_39 : decode cX4_prepare 39 = .ok (.putfield 65, 3) := by decide +kernel
theorem dX4_prepare_42 : decode cX4_prepare 42 = .ok (.aload_n 0, 1) := by decide +kernel
theorem dX4_prepare_43 : decode cX4_prepare 43 = .ok (.aload_n 0, 1) := by decide +kernel
theorem dX4_prepare_44 : decode cX4_prepare 44 = .ok (.getfield 7, 3) := by decide +kernel
theorem dX4_prepare_47 : decode cX4_prepare 47 = .ok (.invokevirtual 68, 3) := by decide +kernel
theorem dX4_prepare_50 : decode cX4_prepare 50 = .ok (.bipush 10, 2) := by decide +kernel
theorem dX4_prepare_52 : decode cX4_prepare 52 = .ok (.invokestatic 59, 3) := by decide +kernel
theorem dX4_prepare_55 : decode cX4_prepare 55 = .ok (.putfield 71, 3) := by decide +kernel
theorem dX4_prepare_58 : decode cX4_prepare 58 = .ok (.aload_n 0, 1) := by decide +kernel
theorem dX4_prepare_59 : decode cX4_prepare 59 = .ok (.aload_n 0, 1) := by decide +kernel
theorem dX4_prepare_60 : decode cX4_prepare 60 = .ok (.getfield 7, 3) := by decide +kernel
theorem dX4_prepare_63 : decode cX4_prepare 63 = .ok (.invokevirtual 73, 3) := by decide +kernel
theorem dX4_prepare_66 : decode cX4_prepare 66 = .ok (.putfield 76, 3) := by decide +kernel
theorem dX4_prepare_69 : decode cX4_prepare 69 = .ok (.aload_n 0, 1) := by decide +kernel
theorem dX4_prepare_70 : decode cX4_prepare 70 = .ok (.getfield 22, 3) := by decide +kernel
theorem dX4_prepare_73 : decode cX4_prepare 73 = .ok (.aload_n 0, 1) := by decide +kernel
theorem dX4_prepare_74 : decode cX4_prepare 74 = .ok (.getfield 65, 3) := by decide +kernel
theorem dX4_prepare_77 : decode cX4_prepare 77 = .ok (.invokevirtual 79, 3) := by decide +kernel
theorem dX4_prepare_80 : decode cX4_prepare 80 = .ok (.iconst 0, 1) := by decide +kernel
theorem dX4_prepare_81 : decode cX4_prepare 81 = .ok (.istore_n 1, 1) := by decide +kernel
theorem dX4_prepare_82 : decode cX4_prepare 82 = .ok (.iload_n 1, 1) := by decide +kernel
theorem dX4_prepare_83 : decode cX4_prepare 83 = .ok (.aload_n 0, 1) := by decide +kernel
theorem dX4_prepare_84 : decode cX4_prepare 84 = .ok (.getfield 65, 3) := by decide +kernel
theorem dX4_prepare_87 : decode cX4_prepare 87 = .ok (.iconst 1, 1) := by decide +kernel
theorem dX4_prepare_88 : decode cX4_prepare 88 = .ok (.isub, 1) := by decide +kernel
theorem dX4_prepare_89 : decode cX4_prepare 89 = .ok (.if_icmp .ge 16, 3) := by decide +kernel
theorem dX4_prepare_92 : decode cX4_prepare 92 = .ok (.aload_n 0, 1) := by decide +kernel
theorem dX4_prepare_93 : decode cX4_prepare 93 = .ok (.iload_n 1, 1) := by decide +kernel
theorem dX4_prepare_94 : decode cX4_prepare 94 = .ok (.iload_n 1, 1) := by decide +kernel
theorem dX4_prepare_95 : decode cX4_prepare 95 = .ok (.iconst 0, 1) := by decide +kernel
theorem dX4_prepare_96 : decode cX4_prepare 96 = .ok (.invokevirtual 83, 3) := by decide +kernel
theorem dX4_prepare_99 : decode cX4_prepare 99 = .ok (.iinc 1 1, 3) := by decide +kernel
theorem dX4_prepare_102 : decode cX4_prepare 102 = .ok (.goto (-20), 3) := by decide +kernel
theorem dX4_prepare_105 : decode cX4_prepare 105 = .ok (.aload_n 0, 1) := by decide +kernel
theorem dX4_prepare_106 : decode cX4_prepare 106 = .ok (.aload_n 0, 1) := by decide +kernel
theorem dX4_prepare_107 : decode cX4_prepare 107 = .ok (.getfield 65, 3) := by decide +kernel
theorem dX4_prepare_110 : decode cX4_prepare 110 = .ok (.iconst 1, 1) := by decide +kernel
theorem dX4_prepare_111 : decode cX4_prepare 111 = .ok (.isub, 1) := by decide +kernel
theorem dX4_prepare_112 : decode cX4_prepare 112 = .ok (.aload_n 0, 1) := by decide +kernel
theorem dX4_prepare_113 : decode cX4_prepare 113 = .ok (.getfield 65, 3) := by decide +kernel
theorem dX4_prepare_116 : decode cX4_prepare 116 = .ok (.iconst 2, 1) := by decide +kernel
theorem dX4_prepare_117 : decode cX4_prepare 117 = .ok (.isub, 1) := by decide +kernel
theorem dX4_prepare_118 : decode cX4_prepare 118 = .ok (.iconst 1, 1) := by decide +kernel
theorem dX4_prepare_119 : decode cX4_prepare 119 = .ok (.invokevirtual 83, 3) := by decide +kernel
theorem dX4_prepare_122 : decode cX4_prepare 122 = .ok (.aload_n 0, 1) := by decide +kernel
theorem dX4_prepare_123 : decode cX4_prepare 123 = .ok (.aload_n 0, 1) := by decide +kernel
theorem dX4_prepare_124 : decode cX4_prepare 124 = .ok (.getfield 65, 3) := by decide +kernel
theorem dX4_prepare_127 : decode cX4_prepare 127 = .ok (.aload_n 0, 1) := by decide +kernel
theorem dX4_prepare_128 : decode cX4_prepare 128 = .ok (.getfield 65, 3) := by decide +kernel
theorem dX4_prepare_131 : decode cX4_prepare 131 = .ok (.iconst 1, 1) := by decide +kernel
theorem dX4_prepare_132 : decode cX4_prepare 132 = .ok (.isub, 1) := by decide +kernel
theorem dX4_prepare_133 : decode cX4_prepare 133 = .ok (.iconst 0, 1) := by decide +kernel
theorem dX4_prepare_134 : decode cX4_prepare 134 = .ok (.invokevirtual 83, 3) := by decide +kernel
theorem dX4_prepare_137 : decode cX4_prepare 137 = .ok (.return_, 1) := by decide +kernel
theorem dX4_makeMasks_0 : decode cX4_makeMasks 0 = .ok (.iconst 0, 1) := by decide +kernel
theorem dX4_makeMasks_1 : decode cX4_makeMasks 1 = .ok (.istore 4, 2) := by decide +kernel
theorem dX4_makeMasks_3 : decode cX4_makeMasks 3 = .ok (.iload 4, 2) := by decide +kernel
theorem dX4_makeMasks_5 : decode cX4_makeMasks 5 = .ok (.aload_n 0, 1) := by decide +kernel
theorem dX4_makeMasks_6 : decode cX4_makeMasks 6 = .ok (.iload_n 2, 1) := by decide +kernel
theorem dX4_makeMasks_7 : decode cX4_makeMasks 7 = .ok (.iconst 1, 1) := by decide +kernel
theorem dX4_makeMasks_8 : decode cX4_makeMasks 8 = .ok (.isub, 1) := by decide +kernel
theorem dX4_makeMasks_9 : decode cX4_makeMasks 9 = .ok (.invokevirtual 87, 3) := by decide +kernel
theorem dX4_makeMasks_12 : decode cX4_makeMasks 12 = .ok (.if_icmp .ge 182, 3) := by decide +kernel
theorem dX4_makeMasks_15 : decode cX4_makeMasks 15 = .ok (.aload_n 0, 1) := by decide +kernel
theorem dX4_makeMasks_16 : decode cX4_makeMasks 16 = .ok (.getfield 22, 3) := by decide +kernel
theorem dX4_makeMasks_19 : decode cX4_makeMasks 19 = .ok (.iload_n 2, 1) := by decide +kernel
theorem dX4_makeMasks_20 : decode cX4_makeMasks 20 = .ok (.iconst 1, 1) := by decide +kernel
theorem dX4_makeMasks_21 : decode cX4_makeMasks 21 = .ok (.isub, 1) := by decide +kernel
theorem dX4_makeMasks_22 : decode cX4_makeMasks 22 = .ok (.aload_n 0, 1) := by decide +kernel
theorem dX4_makeMasks_23 : decode cX4_makeMasks 23 = .ok (.getfield 76, 3) := by decide +kernel
theorem dX4_makeMasks_26 : decode cX4_makeMasks 26 = .ok (.iload 4, 2) := by decide +kernel
theorem dX4_makeMasks_28 : decode cX4_makeMasks 28 = .ok (.iadd, 1) := by decide +kernel
theorem dX4_makeMasks_29 : decode cX4_makeMasks 29 = .ok (.invokevirtual 91, 3) := by decide +kernel
theorem dX4_makeMasks_32 : decode cX4_makeMasks 32 = .ok (.iconst 0, 1) := by decide +kernel
theorem dX4_makeMasks_33 : decode cX4_makeMasks 33 = .ok (.istore 5, 2) := by decide +kernel
theorem dX4_makeMasks_35 : decode cX4_makeMasks 35 = .ok (.iload 5, 2) := by decide +kernel
theorem dX4_makeMasks_37 : decode cX4_makeMasks 37 = .ok (.aload_n 0, 1) := by decide +kernel
theorem dX4_makeMasks_38 : decode cX4_makeMasks 38 = .ok (.getfield 71, 3) := by decide +kernel
theorem dX4_makeMasks_41 : decode cX4_makeMasks 41 = .ok (.if_icmp .ge 147, 3) := by decide +kernel
theorem dX4_makeMasks_44 : decode cX4_makeMasks 44 = .ok (.aload_n 0, 1) := by decide +kernel
theorem dX4_makeMasks_45 : decode cX4_makeMasks 45 = .ok (.getfield 22, 3) := by decide +kernel
theorem dX4_makeMasks_48 : decode cX4_makeMasks 48 = .ok (.iload_n 2, 1) := by decide +kernel
theorem dX4_makeMasks_49 : decode cX4_makeMasks 49 = .ok (.aload_n 0, 1) := by decide +kernel
theorem dX4_makeMasks_50 : decode cX4_makeMasks 50 = .ok (.getfield 76, 3) := by decide +kernel
theorem dX4_makeMasks_53 : decode cX4_makeMasks 53 = .ok (.iload 5, 2) := by decide +kernel
theorem dX4_makeMasks_55 : decode cX4_makeMasks 55 = .ok (.iadd, 1) := by decide +kernel
theorem dX4_makeMasks_56 : decode cX4_makeMasks 56 = .ok (.invokevirtual 91, 3) := by decide +kernel
theorem dX4_makeMasks_59 : decode cX4_makeMasks 59 = .ok (.iload_n 2, 1) := by decide +kernel
theorem dX4_makeMasks_60 : decode cX4_makeMasks 60 = .ok (.aload_n 0, 1) := by decide +kernel
theorem dX4_makeMasks_61 : decode cX4_makeMasks 61 = .ok (.getfield 65, 3) := by decide +kernel
theorem dX4_makeMasks_64 : decode cX4_makeMasks 64 = .ok (.iconst 2, 1) := by decide +kernel
theorem dX4_makeMasks_65 : decode cX4_makeMasks 65 = .ok (.isub, 1) := by decide +kernel
theorem dX4_makeMasks_66 : decode cX4_makeMasks 66 = .ok (.if_icmp .ne 22, 3) := by decide +kernel
theorem dX4_makeMasks_69 : decode cX4_makeMasks 69 = .ok (.aload_n 0, 1) := by decide +kernel
theorem dX4_makeMasks_70 : decode cX4_makeMasks 70 = .ok (.getfield 22, 3) := by decide +kernel
theorem dX4_makeMasks_73 : decode cX4_makeMasks 73 = .ok (.iload_n 2, 1) := by decide +kernel
theorem dX4_makeMasks_74 : decode cX4_makeMasks 74 = .ok (.iconst 1, 1) := by decide +kernel
theorem dX4_makeMasks_75 : decode cX4_makeMasks 75 = .ok (.iadd, 1) := by decide +kernel
theorem dX4_makeMasks_76 : decode cX4_makeMasks 76 = .ok (.aload_n 0, 1) := by decide +kernel
theorem dX4_makeMasks_77 : decode cX4_makeMasks 77 = .ok (.getfield 76, 3) := by decide +kernel
theorem dX4_makeMasks_80 : decode cX4_makeMasks 80 = .ok (.iload 5, 2) := by decide +kernel
theorem dX4_makeMasks_82 : decode cX4_makeMasks 82 = .ok (.iadd, 1) := by decide +kernel
theorem dX4_makeMasks_83 : decode cX4_makeMasks 83 = .ok (.iload_n 3, 1) := by decide +kernel
theorem dX4_makeMasks_84 : decode cX4_makeMasks 84 = .ok (.iadd, 1) := by decide +kernel
theorem dX4_makeMasks_85 : decode cX4_makeMasks 85 = .ok (.invokevirtual 91, 3) := by decide +kernel
theorem dX4_makeMasks_88 : decode cX4_makeMasks 88 = .ok (.aload_n 0, 1) := by decide +kernel
theorem dX4_makeMasks_89 : decode cX4_makeMasks 89 = .ok (.getfield 22, 3) := by decide +kernel
theorem dX4_makeMasks_92 : decode cX4_makeMasks 92 = .ok (.iload_n 2, 1) := by decide +kernel
theorem dX4_makeMasks_93 : decode cX4_makeMasks 93 = .ok (.invokevirtual 95, 3) := by decide +kernel
theorem dX4_makeMasks_96 : decode cX4_makeMasks 96 = .ok (.istore 6, 2) := by decide +kernel
theorem dX4_makeMasks_98 : decode cX4_makeMasks 98 = .ok (.iconst 0, 1) := by decide +kernel
theorem dX4_makeMasks_99 : decode cX4_makeMasks 99 = .ok (.istore 7, 2) := by decide +kernel
theorem dX4_makeMasks_101 : decode cX4_makeMasks 101 = .ok (.iload 7, 2) := by decide +kernel
theorem dX4_makeMasks_103 : decode cX4_makeMasks 103 = .ok (.aload_n 0, 1) := by decide +kernel
theorem dX4_makeMasks_104 : decode cX4_makeMasks 104 = .ok (.iload_n 2, 1) := by decide +kernel
theorem dX4_makeMasks_105 : decode cX4_makeMasks 105 = .ok (.iconst 2, 1) := by decide +kernel
theorem dX4_makeMasks_106 : decode cX4_makeMasks 106 = .ok (.isub, 1) := by decide +kernel
theorem dX4_makeMasks_107 : decode cX4_makeMasks 107 = .ok (.invokevirtual 87, 3) := by decide +kernel
theorem dX4_makeMasks_110 : decode cX4_makeMasks 110 = .ok (.if_icmp .ge 72, 3) := by decide +kernel
theorem dX4_makeMasks_113 : decode cX4_makeMasks 113 = .ok (.aload_n 0, 1) := by decide +kernel
theorem dX4_makeMasks_114 : decode cX4_makeMasks 114 = .ok (.getfield 22, 3) := by decide +kernel
theorem dX4_makeMasks_117 : decode cX4_makeMasks 117 = .ok (.iload_n 2, 1) := by decide +kernel
theorem dX4_makeMasks_118 : decode cX4_makeMasks 118 = .ok (.iconst 2, 1) := by decide +kernel
theorem dX4_makeMasks_119 : decode cX4_makeMasks 119 = .ok (.isub, 1) := by decide +kernel
theorem dX4_makeMasks_120 : decode cX4_makeMasks 120 = .ok (.aload_n 0, 1) := by decide +kernel
theorem dX4_makeMasks_121 : decode cX4_makeMasks 121 = .ok (.getfield 76, 3) := by decide +kernel
theorem dX4_makeMasks_124 : decode cX4_makeMasks 124 = .ok (.iload 7, 2) := by decide +kernel
theorem dX4_makeMasks_126 : decode cX4_makeMasks 126 = .ok (.iadd, 1) := by decide +kernel
theorem dX4_makeMasks_127 : decode cX4_makeMasks 127 = .ok (.invokevirtual 91, 3) := by decide +kernel
theorem dX4_makeMasks_130 : decode cX4_makeMasks 130 = .ok (.aload_n 0, 1) := by decide +kernel
theorem dX4_makeMasks_131 : decode cX4_makeMasks 131 = .ok (.iload_n 1, 1) := by decide +kernel
theorem dX4_makeMasks_132 : decode cX4_makeMasks 132 = .ok (.iload 7, 2) := by decide +kernel
theorem dX4_makeMasks_134 : decode cX4_makeMasks 134 = .ok (.iload 4, 2) := by decide +kernel
theorem dX4_makeMasks_136 : decode cX4_makeMasks 136 = .ok (.iload 5, 2) := by decide +kernel
theorem dX4_makeMasks_138 : decode cX4_makeMasks 138 = .ok (.invokevirtual 98, 3) := by decide +kernel
theorem dX4_makeMasks_141 : decode cX4_makeMasks 141 = .ok (.istore 8, 2) := by decide +kernel
theorem dX4_makeMasks_143 : decode cX4_makeMasks 143 = .ok (.iload 8, 2) := by decide +kernel
theorem dX4_makeMasks_145 : decode cX4_makeMasks 145 = .ok (.ifCond .lt 31, 3) := by decide +kernel
theorem dX4_makeMasks_148 : decode cX4_makeMasks 148 = .ok (.iload 8, 2) := by decide +kernel
theorem dX4_makeMasks_150 : decode cX4_makeMasks 150 = .ok (.aload_n 0, 1) := by decide +kernel
theorem dX4_makeMasks_151 : decode cX4_makeMasks 151 = .ok (.getfield 29, 3) := by decide +kernel
theorem dX4_makeMasks_154 : decode cX4_makeMasks 154 = .ok (.arraylength, 1) := by decide +kernel
theorem dX4_makeMasks_155 : decode cX4_makeMasks 155 = .ok (.if_icmp .ge 21, 3) := by decide +kernel
theorem dX4_makeMasks_158 : decode cX4_makeMasks 158 = .ok (.aload_n 0, 1) := by decide +kernel
theorem dX4_makeMasks_159 : decode cX4_makeMasks 159 = .ok (.getfield 29, 3) := by decide +kernel
theorem dX4_makeMasks_162 : decode cX4_makeMasks 162 = .ok (.iload 8, 2) := by decide +kernel
theorem dX4_makeMasks_164 : decode cX4_makeMasks 164 = .ok (.iload 6, 2) := by decide +kernel
theorem dX4_makeMasks_166 : decode cX4_makeMasks 166 = .ok (.aload_n 0, 1) := by decide +kernel
theorem dX4_makeMasks_167 : decode cX4_makeMasks 167 = .ok (.getfield 22, 3) := by decide +kernel
theorem dX4_makeMasks_170 : decode cX4_makeMasks 170 = .ok (.iload_n 2, 1) := by decide +kernel
theorem dX4_makeMasks_171 : decode cX4_makeMasks 171 = .ok (.invokevirtual 102, 3) := by decide +kernel
theorem dX4_makeMasks_174 : decode cX4_makeMasks 174 = .ok (.ior, 1) := by decide +kernel
theorem dX4_makeMasks_175 : decode cX4_makeMasks 175 = .ok (.iastore, 1) := by decide +kernel
theorem dX4_makeMasks_176 : decode cX4_makeMasks 176 = .ok (.iinc 7 1, 3) := by decide +kernel
theorem dX4_makeMasks_179 : decode cX4_makeMasks 179 = .ok (.goto (-78), 3) := by decide +kernel
theorem dX4_makeMasks_182 : decode cX4_makeMasks 182 = .ok (.iinc 5 1, 3) := by decide +kernel
theorem dX4_makeMasks_185 : decode cX4_makeMasks 185 = .ok (.goto (-150), 3) := by decide +kernel
theorem dX4_makeMasks_188 : decode cX4_makeMasks 188 = .ok (.iinc 4 1, 3) := by decide +kernel
theorem dX4_makeMasks_191 : decode cX4_makeMasks 191 = .ok (.goto (-188), 3) := by decide +kernel
theorem dX4_makeMasks_194 : decode cX4_makeMasks 194 = .ok (.return_, 1) := by decide +kernel
theorem dX4_choices_0 : decode cX4_choices 0 = .ok (.iload_n 1, 1) := by decide +kernel
theorem dX4_choices_1 : decode cX4_choices 1 = .ok (.ifCond .ge 7, 3) := by decide +kernel
theorem dX4_choices_4 : decode cX4_choices 4 = .ok (.iconst 1, 1) := by decide +kernel
theorem dX4_choices_5 : decode cX4_choices 5 = .ok (.goto 7, 3) := by decide +kernel
theorem dX4_choices_8 : decode cX4_choices 8 = .ok (.aload_n 0, 1) := by decide +kernel
theorem dX4_choices_9 : decode cX4_choices 9 = .ok (.getfield 71, 3) := by decide +kernel
theorem dX4_choices_12 : decode cX4_choices 12 = .ok (.ireturn, 1) := by decide +kernel
theorem dX4_maskPlace_0 : decode cX4_maskPlace 0 = .ok (.iload_n 1, 1) := by decide +kernel
theorem dX4_maskPlace_1 : decode cX4_maskPlace 1 = .ok (.bipush 10, 2) := by decide +kernel
theorem dX4_maskPlace_3 : decode cX4_maskPlace 3 = .ok (.imul, 1) := by decide +kernel
theorem dX4_maskPlace_4 : decode cX4_maskPlace 4 = .ok (.iload_n 2, 1) := by decide +kernel
theorem dX4_maskPlace_5 : decode cX4_maskPlace 5 = .ok (.iadd, 1) := by decide +kernel
theorem dX4_maskPlace_6 : decode cX4_maskPlace 6 = .ok (.bipush 10, 2) := by decide +kernel
theorem dX4_maskPlace_8 : decode cX4_maskPlace 8 = .ok (.imul, 1) := by decide +kernel
theorem dX4_maskPlace_9 : decode cX4_maskPlace 9 = .ok (.iload_n 3, 1) := by decide +kernel
theorem dX4_maskPlace_10 : decode cX4_maskPlace 10 = .ok (.iadd, 1) := by decide +kernel
theorem dX4_maskPlace_11 : decode cX4_maskPlace 11 = .ok (.bipush 10, 2) := by decide +kernel
theorem dX4_maskPlace_13 : decode cX4_maskPlace 13 = .ok (.imul, 1) := by decide +kernel
theorem dX4_maskPlace_14 : decode cX4_maskPlace 14 = .ok (.iload 4, 2) := by decide +kernel
theorem dX4_maskPlace_16 : decode cX4_maskPlace 16 = .ok (.iadd, 1) := by decide +kernel
theorem dX4_maskPlace_17 : decode cX4_maskPlace 17 = .ok (.ireturn, 1) := by decide +kernel
theorem dX4_maskAt_0 : decode cX4_maskAt 0 = .ok (.aload_n 0, 1) := by decide +kernel
theorem dX4_maskAt_1 : decode cX4_maskAt 1 = .ok (.iload_n 1, 1) := by decide +kernel
theorem dX4_maskAt_2 : decode cX4_maskAt 2 = .ok (.iload_n 2, 1) := by decide +kernel
theorem dX4_maskAt_3 : decode cX4_maskAt 3 = .ok (.iload_n 3, 1) := by decide +kernel
theorem dX4_maskAt_4 : decode cX4_maskAt 4 = .ok (.iload 4, 2) := by decide +kernel
theorem dX4_maskAt_6 : decode cX4_maskAt 6 = .ok (.invokevirtual 98, 3) := by decide +kernel
theorem dX4_maskAt_9 : decode cX4_maskAt 9 = .ok (.istore 5, 2) := by decide +kernel
theorem dX4_maskAt_11 : decode cX4_maskAt 11 = .ok (.iload 5, 2) := by decide +kernel
theorem dX4_maskAt_13 : decode cX4_maskAt 13 = .ok (.ifCond .lt 23, 3) := by decide +kernel
theorem dX4_maskAt_16 : decode cX4_maskAt 16 = .ok (.iload 5, 2) := by decide +kernel
theorem dX4_maskAt_18 : decode cX4_maskAt 18 = .ok (.aload_n 0, 1) := by decide +kernel
theorem dX4_maskAt_19 : decode cX4_maskAt 19 = .ok (.getfield 29, 3) := by decide +kernel
theorem dX4_maskAt_22 : decode cX4_maskAt 22 = .ok (.arraylength, 1) := by decide +kernel
theorem dX4_maskAt_23 : decode cX4_maskAt 23 = .ok (.if_icmp .ge 13, 3) := by decide +kernel
theorem dX4_maskAt_26 : decode cX4_maskAt 26 = .ok (.aload_n 0, 1) := by decide +kernel
theorem dX4_maskAt_27 : decode cX4_maskAt 27 = .ok (.getfield 29, 3) := by decide +kernel
theorem dX4_maskAt_30 : decode cX4_maskAt 30 = .ok (.iload 5, 2) := by decide +kernel
theorem dX4_maskAt_32 : decode cX4_maskAt 32 = .ok (.iaload, 1) := by decide +kernel
theorem dX4_maskAt_33 : decode cX4_maskAt 33 = .ok (.goto 4, 3) := by decide +kernel
theorem dX4_maskAt_36 : decode cX4_maskAt 36 = .ok (.iconst 0, 1) := by decide +kernel
theorem dX4_maskAt_37 : decode cX4_maskAt 37 = .ok (.ireturn, 1) := by decide +kernel
theorem dX4_slotAheadOf_0 : decode cX4_slotAheadOf 0 = .ok (.iload_n 2, 1) := by decide +kernel
theorem dX4_slotAheadOf_1 : decode cX4_slotAheadOf 1 = .ok (.iload_n 1, 1) := by decide +kernel
theorem dX4_slotAheadOf_2 : decode cX4_slotAheadOf 2 = .ok (.isub, 1) := by decide +kernel
theorem dX4_slotAheadOf_3 : decode cX4_slotAheadOf 3 = .ok (.iconst 1, 1) := by decide +kernel
theorem dX4_slotAheadOf_4 : decode cX4_slotAheadOf 4 = .ok (.if_icmp .ne 12, 3) := by decide +kernel
theorem dX4_slotAheadOf_7 : decode cX4_slotAheadOf 7 = .ok (.aload_n 0, 1) := by decide +kernel
theorem dX4_slotAheadOf_8 : decode cX4_slotAheadOf 8 = .ok (.getfield 65, 3) := by decide +kernel
theorem dX4_slotAheadOf_11 : decode cX4_slotAheadOf 11 = .ok (.iconst 1, 1) := by decide +kernel
theorem dX4_slotAheadOf_12 : decode cX4_slotAheadOf 12 = .ok (.isub, 1) := by decide +kernel
theorem dX4_slotAheadOf_13 : decode cX4_slotAheadOf 13 = .ok (.goto 9, 3) := by decide +kernel
theorem dX4_slotAheadOf_16 : decode cX4_slotAheadOf 16 = .ok (.aload_n 0, 1) := by decide +kernel
theorem dX4_slotAheadOf_17 : decode cX4_slotAheadOf 17 = .ok (.getfield 65, 3) := by decide +kernel
theorem dX4_slotAheadOf_20 : decode cX4_slotAheadOf 20 = .ok (.iconst 2, 1) := by decide +kernel
theorem dX4_slotAheadOf_21 : decode cX4_slotAheadOf 21 = .ok (.isub, 1) := by decide +kernel
theorem dX4_slotAheadOf_22 : decode cX4_slotAheadOf 22 = .ok (.ireturn, 1) := by decide +kernel
theorem dX4_tailPlace_0 : decode cX4_tailPlace 0 = .ok (.iload_n 1, 1) := by decide +kernel
theorem dX4_tailPlace_1 : decode cX4_tailPlace 1 = .ok (.bipush 10, 2) := by decide +kernel
theorem dX4_tailPlace_3 : decode cX4_tailPlace 3 = .ok (.imul, 1) := by decide +kernel
theorem dX4_tailPlace_4 : decode cX4_tailPlace 4 = .ok (.iload_n 2, 1) := by decide +kernel
theorem dX4_tailPlace_5 : decode cX4_tailPlace 5 = .ok (.iadd, 1) := by decide +kernel
theorem dX4_tailPlace_6 : decode cX4_tailPlace 6 = .ok (.bipush 10, 2) := by decide +kernel
theorem dX4_tailPlace_8 : decode cX4_tailPlace 8 = .ok (.imul, 1) := by decide +kernel
theorem dX4_tailPlace_9 : decode cX4_tailPlace 9 = .ok (.iload_n 3, 1) := by decide +kernel
theorem dX4_tailPlace_10 : decode cX4_tailPlace 10 = .ok (.iadd, 1) := by decide +kernel
theorem dX4_tailPlace_11 : decode cX4_tailPlace 11 = .ok (.ireturn, 1) := by decide +kernel
theorem dX4_tailAt_0 : decode cX4_tailAt 0 = .ok (.aload_n 0, 1) := by decide +kernel
theorem dX4_tailAt_1 : decode cX4_tailAt 1 = .ok (.iload_n 1, 1) := by decide +kernel
theorem dX4_tailAt_2 : decode cX4_tailAt 2 = .ok (.iload_n 2, 1) := by decide +kernel
theorem dX4_tailAt_3 : decode cX4_tailAt 3 = .ok (.iload_n 3, 1) := by decide +kernel
theorem dX4_tailAt_4 : decode cX4_tailAt 4 = .ok (.invokevirtual 105, 3) := by decide +kernel
theorem dX4_tailAt_7 : decode cX4_tailAt 7 = .ok (.istore 4, 2) := by decide +kernel
theorem dX4_tailAt_9 : decode cX4_tailAt 9 = .ok (.iload 4, 2) := by decide +kernel
theorem dX4_tailAt_11 : decode cX4_tailAt 11 = .ok (.ifCond .lt 23, 3) := by decide +kernel
theorem dX4_tailAt_14 : decode cX4_tailAt 14 = .ok (.iload 4, 2) := by decide +kernel
theorem dX4_tailAt_16 : decode cX4_tailAt 16 = .ok (.aload_n 0, 1) := by decide +kernel
theorem dX4_tailAt_17 : decode cX4_tailAt 17 = .ok (.getfield 33, 3) := by decide +kernel
theorem dX4_tailAt_20 : decode cX4_tailAt 20 = .ok (.arraylength, 1) := by decide +kernel
theorem dX4_tailAt_21 : decode cX4_tailAt 21 = .ok (.if_icmp .ge 13, 3) := by decide +kernel
theorem dX4_tailAt_24 : decode cX4_tailAt 24 = .ok (.aload_n 0, 1) := by decide +kernel
theorem dX4_tailAt_25 : decode cX4_tailAt 25 = .ok (.getfield 33, 3) := by decide +kernel
theorem dX4_tailAt_28 : decode cX4_tailAt 28 = .ok (.iload 4, 2) := by decide +kernel
theorem dX4_tailAt_30 : decode cX4_tailAt 30 = .ok (.iaload, 1) := by decide +kernel
theorem dX4_tailAt_31 : decode cX4_tailAt 31 = .ok (.goto 5, 3) := by decide +kernel
theorem dX4_tailAt_34 : decode cX4_tailAt 34 = .ok (.ldc 109, 2) := by decide +kernel
theorem dX4_tailAt_36 : decode cX4_tailAt 36 = .ok (.ireturn, 1) := by decide +kernel
theorem dX4_waysAt_0 : decode cX4_waysAt 0 = .ok (.aload_n 0, 1) := by decide +kernel
theorem dX4_waysAt_1 : decode cX4_waysAt 1 = .ok (.iload_n 1, 1) := by decide +kernel
theorem dX4_waysAt_2 : decode cX4_waysAt 2 = .ok (.iload_n 2, 1) := by decide +kernel
theorem dX4_waysAt_3 : decode cX4_waysAt 3 = .ok (.iload_n 3, 1) := by decide +kernel
theorem dX4_waysAt_4 : decode cX4_waysAt 4 = .ok (.invokevirtual 105, 3) := by decide +kernel
theorem dX4_waysAt_7 : decode cX4_waysAt 7 = .ok (.istore 4, 2) := by decide +kernel
theorem dX4_waysAt_9 : decode cX4_waysAt 9 = .ok (.iload 4, 2) := by decide +kernel
theorem dX4_waysAt_11 : decode cX4_waysAt 11 = .ok (.ifCond .lt 23, 3) := by decide +kernel
theorem dX4_waysAt_14 : decode cX4_waysAt 14 = .ok (.iload 4, 2) := by decide +kernel
theorem dX4_waysAt_16 : decode cX4_waysAt 16 = .ok (.aload_n 0, 1) := by decide +kernel
theorem dX4_waysAt_17 : decode cX4_waysAt 17 = .ok (.getfield 36, 3) := by decide +kernel
theorem dX4_waysAt_20 : decode cX4_waysAt 20 = .ok (.arraylength, 1) := by decide +kernel
theorem dX4_waysAt_21 : decode cX4_waysAt 21 = .ok (.if_icmp .ge 13, 3) := by decide +kernel
theorem dX4_waysAt_24 : decode cX4_waysAt 24 = .ok (.aload_n 0, 1) := by decide +kernel
theorem dX4_waysAt_25 : decode cX4_waysAt 25 = .ok (.getfield 36, 3) := by decide +kernel
theorem dX4_waysAt_28 : decode cX4_waysAt 28 = .ok (.iload 4, 2) := by decide +kernel
theorem dX4_waysAt_30 : decode cX4_waysAt 30 = .ok (.laload, 1) := by decide +kernel
theorem dX4_waysAt_31 : decode cX4_waysAt 31 = .ok (.goto 4, 3) := by decide +kernel
theorem dX4_waysAt_34 : decode cX4_waysAt 34 = .ok (.lconst 0, 1) := by decide +kernel
theorem dX4_waysAt_35 : decode cX4_waysAt 35 = .ok (.lreturn, 1) := by decide +kernel
theorem dX4_priceOf_0 : decode cX4_priceOf 0 = .ok (.iload_n 1, 1) := by decide +kernel
theorem dX4_priceOf_1 : decode cX4_priceOf 1 = .ok (.iload_n 2, 1) := by decide +kernel
theorem dX4_priceOf_2 : decode cX4_priceOf 2 = .ok (.iand, 1) := by decide +kernel
theorem dX4_priceOf_3 : decode cX4_priceOf 3 = .ok (.ifCond .eq 8, 3) := by decide +kernel
theorem dX4_priceOf_6 : decode cX4_priceOf 6 = .ok (.ldc 109, 2) := by decide +kernel
theorem dX4_priceOf_8 : decode cX4_priceOf 8 = .ok (.goto 11, 3) := by decide +kernel
theorem dX4_priceOf_11 : decode cX4_priceOf 11 = .ok (.aload_n 0, 1) := by decide +kernel
theorem dX4_priceOf_12 : decode cX4_priceOf 12 = .ok (.getfield 13, 3) := by decide +kernel
theorem dX4_priceOf_15 : decode cX4_priceOf 15 = .ok (.iload_n 1, 1) := by decide +kernel
theorem dX4_priceOf_16 : decode cX4_priceOf 16 = .ok (.invokevirtual 110, 3) := by decide +kernel
theorem dX4_priceOf_19 : decode cX4_priceOf 19 = .ok (.ireturn, 1) := by decide +kernel
theorem dX4_sweep_0 : decode cX4_sweep 0 = .ok (.aload_n 0, 1) := by decide +kernel
theorem dX4_sweep_1 : decode cX4_sweep 1 = .ok (.iload_n 1, 1) := by decide +kernel
theorem dX4_sweep_2 : decode cX4_sweep 2 = .ok (.invokevirtual 115, 3) := by decide +kernel
theorem dX4_sweep_5 : decode cX4_sweep 5 = .ok (.aload_n 0, 1) := by decide +kernel
theorem dX4_sweep_6 : decode cX4_sweep 6 = .ok (.getfield 65, 3) := by decide +kernel
theorem dX4_sweep_9 : decode cX4_sweep 9 = .ok (.iconst 3, 1) := by decide +kernel
theorem dX4_sweep_10 : decode cX4_sweep 10 = .ok (.isub, 1) := by decide +kernel
theorem dX4_sweep_11 : decode cX4_sweep 11 = .ok (.istore_n 2, 1) := by decide +kernel
theorem dX4_sweep_12 : decode cX4_sweep 12 = .ok (.iload_n 2, 1) := by decide +kernel
theorem dX4_sweep_13 : decode cX4_sweep 13 = .ok (.ifCond .lt 15, 3) := by decide +kernel
theorem dX4_sweep_16 : decode cX4_sweep 16 = .ok (.aload_n 0, 1) := by decide +kernel
theorem dX4_sweep_17 : decode cX4_sweep 17 = .ok (.iload_n 2, 1) := by decide +kernel
theorem dX4_sweep_18 : decode cX4_sweep 18 = .ok (.iload_n 1, 1) := by decide +kernel
theorem dX4_sweep_19 : decode cX4_sweep 19 = .ok (.invokevirtual 118, 3) := by decide +kernel
theorem dX4_sweep_22 : decode cX4_sweep 22 = .ok (.iinc 2 (-1), 3) := by decide +kernel
theorem dX4_sweep_25 : decode cX4_sweep 25 = .ok (.goto (-13), 3) := by decide +kernel
theorem dX4_sweep_28 : decode cX4_sweep 28 = .ok (.aload_n 0, 1) := by decide +kernel
theorem dX4_sweep_29 : decode cX4_sweep 29 = .ok (.iconst 0, 1) := by decide +kernel
theorem dX4_sweep_30 : decode cX4_sweep 30 = .ok (.iconst 0, 1) := by decide +kernel
theorem dX4_sweep_31 : decode cX4_sweep 31 = .ok (.iconst 0, 1) := by decide +kernel
theorem dX4_sweep_32 : decode cX4_sweep 32 = .ok (.invokevirtual 121, 3) := by decide +kernel
theorem dX4_sweep_35 : decode cX4_sweep 35 = .ok (.ireturn, 1) := by decide +kernel
theorem dX4_emptyRow_0 : decode cX4_emptyRow 0 = .ok (.iconst 0, 1) := by decide +kernel
theorem dX4_emptyRow_1 : decode cX4_emptyRow 1 = .ok (.istore_n 2, 1) := by decide +kernel
theorem dX4_emptyRow_2 : decode cX4_emptyRow 2 = .ok (.iload_n 2, 1) := by decide +kernel
theorem dX4_emptyRow_3 : decode cX4_emptyRow 3 = .ok (.aload_n 0, 1) := by decide +kernel
theorem dX4_emptyRow_4 : decode cX4_emptyRow 4 = .ok (.getfield 71, 3) := by decide +kernel
theorem dX4_emptyRow_7 : decode cX4_emptyRow 7 = .ok (.if_icmp .ge 76, 3) := by decide +kernel
theorem dX4_emptyRow_10 : decode cX4_emptyRow 10 = .ok (.iconst 0, 1) := by decide +kernel
theorem dX4_emptyRow_11 : decode cX4_emptyRow 11 = .ok (.istore_n 3, 1) := by decide +kernel
theorem dX4_emptyRow_12 : decode cX4_emptyRow 12 = .ok (.iload_n 3, 1) := by decide +kernel
theorem dX4_emptyRow_13 : decode cX4_emptyRow 13 = .ok (.aload_n 0, 1) := by decide +kernel
theorem dX4_emptyRow_14 : decode cX4_emptyRow 14 = .ok (.getfield 71, 3) := by decide +kernel
theorem dX4_emptyRow_17 : decode cX4_emptyRow 17 = .ok (.if_icmp .ge 60, 3) := by decide +kernel
theorem dX4_emptyRow_20 : decode cX4_emptyRow 20 = .ok (.aload_n 0, 1) := by decide +kernel
theorem dX4_emptyRow_21 : decode cX4_emptyRow 21 = .ok (.iload_n 1, 1) := by decide +kernel
theorem dX4_emptyRow_22 : decode cX4_emptyRow 22 = .ok (.iload_n 2, 1) := by decide +kernel
theorem dX4_emptyRow_23 : decode cX4_emptyRow 23 = .ok (.iload_n 3, 1) := by decide +kernel
theorem dX4_emptyRow_24 : decode cX4_emptyRow 24 = .ok (.invokevirtual 105, 3) := by decide +kernel
theorem dX4_emptyRow_27 : decode cX4_emptyRow 27 = .ok (.istore 4, 2) := by decide +kernel
theorem dX4_emptyRow_29 : decode cX4_emptyRow 29 = .ok (.iload 4, 2) := by decide +kernel
theorem dX4_emptyRow_31 : decode cX4_emptyRow 31 = .ok (.ifCond .lt 40, 3) := by decide +kernel
theorem dX4_emptyRow_34 : decode cX4_emptyRow 34 = .ok (.iload 4, 2) := by decide +kernel
theorem dX4_emptyRow_36 : decode cX4_emptyRow 36 = .ok (.aload_n 0, 1) := by decide +kernel
theorem dX4_emptyRow_37 : decode cX4_emptyRow 37 = .ok (.getfield 33, 3) := by decide +kernel
theorem dX4_emptyRow_40 : decode cX4_emptyRow 40 = .ok (.arraylength, 1) := by decide +kernel
theorem dX4_emptyRow_41 : decode cX4_emptyRow 41 = .ok (.if_icmp .ge 30, 3) := by decide +kernel
theorem dX4_emptyRow_44 : decode cX4_emptyRow 44 = .ok (.iload 4, 2) := by decide +kernel
theorem dX4_emptyRow_46 : decode cX4_emptyRow 46 = .ok (.aload_n 0, 1) := by decide +kernel
theorem dX4_emptyRow_47 : decode cX4_emptyRow 47 = .ok (.getfield 36, 3) := by decide +kernel
theorem dX4_emptyRow_50 : decode cX4_emptyRow 50 = .ok (.arraylength, 1) := by decide +kernel
theorem dX4_emptyRow_51 : decode cX4_emptyRow 51 = .ok (.if_icmp .ge 20, 3) := by decide +kernel
theorem dX4_emptyRow_54 : decode cX4_emptyRow 54 = .ok (.aload_n 0, 1) := by decide +kernel
theorem dX4_emptyRow_55 : decode cX4_emptyRow 55 = .ok (.getfield 33, 3) := by decide +kernel
theorem dX4_emptyRow_58 : decode cX4_emptyRow 58 = .ok (.iload 4, 2) := by decide +kernel
theorem dX4_emptyRow_60 : decode cX4_emptyRow 60 = .ok (.ldc 109, 2) := by decide +kernel
theorem dX4_emptyRow_62 : decode cX4_emptyRow 62 = .ok (.iastore, 1) := by decide +kernel
theorem dX4_emptyRow_63 : decode cX4_emptyRow 63 = .ok (.aload_n 0, 1) := by decide +kernel
theorem dX4_emptyRow_64 : decode cX4_emptyRow 64 = .ok (.getfield 36, 3) := by decide +kernel
theorem dX4_emptyRow_67 : decode cX4_emptyRow 67 = .ok (.iload 4, 2) := by decide +kernel
theorem dX4_emptyRow_69 : decode cX4_emptyRow 69 = .ok (.lconst 0, 1) := by decide +kernel
theorem dX4_emptyRow_70 : decode cX4_emptyRow 70 = .ok (.lastore, 1) := by decide +kernel
theorem dX4_emptyRow_71 : decode cX4_emptyRow 71 = .ok (.iinc 3 1, 3) := by decide +kernel
theorem dX4_emptyRow_74 : decode cX4_emptyRow 74 = .ok (.goto (-62), 3) := by decide +kernel
theorem dX4_emptyRow_77 : decode cX4_emptyRow 77 = .ok (.iinc 2 1, 3) := by decide +kernel
theorem dX4_emptyRow_80 : decode cX4_emptyRow 80 = .ok (.goto (-78), 3) := by decide +kernel
theorem dX4_emptyRow_83 : decode cX4_emptyRow 83 = .ok (.return_, 1) := by decide +kernel
theorem dX4_sweepEnd_0 : decode cX4_sweepEnd 0 = .ok (.aload_n 0, 1) := by decide +kernel
theorem dX4_sweepEnd_1 : decode cX4_sweepEnd 1 = .ok (.getfield 65, 3) := by decide +kernel
theorem dX4_sweepEnd_4 : decode cX4_sweepEnd 4 = .ok (.iconst 2, 1) := by decide +kernel
theorem dX4_sweepEnd_5 : decode cX4_sweepEnd 5 = .ok (.isub, 1) := by decide +kernel
theorem dX4_sweepEnd_6 : decode cX4_sweepEnd 6 = .ok (.istore_n 2, 1) := by decide +kernel
theorem dX4_sweepEnd_7 : decode cX4_sweepEnd 7 = .ok (.aload_n 0, 1) := by decide +kernel
theorem dX4_sweepEnd_8 : decode cX4_sweepEnd 8 = .ok (.iload_n 2, 1) := by decide +kernel
theorem dX4_sweepEnd_9 : decode cX4_sweepEnd 9 = .ok (.invokevirtual 124, 3) := by decide +kernel
theorem dX4_sweepEnd_12 : decode cX4_sweepEnd 12 = .ok (.iconst 0, 1) := by decide +kernel
theorem dX4_sweepEnd_13 : decode cX4_sweepEnd 13 = .ok (.istore_n 3, 1) := by decide +kernel
theorem dX4_sweepEnd_14 : decode cX4_sweepEnd 14 = .ok (.iload_n 3, 1) := by decide +kernel
theorem dX4_sweepEnd_15 : decode cX4_sweepEnd 15 = .ok (.aload_n 0, 1) := by decide +kernel
theorem dX4_sweepEnd_16 : decode cX4_sweepEnd 16 = .ok (.iload_n 2, 1) := by decide +kernel
theorem dX4_sweepEnd_17 : decode cX4_sweepEnd 17 = .ok (.iconst 1, 1) := by decide +kernel
theorem dX4_sweepEnd_18 : decode cX4_sweepEnd 18 = .ok (.isub, 1) := by decide +kernel
theorem dX4_sweepEnd_19 : decode cX4_sweepEnd 19 = .ok (.invokevirtual 87, 3) := by decide +kernel
theorem dX4_sweepEnd_22 : decode cX4_sweepEnd 22 = .ok (.if_icmp .ge 92, 3) := by decide +kernel
theorem dX4_sweepEnd_25 : decode cX4_sweepEnd 25 = .ok (.iconst 0, 1) := by decide +kernel
theorem dX4_sweepEnd_26 : decode cX4_sweepEnd 26 = .ok (.istore 4, 2) := by decide +kernel
theorem dX4_sweepEnd_28 : decode cX4_sweepEnd 28 = .ok (.iload 4, 2) := by decide +kernel
theorem dX4_sweepEnd_30 : decode cX4_sweepEnd 30 = .ok (.aload_n 0, 1) := by decide +kernel
theorem dX4_sweepEnd_31 : decode cX4_sweepEnd 31 = .ok (.getfield 71, 3) := by decide +kernel
theorem dX4_sweepEnd_34 : decode cX4_sweepEnd 34 = .ok (.if_icmp .ge 74, 3) := by decide +kernel
theorem dX4_sweepEnd_37 : decode cX4_sweepEnd 37 = .ok (.iconst 0, 1) := by decide +kernel
theorem dX4_sweepEnd_38 : decode cX4_sweepEnd 38 = .ok (.istore 5, 2) := by decide +kernel
theorem dX4_sweepEnd_40 : decode cX4_sweepEnd 40 = .ok (.iload 5, 2) := by decide +kernel
theorem dX4_sweepEnd_42 : decode cX4_sweepEnd 42 = .ok (.aload_n 0, 1) := by decide +kernel
theorem dX4_sweepEnd_43 : decode cX4_sweepEnd 43 = .ok (.getfield 71, 3) := by decide +kernel
theorem dX4_sweepEnd_46 : decode cX4_sweepEnd 46 = .ok (.if_icmp .ge 56, 3) := by decide +kernel
theorem dX4_sweepEnd_49 : decode cX4_sweepEnd 49 = .ok (.aload_n 0, 1) := by decide +kernel
theorem dX4_sweepEnd_50 : decode cX4_sweepEnd 50 = .ok (.aload_n 0, 1) := by decide +kernel
theorem dX4_sweepEnd_51 : decode cX4_sweepEnd 51 = .ok (.aload_n 0, 1) := by decide +kernel
theorem dX4_sweepEnd_52 : decode cX4_sweepEnd 52 = .ok (.getfield 65, 3) := by decide +kernel
theorem dX4_sweepEnd_55 : decode cX4_sweepEnd 55 = .ok (.iload_n 3, 1) := by decide +kernel
theorem dX4_sweepEnd_56 : decode cX4_sweepEnd 56 = .ok (.iload 4, 2) := by decide +kernel
theorem dX4_sweepEnd_58 : decode cX4_sweepEnd 58 = .ok (.iload 5, 2) := by decide +kernel
theorem dX4_sweepEnd_60 : decode cX4_sweepEnd 60 = .ok (.invokevirtual 127, 3) := by decide +kernel
theorem dX4_sweepEnd_63 : decode cX4_sweepEnd 63 = .ok (.iload_n 1, 1) := by decide +kernel
theorem dX4_sweepEnd_64 : decode cX4_sweepEnd 64 = .ok (.invokevirtual 130, 3) := by decide +kernel
theorem dX4_sweepEnd_67 : decode cX4_sweepEnd 67 = .ok (.istore 6, 2) := by decide +kernel
theorem dX4_sweepEnd_69 : decode cX4_sweepEnd 69 = .ok (.iload 6, 2) := by decide +kernel
theorem dX4_sweepEnd_71 : decode cX4_sweepEnd 71 = .ok (.ldc 109, 2) := by decide +kernel
theorem dX4_sweepEnd_73 : decode cX4_sweepEnd 73 = .ok (.if_icmp .ge 23, 3) := by decide +kernel
theorem dX4_sweepEnd_76 : decode cX4_sweepEnd 76 = .ok (.aload_n 0, 1) := by decide +kernel
theorem dX4_sweepEnd_77 : decode cX4_sweepEnd 77 = .ok (.aload_n 0, 1) := by decide +kernel
theorem dX4_sweepEnd_78 : decode cX4_sweepEnd 78 = .ok (.iload 4, 2) := by decide +kernel
theorem dX4_sweepEnd_80 : decode cX4_sweepEnd 80 = .ok (.iload 5, 2) := by decide +kernel
theorem dX4_sweepEnd_82 : decode cX4_sweepEnd 82 = .ok (.invokevirtual 133, 3) := by decide +kernel
theorem dX4_sweepEnd_85 : decode cX4_sweepEnd 85 = .ok (.iload_n 2, 1) := by decide +kernel
theorem dX4_sweepEnd_86 : decode cX4_sweepEnd 86 = .ok (.iload_n 3, 1) := by decide +kernel
theorem dX4_sweepEnd_87 : decode cX4_sweepEnd 87 = .ok (.iload 4, 2) := by decide +kernel
theorem dX4_sweepEnd_89 : decode cX4_sweepEnd 89 = .ok (.iload_n 1, 1) := by decide +kernel
theorem dX4_sweepEnd_90 : decode cX4_sweepEnd 90 = .ok (.iload 6, 2) := by decide +kernel
theorem dX4_sweepEnd_92 : decode cX4_sweepEnd 92 = .ok (.lconst 1, 1) := by decide +kernel
theorem dX4_sweepEnd_93 : decode cX4_sweepEnd 93 = .ok (.invokevirtual 136, 3) := by decide +kernel
theorem dX4_sweepEnd_96 : decode cX4_sweepEnd 96 = .ok (.iinc 5 1, 3) := by decide +kernel
theorem dX4_sweepEnd_99 : decode cX4_sweepEnd 99 = .ok (.goto (-59), 3) := by decide +kernel
theorem dX4_sweepEnd_102 : decode cX4_sweepEnd 102 = .ok (.iinc 4 1, 3) := by decide +kernel
theorem dX4_sweepEnd_105 : decode cX4_sweepEnd 105 = .ok (.goto (-77), 3) := by decide +kernel
theorem dX4_sweepEnd_108 : decode cX4_sweepEnd 108 = .ok (.iinc 3 1, 3) := by decide +kernel
theorem dX4_sweepEnd_111 : decode cX4_sweepEnd 111 = .ok (.goto (-97), 3) := by decide +kernel
theorem dX4_sweepEnd_114 : decode cX4_sweepEnd 114 = .ok (.return_, 1) := by decide +kernel
theorem dX4_sweepPlace_0 : decode cX4_sweepPlace 0 = .ok (.aload_n 0, 1) := by decide +kernel
theorem dX4_sweepPlace_1 : decode cX4_sweepPlace 1 = .ok (.iload_n 1, 1) := by decide +kernel
theorem dX4_sweepPlace_2 : decode cX4_sweepPlace 2 = .ok (.invokevirtual 124, 3) := by decide +kernel
theorem dX4_sweepPlace_5 : decode cX4_sweepPlace 5 = .ok (.iconst 0, 1) := by decide +kernel
theorem dX4_sweepPlace_6 : decode cX4_sweepPlace 6 = .ok (.istore_n 3, 1) := by decide +kernel
theorem dX4_sweepPlace_7 : decode cX4_sweepPlace 7 = .ok (.iload_n 3, 1) := by decide +kernel
theorem dX4_sweepPlace_8 : decode cX4_sweepPlace 8 = .ok (.aload_n 0, 1) := by decide +kernel
theorem dX4_sweepPlace_9 : decode cX4_sweepPlace 9 = .ok (.iload_n 1, 1) := by decide +kernel
theorem dX4_sweepPlace_10 : decode cX4_sweepPlace 10 = .ok (.iconst 1, 1) := by decide +kernel
theorem dX4_sweepPlace_11 : decode cX4_sweepPlace 11 = .ok (.isub, 1) := by decide +kernel
theorem dX4_sweepPlace_12 : decode cX4_sweepPlace 12 = .ok (.invokevirtual 87, 3) := by decide +kernel
theorem dX4_sweepPlace_15 : decode cX4_sweepPlace 15 = .ok (.if_icmp .ge 68, 3) := by decide +kernel
theorem dX4_sweepPlace_18 : decode cX4_sweepPlace 18 = .ok (.iconst 0, 1) := by decide +kernel
theorem dX4_sweepPlace_19 : decode cX4_sweepPlace 19 = .ok (.istore 4, 2) := by decide +kernel
theorem dX4_sweepPlace_21 : decode cX4_sweepPlace 21 = .ok (.iload 4, 2) := by decide +kernel
theorem dX4_sweepPlace_23 : decode cX4_sweepPlace 23 = .ok (.aload_n 0, 1) := by decide +kernel
theorem dX4_sweepPlace_24 : decode cX4_sweepPlace 24 = .ok (.getfield 71, 3) := by decide +kernel
theorem dX4_sweepPlace_27 : decode cX4_sweepPlace 27 = .ok (.if_icmp .ge 50, 3) := by decide +kernel
theorem dX4_sweepPlace_30 : decode cX4_sweepPlace 30 = .ok (.aload_n 0, 1) := by decide +kernel
theorem dX4_sweepPlace_31 : decode cX4_sweepPlace 31 = .ok (.iload_n 1, 1) := by decide +kernel
theorem dX4_sweepPlace_32 : decode cX4_sweepPlace 32 = .ok (.iconst 1, 1) := by decide +kernel
theorem dX4_sweepPlace_33 : decode cX4_sweepPlace 33 = .ok (.iadd, 1) := by decide +kernel
theorem dX4_sweepPlace_34 : decode cX4_sweepPlace 34 = .ok (.iload_n 3, 1) := by decide +kernel
theorem dX4_sweepPlace_35 : decode cX4_sweepPlace 35 = .ok (.iload 4, 2) := by decide +kernel
theorem dX4_sweepPlace_37 : decode cX4_sweepPlace 37 = .ok (.invokevirtual 121, 3) := by decide +kernel
theorem dX4_sweepPlace_40 : decode cX4_sweepPlace 40 = .ok (.istore 5, 2) := by decide +kernel
theorem dX4_sweepPlace_42 : decode cX4_sweepPlace 42 = .ok (.iload 5, 2) := by decide +kernel
theorem dX4_sweepPlace_44 : decode cX4_sweepPlace 44 = .ok (.ldc 109, 2) := by decide +kernel
theorem dX4_sweepPlace_46 : decode cX4_sweepPlace 46 = .ok (.if_icmp .ge 25, 3) := by decide +kernel
theorem dX4_sweepPlace_49 : decode cX4_sweepPlace 49 = .ok (.aload_n 0, 1) := by decide +kernel
theorem dX4_sweepPlace_50 : decode cX4_sweepPlace 50 = .ok (.iload_n 1, 1) := by decide +kernel
theorem dX4_sweepPlace_51 : decode cX4_sweepPlace 51 = .ok (.iload_n 1, 1) := by decide +kernel
theorem dX4_sweepPlace_52 : decode cX4_sweepPlace 52 = .ok (.iload_n 3, 1) := by decide +kernel
theorem dX4_sweepPlace_53 : decode cX4_sweepPlace 53 = .ok (.iload 4, 2) := by decide +kernel
theorem dX4_sweepPlace_55 : decode cX4_sweepPlace 55 = .ok (.iload_n 2, 1) := by decide +kernel
theorem dX4_sweepPlace_56 : decode cX4_sweepPlace 56 = .ok (.iload 5, 2) := by decide +kernel
theorem dX4_sweepPlace_58 : decode cX4_sweepPlace 58 = .ok (.aload_n 0, 1) := by decide +kernel
theorem dX4_sweepPlace_59 : decode cX4_sweepPlace 59 = .ok (.iload_n 1, 1) := by decide +kernel
theorem dX4_sweepPlace_60 : decode cX4_sweepPlace 60 = .ok (.iconst 1, 1) := by decide +kernel
theorem dX4_sweepPlace_61 : decode cX4_sweepPlace 61 = .ok (.iadd, 1) := by decide +kernel
theorem dX4_sweepPlace_62 : decode cX4_sweepPlace 62 = .ok (.iload_n 3, 1) := by decide +kernel
theorem dX4_sweepPlace_63 : decode cX4_sweepPlace 63 = .ok (.iload 4, 2) := by decide +kernel
theorem dX4_sweepPlace_65 : decode cX4_sweepPlace 65 = .ok (.invokevirtual 140, 3) := by decide +kernel
theorem dX4_sweepPlace_68 : decode cX4_sweepPlace 68 = .ok (.invokevirtual 136, 3) := by decide +kernel
theorem dX4_sweepPlace_71 : decode cX4_sweepPlace 71 = .ok (.iinc 4 1, 3) := by decide +kernel
theorem dX4_sweepPlace_74 : decode cX4_sweepPlace 74 = .ok (.goto (-53), 3) := by decide +kernel
theorem dX4_sweepPlace_77 : decode cX4_sweepPlace 77 = .ok (.iinc 3 1, 3) := by decide +kernel
theorem dX4_sweepPlace_80 : decode cX4_sweepPlace 80 = .ok (.goto (-73), 3) := by decide +kernel
theorem dX4_sweepPlace_83 : decode cX4_sweepPlace 83 = .ok (.return_, 1) := by decide +kernel
theorem dX4_putAhead_0 : decode cX4_putAhead 0 = .ok (.iconst 0, 1) := by decide +kernel
theorem dX4_putAhead_1 : decode cX4_putAhead 1 = .ok (.istore 9, 2) := by decide +kernel
theorem dX4_putAhead_3 : decode cX4_putAhead 3 = .ok (.iload 9, 2) := by decide +kernel
theorem dX4_putAhead_5 : decode cX4_putAhead 5 = .ok (.aload_n 0, 1) := by decide +kernel
theorem dX4_putAhead_6 : decode cX4_putAhead 6 = .ok (.iload_n 2, 1) := by decide +kernel
theorem dX4_putAhead_7 : decode cX4_putAhead 7 = .ok (.iconst 2, 1) := by decide +kernel
theorem dX4_putAhead_8 : decode cX4_putAhead 8 = .ok (.isub, 1) := by decide +kernel
theorem dX4_putAhead_9 : decode cX4_putAhead 9 = .ok (.invokevirtual 87, 3) := by decide +kernel
theorem dX4_putAhead_12 : decode cX4_putAhead 12 = .ok (.if_icmp .ge 105, 3) := by decide +kernel
theorem dX4_putAhead_15 : decode cX4_putAhead 15 = .ok (.aload_n 0, 1) := by decide +kernel
theorem dX4_putAhead_16 : decode cX4_putAhead 16 = .ok (.iload_n 1, 1) := by decide +kernel
theorem dX4_putAhead_17 : decode cX4_putAhead 17 = .ok (.iload 9, 2) := by decide +kernel
theorem dX4_putAhead_19 : decode cX4_putAhead 19 = .ok (.iload_n 3, 1) := by decide +kernel
theorem dX4_putAhead_20 : decode cX4_putAhead 20 = .ok (.iload 4, 2) := by decide +kernel
theorem dX4_putAhead_22 : decode cX4_putAhead 22 = .ok (.invokevirtual 127, 3) := by decide +kernel
theorem dX4_putAhead_25 : decode cX4_putAhead 25 = .ok (.istore 10, 2) := by decide +kernel
theorem dX4_putAhead_27 : decode cX4_putAhead 27 = .ok (.aload_n 0, 1) := by decide +kernel
theorem dX4_putAhead_28 : decode cX4_putAhead 28 = .ok (.iload_n 2, 1) := by decide +kernel
theorem dX4_putAhead_29 : decode cX4_putAhead 29 = .ok (.iload 9, 2) := by decide +kernel
theorem dX4_putAhead_31 : decode cX4_putAhead 31 = .ok (.iload_n 3, 1) := by decide +kernel
theorem dX4_putAhead_32 : decode cX4_putAhead 32 = .ok (.invokevirtual 105, 3) := by decide +kernel
theorem dX4_putAhead_35 : decode cX4_putAhead 35 = .ok (.istore 11, 2) := by decide +kernel
theorem dX4_putAhead_37 : decode cX4_putAhead 37 = .ok (.iload 10, 2) := by decide +kernel
theorem dX4_putAhead_39 : decode cX4_putAhead 39 = .ok (.iload 5, 2) := by decide +kernel
theorem dX4_putAhead_41 : decode cX4_putAhead 41 = .ok (.iand, 1) := by decide +kernel
theorem dX4_putAhead_42 : decode cX4_putAhead 42 = .ok (.ifCond .ne 69, 3) := by decide +kernel
theorem dX4_putAhead_45 : decode cX4_putAhead 45 = .ok (.iload 11, 2) := by decide +kernel
theorem dX4_putAhead_47 : decode cX4_putAhead 47 = .ok (.ifCond .lt 64, 3) := by decide +kernel
theorem dX4_putAhead_50 : decode cX4_putAhead 50 = .ok (.iload 11, 2) := by decide +kernel
theorem dX4_putAhead_52 : decode cX4_putAhead 52 = .ok (.aload_n 0, 1) := by decide +kernel
theorem dX4_putAhead_53 : decode cX4_putAhead 53 = .ok (.getfield 33, 3) := by decide +kernel
theorem dX4_putAhead_56 : decode cX4_putAhead 56 = .ok (.arraylength, 1) := by decide +kernel
theorem dX4_putAhead_57 : decode cX4_putAhead 57 = .ok (.if_icmp .ge 54, 3) := by decide +kernel
theorem dX4_putAhead_60 : decode cX4_putAhead 60 = .ok (.iload 11, 2) := by decide +kernel
theorem dX4_putAhead_62 : decode cX4_putAhead 62 = .ok (.aload_n 0, 1) := by decide +kernel
theorem dX4_putAhead_63 : decode cX4_putAhead 63 = .ok (.getfield 36, 3) := by decide +kernel
theorem dX4_putAhead_66 : decode cX4_putAhead 66 = .ok (.arraylength, 1) := by decide +kernel
theorem dX4_putAhead_67 : decode cX4_putAhead 67 = .ok (.if_icmp .ge 44, 3) := by decide +kernel
theorem dX4_putAhead_70 : decode cX4_putAhead 70 = .ok (.aload_n 0, 1) := by decide +kernel
theorem dX4_putAhead_71 : decode cX4_putAhead 71 = .ok (.getfield 33, 3) := by decide +kernel
theorem dX4_putAhead_74 : decode cX4_putAhead 74 = .ok (.iload 11, 2) := by decide +kernel
theorem dX4_putAhead_76 : decode cX4_putAhead 76 = .ok (.aload_n 0, 1) := by decide +kernel
theorem dX4_putAhead_77 : decode cX4_putAhead 77 = .ok (.getfield 33, 3) := by decide +kernel
theorem dX4_putAhead_80 : decode cX4_putAhead 80 = .ok (.iload 11, 2) := by decide +kernel
theorem dX4_putAhead_82 : decode cX4_putAhead 82 = .ok (.iaload, 1) := by decide +kernel
theorem dX4_putAhead_83 : decode cX4_putAhead 83 = .ok (.iload 6, 2) := by decide +kernel
theorem dX4_putAhead_85 : decode cX4_putAhead 85 = .ok (.aload_n 0, 1) := by decide +kernel
theorem dX4_putAhead_86 : decode cX4_putAhead 86 = .ok (.getfield 13, 3) := by decide +kernel
theorem dX4_putAhead_89 : decode cX4_putAhead 89 = .ok (.iload 10, 2) := by decide +kernel
theorem dX4_putAhead_91 : decode cX4_putAhead 91 = .ok (.invokevirtual 110, 3) := by decide +kernel
theorem dX4_putAhead_94 : decode cX4_putAhead 94 = .ok (.iadd, 1) := by decide +kernel
theorem dX4_putAhead_95 : decode cX4_putAhead 95 = .ok (.invokestatic 59, 3) := by decide +kernel
theorem dX4_putAhead_98 : decode cX4_putAhead 98 = .ok (.iastore, 1) := by decide +kernel
theorem dX4_putAhead_99 : decode cX4_putAhead 99 = .ok (.aload_n 0, 1) := by decide +kernel
theorem dX4_putAhead_100 : decode cX4_putAhead 100 = .ok (.getfield 36, 3) := by decide +kernel
theorem dX4_putAhead_103 : decode cX4_putAhead 103 = .ok (.iload 11, 2) := by decide +kernel
theorem dX4_putAhead_105 : decode cX4_putAhead 105 = .ok (.dup2, 1) := by decide +kernel
theorem dX4_putAhead_106 : decode cX4_putAhead 106 = .ok (.laload, 1) := by decide +kernel
theorem dX4_putAhead_107 : decode cX4_putAhead 107 = .ok (.lload 7, 2) := by decide +kernel
theorem dX4_putAhead_109 : decode cX4_putAhead 109 = .ok (.ladd, 1) := by decide +kernel
theorem dX4_putAhead_110 : decode cX4_putAhead 110 = .ok (.lastore, 1) := by decide +kernel
theorem dX4_putAhead_111 : decode cX4_putAhead 111 = .ok (.iinc 9 1, 3) := by decide +kernel
theorem dX4_putAhead_114 : decode cX4_putAhead 114 = .ok (.goto (-111), 3) := by decide +kernel
theorem dX4_putAhead_117 : decode cX4_putAhead 117 = .ok (.return_, 1) := by decide +kernel
theorem dX4_goodCount_0 : decode cX4_goodCount 0 = .ok (.aload_n 0, 1) := by decide +kernel
theorem dX4_goodCount_1 : decode cX4_goodCount 1 = .ok (.iconst 0, 1) := by decide +kernel
theorem dX4_goodCount_2 : decode cX4_goodCount 2 = .ok (.iconst 0, 1) := by decide +kernel
theorem dX4_goodCount_3 : decode cX4_goodCount 3 = .ok (.iconst 0, 1) := by decide +kernel
theorem dX4_goodCount_4 : decode cX4_goodCount 4 = .ok (.invokevirtual 140, 3) := by decide +kernel
theorem dX4_goodCount_7 : decode cX4_goodCount 7 = .ok (.lreturn, 1) := by decide +kernel
theorem dX4_writeBest_0 : decode cX4_writeBest 0 = .ok (.aload_n 1, 1) := by decide +kernel
theorem dX4_writeBest_1 : decode cX4_writeBest 1 = .ok (.aload_n 0, 1) := by decide +kernel
theorem dX4_writeBest_2 : decode cX4_writeBest 2 = .ok (.getfield 65, 3) := by decide +kernel
theorem dX4_writeBest_5 : decode cX4_writeBest 5 = .ok (.invokevirtual 79, 3) := by decide +kernel
theorem dX4_writeBest_8 : decode cX4_writeBest 8 = .ok (.iconst 0, 1) := by decide +kernel
theorem dX4_writeBest_9 : decode cX4_writeBest 9 = .ok (.istore_n 3, 1) := by decide +kernel
theorem dX4_writeBest_10 : decode cX4_writeBest 10 = .ok (.iconst 0, 1) := by decide +kernel
theorem dX4_writeBest_11 : decode cX4_writeBest 11 = .ok (.istore 4, 2) := by decide +kernel
theorem dX4_writeBest_13 : decode cX4_writeBest 13 = .ok (.iconst 0, 1) := by decide +kernel
theorem dX4_writeBest_14 : decode cX4_writeBest 14 = .ok (.istore 5, 2) := by decide +kernel
theorem dX4_writeBest_16 : decode cX4_writeBest 16 = .ok (.iload 5, 2) := by decide +kernel
theorem dX4_writeBest_18 : decode cX4_writeBest 18 = .ok (.aload_n 0, 1) := by decide +kernel
theorem dX4_writeBest_19 : decode cX4_writeBest 19 = .ok (.getfield 65, 3) := by decide +kernel
theorem dX4_writeBest_22 : decode cX4_writeBest 22 = .ok (.iconst 2, 1) := by decide +kernel
theorem dX4_writeBest_23 : decode cX4_writeBest 23 = .ok (.isub, 1) := by decide +kernel
theorem dX4_writeBest_24 : decode cX4_writeBest 24 = .ok (.if_icmp .ge 41, 3) := by decide +kernel
theorem dX4_writeBest_27 : decode cX4_writeBest 27 = .ok (.aload_n 0, 1) := by decide +kernel
theorem dX4_writeBest_28 : decode cX4_writeBest 28 = .ok (.iload 5, 2) := by decide +kernel
theorem dX4_writeBest_30 : decode cX4_writeBest 30 = .ok (.iload_n 3, 1) := by decide +kernel
theorem dX4_writeBest_31 : decode cX4_writeBest 31 = .ok (.iload 4, 2) := by decide +kernel
theorem dX4_writeBest_33 : decode cX4_writeBest 33 = .ok (.iload_n 2, 1) := by decide +kernel
theorem dX4_writeBest_34 : decode cX4_writeBest 34 = .ok (.invokevirtual 144, 3) := by decide +kernel
theorem dX4_writeBest_37 : decode cX4_writeBest 37 = .ok (.istore 6, 2) := by decide +kernel
theorem dX4_writeBest_39 : decode cX4_writeBest 39 = .ok (.aload_n 1, 1) := by decide +kernel
theorem dX4_writeBest_40 : decode cX4_writeBest 40 = .ok (.iload 5, 2) := by decide +kernel
theorem dX4_writeBest_42 : decode cX4_writeBest 42 = .ok (.aload_n 0, 1) := by decide +kernel
theorem dX4_writeBest_43 : decode cX4_writeBest 43 = .ok (.getfield 76, 3) := by decide +kernel
theorem dX4_writeBest_46 : decode cX4_writeBest 46 = .ok (.iload 6, 2) := by decide +kernel
theorem dX4_writeBest_48 : decode cX4_writeBest 48 = .ok (.iadd, 1) := by decide +kernel
theorem dX4_writeBest_49 : decode cX4_writeBest 49 = .ok (.invokevirtual 91, 3) := by decide +kernel
theorem dX4_writeBest_52 : decode cX4_writeBest 52 = .ok (.iload 4, 2) := by decide +kernel
theorem dX4_writeBest_54 : decode cX4_writeBest 54 = .ok (.istore_n 3, 1) := by decide +kernel
theorem dX4_writeBest_55 : decode cX4_writeBest 55 = .ok (.iload 6, 2) := by decide +kernel
theorem dX4_writeBest_57 : decode cX4_writeBest 57 = .ok (.istore 4, 2) := by decide +kernel
theorem dX4_writeBest_59 : decode cX4_writeBest 59 = .ok (.iinc 5 1, 3) := by decide +kernel
theorem dX4_writeBest_62 : decode cX4_writeBest 62 = .ok (.goto (-46), 3) := by decide +kernel
theorem dX4_writeBest_65 : decode cX4_writeBest 65 = .ok (.aload_n 0, 1) := by decide +kernel
theorem dX4_writeBest_66 : decode cX4_writeBest 66 = .ok (.aload_n 1, 1) := by decide +kernel
theorem dX4_writeBest_67 : decode cX4_writeBest 67 = .ok (.iload_n 3, 1) := by decide +kernel
theorem dX4_writeBest_68 : decode cX4_writeBest 68 = .ok (.iload 4, 2) := by decide +kernel
theorem dX4_writeBest_70 : decode cX4_writeBest 70 = .ok (.iload_n 2, 1) := by decide +kernel
theorem dX4_writeBest_71 : decode cX4_writeBest 71 = .ok (.invokevirtual 147, 3) := by decide +kernel
theorem dX4_writeBest_74 : decode cX4_writeBest 74 = .ok (.return_, 1) := by decide +kernel
theorem dX4_bestNext_0 : decode cX4_bestNext 0 = .ok (.iconst 0, 1) := by decide +kernel
theorem dX4_bestNext_1 : decode cX4_bestNext 1 = .ok (.istore 5, 2) := by decide +kernel
theorem dX4_bestNext_3 : decode cX4_bestNext 3 = .ok (.iload 5, 2) := by decide +kernel
theorem dX4_bestNext_5 : decode cX4_bestNext 5 = .ok (.aload_n 0, 1) := by decide +kernel
theorem dX4_bestNext_6 : decode cX4_bestNext 6 = .ok (.getfield 71, 3) := by decide +kernel
theorem dX4_bestNext_9 : decode cX4_bestNext 9 = .ok (.if_icmp .ge 52, 3) := by decide +kernel
theorem dX4_bestNext_12 : decode cX4_bestNext 12 = .ok (.aload_n 0, 1) := by decide +kernel
theorem dX4_bestNext_13 : decode cX4_bestNext 13 = .ok (.aload_n 0, 1) := by decide +kernel
theorem dX4_bestNext_14 : decode cX4_bestNext 14 = .ok (.iload_n 1, 1) := by decide +kernel
theorem dX4_bestNext_15 : decode cX4_bestNext 15 = .ok (.iload_n 2, 1) := by decide +kernel
theorem dX4_bestNext_16 : decode cX4_bestNext 16 = .ok (.iload_n 3, 1) := by decide +kernel
theorem dX4_bestNext_17 : decode cX4_bestNext 17 = .ok (.iload 5, 2) := by decide +kernel
theorem dX4_bestNext_19 : decode cX4_bestNext 19 = .ok (.invokevirtual 127, 3) := by decide +kernel
theorem dX4_bestNext_22 : decode cX4_bestNext 22 = .ok (.iload 4, 2) := by decide +kernel
theorem dX4_bestNext_24 : decode cX4_bestNext 24 = .ok (.invokevirtual 130, 3) := by decide +kernel
theorem dX4_bestNext_27 : decode cX4_bestNext 27 = .ok (.istore 6, 2) := by decide +kernel
theorem dX4_bestNext_29 : decode cX4_bestNext 29 = .ok (.iload 6, 2) := by decide +kernel
theorem dX4_bestNext_31 : decode cX4_bestNext 31 = .ok (.aload_n 0, 1) := by decide +kernel
theorem dX4_bestNext_32 : decode cX4_bestNext 32 = .ok (.iload_n 1, 1) := by decide +kernel
theorem dX4_bestNext_33 : decode cX4_bestNext 33 = .ok (.iconst 1, 1) := by decide +kernel
theorem dX4_bestNext_34 : decode cX4_bestNext 34 = .ok (.iadd, 1) := by decide +kernel
theorem dX4_bestNext_35 : decode cX4_bestNext 35 = .ok (.iload_n 3, 1) := by decide +kernel
theorem dX4_bestNext_36 : decode cX4_bestNext 36 = .ok (.iload 5, 2) := by decide +kernel
theorem dX4_bestNext_38 : decode cX4_bestNext 38 = .ok (.invokevirtual 121, 3) := by decide +kernel
theorem dX4_bestNext_41 : decode cX4_bestNext 41 = .ok (.iadd, 1) := by decide +kernel
theorem dX4_bestNext_42 : decode cX4_bestNext 42 = .ok (.aload_n 0, 1) := by decide +kernel
theorem dX4_bestNext_43 : decode cX4_bestNext 43 = .ok (.iload_n 1, 1) := by decide +kernel
theorem dX4_bestNext_44 : decode cX4_bestNext 44 = .ok (.iload_n 2, 1) := by decide +kernel
theorem dX4_bestNext_45 : decode cX4_bestNext 45 = .ok (.iload_n 3, 1) := by decide +kernel
theorem dX4_bestNext_46 : decode cX4_bestNext 46 = .ok (.invokevirtual 121, 3) := by decide +kernel
theorem dX4_bestNext_49 : decode cX4_bestNext 49 = .ok (.if_icmp .ne 6, 3) := by decide +kernel
theorem dX4_bestNext_52 : decode cX4_bestNext 52 = .ok (.iload 5, 2) := by decide +kernel
theorem dX4_bestNext_54 : decode cX4_bestNext 54 = .ok (.ireturn, 1) := by decide +kernel
theorem dX4_bestNext_55 : decode cX4_bestNext 55 = .ok (.iinc 5 1, 3) := by decide +kernel
theorem dX4_bestNext_58 : decode cX4_bestNext 58 = .ok (.goto (-55), 3) := by decide +kernel
theorem dX4_bestNext_61 : decode cX4_bestNext 61 = .ok (.iconst 0, 1) := by decide +kernel
theorem dX4_bestNext_62 : decode cX4_bestNext 62 = .ok (.ireturn, 1) := by decide +kernel
theorem dX4_writeBestEnd_0 : decode cX4_writeBestEnd 0 = .ok (.iconst 0, 1) := by decide +kernel
theorem dX4_writeBestEnd_1 : decode cX4_writeBestEnd 1 = .ok (.istore 5, 2) := by decide +kernel
theorem dX4_writeBestEnd_3 : decode cX4_writeBestEnd 3 = .ok (.iload 5, 2) := by decide +kernel
theorem dX4_writeBestEnd_5 : decode cX4_writeBestEnd 5 = .ok (.aload_n 0, 1) := by decide +kernel
theorem dX4_writeBestEnd_6 : decode cX4_writeBestEnd 6 = .ok (.getfield 71, 3) := by decide +kernel
theorem dX4_writeBestEnd_9 : decode cX4_writeBestEnd 9 = .ok (.if_icmp .ge 127, 3) := by decide +kernel
theorem dX4_writeBestEnd_12 : decode cX4_writeBestEnd 12 = .ok (.iconst 0, 1) := by decide +kernel
theorem dX4_writeBestEnd_13 : decode cX4_writeBestEnd 13 = .ok (.istore 6, 2) := by decide +kernel
theorem dX4_writeBestEnd_15 : decode cX4_writeBestEnd 15 = .ok (.iload 6, 2) := by decide +kernel
theorem dX4_writeBestEnd_17 : decode cX4_writeBestEnd 17 = .ok (.aload_n 0, 1) := by decide +kernel
theorem dX4_writeBestEnd_18 : decode cX4_writeBestEnd 18 = .ok (.getfield 71, 3) := by decide +kernel
theorem dX4_writeBestEnd_21 : decode cX4_writeBestEnd 21 = .ok (.if_icmp .ge 109, 3) := by decide +kernel
theorem dX4_writeBestEnd_24 : decode cX4_writeBestEnd 24 = .ok (.aload_n 0, 1) := by decide +kernel
theorem dX4_writeBestEnd_25 : decode cX4_writeBestEnd 25 = .ok (.aload_n 0, 1) := by decide +kernel
theorem dX4_writeBestEnd_26 : decode cX4_writeBestEnd 26 = .ok (.aload_n 0, 1) := by decide +kernel
theorem dX4_writeBestEnd_27 : decode cX4_writeBestEnd 27 = .ok (.iload 5, 2) := by decide +kernel
theorem dX4_writeBestEnd_29 : decode cX4_writeBestEnd 29 = .ok (.iload 6, 2) := by decide +kernel
theorem dX4_writeBestEnd_31 : decode cX4_writeBestEnd 31 = .ok (.invokevirtual 133, 3) := by decide +kernel
theorem dX4_writeBestEnd_34 : decode cX4_writeBestEnd 34 = .ok (.iload_n 2, 1) := by decide +kernel
theorem dX4_writeBestEnd_35 : decode cX4_writeBestEnd 35 = .ok (.iload_n 3, 1) := by decide +kernel
theorem dX4_writeBestEnd_36 : decode cX4_writeBestEnd 36 = .ok (.iload 5, 2) := by decide +kernel
theorem dX4_writeBestEnd_38 : decode cX4_writeBestEnd 38 = .ok (.invokevirtual 127, 3) := by decide +kernel
theorem dX4_writeBestEnd_41 : decode cX4_writeBestEnd 41 = .ok (.iload 4, 2) := by decide +kernel
theorem dX4_writeBestEnd_43 : decode cX4_writeBestEnd 43 = .ok (.invokevirtual 130, 3) := by decide +kernel
theorem dX4_writeBestEnd_46 : decode cX4_writeBestEnd 46 = .ok (.istore 7, 2) := by decide +kernel
theorem dX4_writeBestEnd_48 : decode cX4_writeBestEnd 48 = .ok (.aload_n 0, 1) := by decide +kernel
theorem dX4_writeBestEnd_49 : decode cX4_writeBestEnd 49 = .ok (.aload_n 0, 1) := by decide +kernel
theorem dX4_writeBestEnd_50 : decode cX4_writeBestEnd 50 = .ok (.aload_n 0, 1) := by decide +kernel
theorem dX4_writeBestEnd_51 : decode cX4_writeBestEnd 51 = .ok (.getfield 65, 3) := by decide +kernel
theorem dX4_writeBestEnd_54 : decode cX4_writeBestEnd 54 = .ok (.iload_n 3, 1) := by decide +kernel
theorem dX4_writeBestEnd_55 : decode cX4_writeBestEnd 55 = .ok (.iload 5, 2) := by decide +kernel
theorem dX4_writeBestEnd_57 : decode cX4_writeBestEnd 57 = .ok (.iload 6, 2) := by decide +kernel
theorem dX4_writeBestEnd_59 : decode cX4_writeBestEnd 59 = .ok (.invokevirtual 127, 3) := by decide +kernel
theorem dX4_writeBestEnd_62 : decode cX4_writeBestEnd 62 = .ok (.iload 4, 2) := by decide +kernel
theorem dX4_writeBestEnd_64 : decode cX4_writeBestEnd 64 = .ok (.invokevirtual 130, 3) := by decide +kernel
theorem dX4_writeBestEnd_67 : decode cX4_writeBestEnd 67 = .ok (.istore 8, 2) := by decide +kernel
theorem dX4_writeBestEnd_69 : decode cX4_writeBestEnd 69 = .ok (.iload 7, 2) := by decide +kernel
theorem dX4_writeBestEnd_71 : decode cX4_writeBestEnd 71 = .ok (.iload 8, 2) := by decide +kernel
theorem dX4_writeBestEnd_73 : decode cX4_writeBestEnd 73 = .ok (.iadd, 1) := by decide +kernel
theorem dX4_writeBestEnd_74 : decode cX4_writeBestEnd 74 = .ok (.aload_n 0, 1) := by decide +kernel
theorem dX4_writeBestEnd_75 : decode cX4_writeBestEnd 75 = .ok (.aload_n 0, 1) := by decide +kernel
theorem dX4_writeBestEnd_76 : decode cX4_writeBestEnd 76 = .ok (.getfield 65, 3) := by decide +kernel
theorem dX4_writeBestEnd_79 : decode cX4_writeBestEnd 79 = .ok (.iconst 2, 1) := by decide +kernel
theorem dX4_writeBestEnd_80 : decode cX4_writeBestEnd 80 = .ok (.isub, 1) := by decide +kernel
theorem dX4_writeBestEnd_81 : decode cX4_writeBestEnd 81 = .ok (.iload_n 2, 1) := by decide +kernel
theorem dX4_writeBestEnd_82 : decode cX4_writeBestEnd 82 = .ok (.iload_n 3, 1) := by decide +kernel
theorem dX4_writeBestEnd_83 : decode cX4_writeBestEnd 83 = .ok (.invokevirtual 121, 3) := by decide +kernel
theorem dX4_writeBestEnd_86 : decode cX4_writeBestEnd 86 = .ok (.if_icmp .ne 38, 3) := by decide +kernel
theorem dX4_writeBestEnd_89 : decode cX4_writeBestEnd 89 = .ok (.aload_n 1, 1) := by decide +kernel
theorem dX4_writeBestEnd_90 : decode cX4_writeBestEnd 90 = .ok (.aload_n 0, 1) := by decide +kernel
theorem dX4_writeBestEnd_91 : decode cX4_writeBestEnd 91 = .ok (.getfield 65, 3) := by decide +kernel
theorem dX4_writeBestEnd_94 : decode cX4_writeBestEnd 94 = .ok (.iconst 2, 1) := by decide +kernel
theorem dX4_writeBestEnd_95 : decode cX4_writeBestEnd 95 = .ok (.isub, 1) := by decide +kernel
theorem dX4_writeBestEnd_96 : decode cX4_writeBestEnd 96 = .ok (.aload_n 0, 1) := by decide +kernel
theorem dX4_writeBestEnd_97 : decode cX4_writeBestEnd 97 = .ok (.getfield 76, 3) := by decide +kernel
theorem dX4_writeBestEnd_100 : decode cX4_writeBestEnd 100 = .ok (.iload 5, 2) := by decide +kernel
theorem dX4_writeBestEnd_102 : decode cX4_writeBestEnd 102 = .ok (.iadd, 1) := by decide +kernel
theorem dX4_writeBestEnd_103 : decode cX4_writeBestEnd 103 = .ok (.invokevirtual 91, 3) := by decide +kernel
theorem dX4_writeBestEnd_106 : decode cX4_writeBestEnd 106 = .ok (.aload_n 1, 1) := by decide +kernel
theorem dX4_writeBestEnd_107 : decode cX4_writeBestEnd 107 = .ok (.aload_n 0, 1) := by decide +kernel
theorem dX4_writeBestEnd_108 : decode cX4_writeBestEnd 108 = .ok (.getfield 65, 3) := by decide +kernel
theorem dX4_writeBestEnd_111 : decode cX4_writeBestEnd 111 = .ok (.iconst 1, 1) := by decide +kernel
theorem dX4_writeBestEnd_112 : decode cX4_writeBestEnd 112 = .ok (.isub, 1) := by decide +kernel
theorem dX4_writeBestEnd_113 : decode cX4_writeBestEnd 113 = .ok (.aload_n 0, 1) := by decide +kernel
theorem dX4_writeBestEnd_114 : decode cX4_writeBestEnd 114 = .ok (.getfield 76, 3) := by decide +kernel
theorem dX4_writeBestEnd_117 : decode cX4_writeBestEnd 117 = .ok (.iload 6, 2) := by decide +kernel
theorem dX4_writeBestEnd_119 : decode cX4_writeBestEnd 119 = .ok (.iadd, 1) := by decide +kernel
theorem dX4_writeBestEnd_120 : decode cX4_writeBestEnd 120 = .ok (.invokevirtual 91, 3) := by decide +kernel
theorem dX4_writeBestEnd_123 : decode cX4_writeBestEnd 123 = .ok (.return_, 1) := by decide +kernel
theorem dX4_writeBestEnd_124 : decode cX4_writeBestEnd 124 = .ok (.iinc 6 1, 3) := by decide +kernel
theorem dX4_writeBestEnd_127 : decode cX4_writeBestEnd 127 = .ok (.goto (-112), 3) := by decide +kernel
theorem dX4_writeBestEnd_130 : decode cX4_writeBestEnd 130 = .ok (.iinc 5 1, 3) := by decide +kernel
theorem dX4_writeBestEnd_133 : decode cX4_writeBestEnd 133 = .ok (.goto (-130), 3) := by decide +kernel
theorem dX4_writeBestEnd_136 : decode cX4_writeBestEnd 136 = .ok (.return_, 1) := by decide +kernel
theorem dX4_barring_0 : decode cX4_barring 0 = .ok (.aload_n 0, 1) := by decide +kernel
theorem dX4_barring_1 : decode cX4_barring 1 = .ok (.getfield 44, 3) := by decide +kernel
theorem dX4_barring_4 : decode cX4_barring 4 = .ok (.aload_n 0, 1) := by decide +kernel
theorem dX4_barring_5 : decode cX4_barring 5 = .ok (.getfield 40, 3) := by decide +kernel
theorem dX4_barring_8 : decode cX4_barring 8 = .ok (.if_icmp .ne 22, 3) := by decide +kernel
theorem dX4_barring_11 : decode cX4_barring 11 = .ok (.aload_n 0, 1) := by decide +kernel
theorem dX4_barring_12 : decode cX4_barring 12 = .ok (.getfield 47, 3) := by decide +kernel
theorem dX4_barring_15 : decode cX4_barring 15 = .ok (.aload_n 0, 1) := by decide +kernel
theorem dX4_barring_16 : decode cX4_barring 16 = .ok (.getfield 13, 3) := by decide +kernel
theorem dX4_barring_19 : decode cX4_barring 19 = .ok (.invokevirtual 151, 3) := by decide +kernel
theorem dX4_barring_22 : decode cX4_barring 22 = .ok (.if_icmp .ne 8, 3) := by decide +kernel
theorem dX4_barring_25 : decode cX4_barring 25 = .ok (.aload_n 0, 1) := by decide +kernel
theorem dX4_barring_26 : decode cX4_barring 26 = .ok (.getfield 152, 3) := by decide +kernel
theorem dX4_barring_29 : decode cX4_barring 29 = .ok (.ireturn, 1) := by decide +kernel
theorem dX4_barring_30 : decode cX4_barring 30 = .ok (.aload_n 0, 1) := by decide +kernel
theorem dX4_barring_31 : decode cX4_barring 31 = .ok (.aload_n 0, 1) := by decide +kernel
theorem dX4_barring_32 : decode cX4_barring 32 = .ok (.getfield 40, 3) := by decide +kernel
theorem dX4_barring_35 : decode cX4_barring 35 = .ok (.putfield 44, 3) := by decide +kernel
theorem dX4_barring_38 : decode cX4_barring 38 = .ok (.aload_n 0, 1) := by decide +kernel
theorem dX4_barring_39 : decode cX4_barring 39 = .ok (.aload_n 0, 1) := by decide +kernel
theorem dX4_barring_40 : decode cX4_barring 40 = .ok (.getfield 13, 3) := by decide +kernel
theorem dX4_barring_43 : decode cX4_barring 43 = .ok (.invokevirtual 151, 3) := by decide +kernel
theorem dX4_barring_46 : decode cX4_barring 46 = .ok (.putfield 47, 3) := by decide +kernel
theorem dX4_barring_49 : decode cX4_barring 49 = .ok (.aload_n 0, 1) := by decide +kernel
theorem dX4_barring_50 : decode cX4_barring 50 = .ok (.aload_n 0, 1) := by decide +kernel
theorem dX4_barring_51 : decode cX4_barring 51 = .ok (.getfield 13, 3) := by decide +kernel
theorem dX4_barring_54 : decode cX4_barring 54 = .ok (.bipush 10, 2) := by decide +kernel
theorem dX4_barring_56 : decode cX4_barring 56 = .ok (.invokevirtual 155, 3) := by decide +kernel
theorem dX4_barring_59 : decode cX4_barring 59 = .ok (.putfield 152, 3) := by decide +kernel
theorem dX4_barring_62 : decode cX4_barring 62 = .ok (.aload_n 0, 1) := by decide +kernel
theorem dX4_barring_63 : decode cX4_barring 63 = .ok (.aload_n 0, 1) := by decide +kernel
theorem dX4_barring_64 : decode cX4_barring 64 = .ok (.getfield 152, 3) := by decide +kernel
theorem dX4_barring_67 : decode cX4_barring 67 = .ok (.invokevirtual 158, 3) := by decide +kernel
theorem dX4_barring_70 : decode cX4_barring 70 = .ok (.ldc 109, 2) := by decide +kernel
theorem dX4_barring_72 : decode cX4_barring 72 = .ok (.if_icmp .ge 8, 3) := by decide +kernel
theorem dX4_barring_75 : decode cX4_barring 75 = .ok (.aload_n 0, 1) := by decide +kernel
theorem dX4_barring_76 : decode cX4_barring 76 = .ok (.iconst 0, 1) := by decide +kernel
theorem dX4_barring_77 : decode cX4_barring 77 = .ok (.putfield 152, 3) := by decide +kernel
theorem dX4_barring_80 : decode cX4_barring 80 = .ok (.iconst 0, 1) := by decide +kernel
theorem dX4_barring_81 : decode cX4_barring 81 = .ok (.istore_n 1, 1) := by decide +kernel
theorem dX4_barring_82 : decode cX4_barring 82 = .ok (.iload_n 1, 1) := by decide +kernel
theorem dX4_barring_83 : decode cX4_barring 83 = .ok (.bipush 12, 2) := by decide +kernel
theorem dX4_barring_85 : decode cX4_barring 85 = .ok (.if_icmp .ge 43, 3) := by decide +kernel
theorem dX4_barring_88 : decode cX4_barring 88 = .ok (.aload_n 0, 1) := by decide +kernel
theorem dX4_barring_89 : decode cX4_barring 89 = .ok (.getfield 152, 3) := by decide +kernel
theorem dX4_barring_92 : decode cX4_barring 92 = .ok (.iconst 1, 1) := by decide +kernel
theorem dX4_barring_93 : decode cX4_barring 93 = .ok (.iload_n 1, 1) := by decide +kernel
theorem dX4_barring_94 : decode cX4_barring 94 = .ok (.ishl, 1) := by decide +kernel
theorem dX4_barring_95 : decode cX4_barring 95 = .ok (.iconst (-1), 1) := by decide +kernel
theorem dX4_barring_96 : decode cX4_barring 96 = .ok (.ixor, 1) := by decide +kernel
theorem dX4_barring_97 : decode cX4_barring 97 = .ok (.iand, 1) := by decide +kernel
theorem dX4_barring_98 : decode cX4_barring 98 = .ok (.istore_n 2, 1) := by decide +kernel
theorem dX4_barring_99 : decode cX4_barring 99 = .ok (.iload_n 2, 1) := by decide +kernel
theorem dX4_barring_100 : decode cX4_barring 100 = .ok (.aload_n 0, 1) := by decide +kernel
theorem dX4_barring_101 : decode cX4_barring 101 = .ok (.getfield 152, 3) := by decide +kernel
theorem dX4_barring_104 : decode cX4_barring 104 = .ok (.if_icmp .eq 18, 3) := by decide +kernel
theorem dX4_barring_107 : decode cX4_barring 107 = .ok (.aload_n 0, 1) := by decide +kernel
theorem dX4_barring_108 : decode cX4_barring 108 = .ok (.iload_n 2, 1) := by decide +kernel
theorem dX4_barring_109 : decode cX4_barring 109 = .ok (.invokevirtual 158, 3) := by decide +kernel
theorem dX4_barring_112 : decode cX4_barring 112 = .ok (.ldc 109, 2) := by decide +kernel
theorem dX4_barring_114 : decode cX4_barring 114 = .ok (.if_icmp .lt 8, 3) := by decide +kernel
theorem dX4_barring_117 : decode cX4_barring 117 = .ok (.aload_n 0, 1) := by decide +kernel
theorem dX4_barring_118 : decode cX4_barring 118 = .ok (.iload_n 2, 1) := by decide +kernel
theorem dX4_barring_119 : decode cX4_barring 119 = .ok (.putfield 152, 3) := by decide +kernel
theorem dX4_barring_122 : decode cX4_barring 122 = .ok (.iinc 1 1, 3) := by decide +kernel
theorem dX4_barring_125 : decode cX4_barring 125 = .ok (.goto (-43), 3) := by decide +kernel
theorem dX4_barring_128 : decode cX4_barring 128 = .ok (.aload_n 0, 1) := by decide +kernel
theorem dX4_barring_129 : decode cX4_barring 129 = .ok (.getfield 152, 3) := by decide +kernel
theorem dX4_barring_132 : decode cX4_barring 132 = .ok (.ireturn, 1) := by decide +kernel
theorem dX4_agreesWithTryingAll_0 : decode cX4_agreesWithTryingAll 0 = .ok (.aload_n 0, 1) := by decide +kernel
theorem dX4_agreesWithTryingAll_1 : decode cX4_agreesWithTryingAll 1 = .ok (.getfield 13, 3) := by decide +kernel
theorem dX4_agreesWithTryingAll_4 : decode cX4_agreesWithTryingAll 4 = .ok (.bipush 10, 2) := by decide +kernel
theorem dX4_agreesWithTryingAll_6 : decode cX4_agreesWithTryingAll 6 = .ok (.invokevirtual 155, 3) := by decide +kernel
theorem dX4_agreesWithTryingAll_9 : decode cX4_agreesWithTryingAll 9 = .ok (.istore_n 1, 1) := by decide +kernel
theorem dX4_agreesWithTryingAll_10 : decode cX4_agreesWithTryingAll 10 = .ok (.aload_n 0, 1) := by decide +kernel
theorem dX4_agreesWithTryingAll_11 : decode cX4_agreesWithTryingAll 11 = .ok (.iload_n 1, 1) := by decide +kernel
theorem dX4_agreesWithTryingAll_12 : decode cX4_agreesWithTryingAll 12 = .ok (.invokevirtual 158, 3) := by decide +kernel
theorem dX4_agreesWithTryingAll_15 : decode cX4_agreesWithTryingAll 15 = .ok (.istore_n 2, 1) := by decide +kernel
theorem dX4_agreesWithTryingAll_16 : decode cX4_agreesWithTryingAll 16 = .ok (.aload_n 0, 1) := by decide +kernel
theorem dX4_agreesWithTryingAll_17 : decode cX4_agreesWithTryingAll 17 = .ok (.aload_n 0, 1) := by decide +kernel
theorem dX4_agreesWithTryingAll_18 : decode cX4_agreesWithTryingAll 18 = .ok (.getfield 22, 3) := by decide +kernel
theorem dX4_agreesWithTryingAll_21 : decode cX4_agreesWithTryingAll 21 = .ok (.iload_n 1, 1) := by decide +kernel
theorem dX4_agreesWithTryingAll_22 : decode cX4_agreesWithTryingAll 22 = .ok (.invokevirtual 161, 3) := by decide +kernel
theorem dX4_agreesWithTryingAll_25 : decode cX4_agreesWithTryingAll 25 = .ok (.lconst 0, 1) := by decide +kernel
theorem dX4_agreesWithTryingAll_26 : decode cX4_agreesWithTryingAll 26 = .ok (.lstore_n 3, 1) := by decide +kernel
theorem dX4_agreesWithTryingAll_27 : decode cX4_agreesWithTryingAll 27 = .ok (.ldc 109, 2) := by decide +kernel
theorem dX4_agreesWithTryingAll_29 : decode cX4_agreesWithTryingAll 29 = .ok (.istore 5, 2) := by decide +kernel
theorem dX4_agreesWithTryingAll_31 : decode cX4_agreesWithTryingAll 31 = .ok (.iload_n 2, 1) := by decide +kernel
theorem dX4_agreesWithTryingAll_32 : decode cX4_agreesWithTryingAll 32 = .ok (.ldc 109, 2) := by decide +kernel
theorem dX4_agreesWithTryingAll_34 : decode cX4_agreesWithTryingAll 34 = .ok (.if_icmp .lt 7, 3) := by decide +kernel
theorem dX4_agreesWithTryingAll_37 : decode cX4_agreesWithTryingAll 37 = .ok (.iconst 1, 1) := by decide +kernel
theorem dX4_agreesWithTryingAll_38 : decode cX4_agreesWithTryingAll 38 = .ok (.goto 4, 3) := by decide +kernel
theorem dX4_agreesWithTryingAll_41 : decode cX4_agreesWithTryingAll 41 = .ok (.iconst 0, 1) := by decide +kernel
theorem dX4_agreesWithTryingAll_42 : decode cX4_agreesWithTryingAll 42 = .ok (.istore 6, 2) := by decide +kernel
theorem dX4_agreesWithTryingAll_44 : decode cX4_agreesWithTryingAll 44 = .ok (.aload_n 0, 1) := by decide +kernel
theorem dX4_agreesWithTryingAll_45 : decode cX4_agreesWithTryingAll 45 = .ok (.invokevirtual 165, 3) := by decide +kernel
theorem dX4_agreesWithTryingAll_48 : decode cX4_agreesWithTryingAll 48 = .ok (.istore 7, 2) := by decide +kernel
theorem dX4_agreesWithTryingAll_50 : decode cX4_agreesWithTryingAll 50 = .ok (.iconst 0, 1) := by decide +kernel
theorem dX4_agreesWithTryingAll_51 : decode cX4_agreesWithTryingAll 51 = .ok (.istore 8, 2) := by decide +kernel
theorem dX4_agreesWithTryingAll_53 : decode cX4_agreesWithTryingAll 53 = .ok (.iload 8, 2) := by decide +kernel
theorem dX4_agreesWithTryingAll_55 : decode cX4_agreesWithTryingAll 55 = .ok (.iload 7, 2) := by decide +kernel
theorem dX4_agreesWithTryingAll_57 : decode cX4_agreesWithTryingAll 57 = .ok (.if_icmp .ge 65, 3) := by decide +kernel
theorem dX4_agreesWithTryingAll_60 : decode cX4_agreesWithTryingAll 60 = .ok (.aload_n 0, 1) := by decide +kernel
theorem dX4_agreesWithTryingAll_61 : decode cX4_agreesWithTryingAll 61 = .ok (.getfield 26, 3) := by decide +kernel
theorem dX4_agreesWithTryingAll_64 : decode cX4_agreesWithTryingAll 64 = .ok (.iload_n 1, 1) := by decide +kernel
theorem dX4_agreesWithTryingAll_65 : decode cX4_agreesWithTryingAll 65 = .ok (.invokevirtual 168, 3) := by decide +kernel
theorem dX4_agreesWithTryingAll_68 : decode cX4_agreesWithTryingAll 68 = .ok (.ifCond .eq 44, 3) := by decide +kernel
theorem dX4_agreesWithTryingAll_71 : decode cX4_agreesWithTryingAll 71 = .ok (.lload_n 3, 1) := by decide +kernel
theorem dX4_agreesWithTryingAll_72 : decode cX4_agreesWithTryingAll 72 = .ok (.lconst 1, 1) := by decide +kernel
theorem dX4_agreesWithTryingAll_73 : decode cX4_agreesWithTryingAll 73 = .ok (.ladd, 1) := by decide +kernel
theorem dX4_agreesWithTryingAll_74 : decode cX4_agreesWithTryingAll 74 = .ok (.lstore_n 3, 1) := by decide +kernel
theorem dX4_agreesWithTryingAll_75 : decode cX4_agreesWithTryingAll 75 = .ok (.aload_n 0, 1) := by decide +kernel
theorem dX4_agreesWithTryingAll_76 : decode cX4_agreesWithTryingAll 76 = .ok (.getfield 26, 3) := by decide +kernel
theorem dX4_agreesWithTryingAll_79 : decode cX4_agreesWithTryingAll 79 = .ok (.aload_n 0, 1) := by decide +kernel
theorem dX4_agreesWithTryingAll_80 : decode cX4_agreesWithTryingAll 80 = .ok (.getfield 13, 3) := by decide +kernel
theorem dX4_agreesWithTryingAll_83 : decode cX4_agreesWithTryingAll 83 = .ok (.iconst 0, 1) := by decide +kernel
theorem dX4_agreesWithTryingAll_84 : decode cX4_agreesWithTryingAll 84 = .ok (.aload_n 0, 1) := by decide +kernel
theorem dX4_agreesWithTryingAll_85 : decode cX4_agreesWithTryingAll 85 = .ok (.getfield 65, 3) := by decide +kernel
theorem dX4_agreesWithTryingAll_88 : decode cX4_agreesWithTryingAll 88 = .ok (.iconst 1, 1) := by decide +kernel
theorem dX4_agreesWithTryingAll_89 : decode cX4_agreesWithTryingAll 89 = .ok (.isub, 1) := by decide +kernel
theorem dX4_agreesWithTryingAll_90 : decode cX4_agreesWithTryingAll 90 = .ok (.invokevirtual 172, 3) := by decide +kernel
theorem dX4_agreesWithTryingAll_93 : decode cX4_agreesWithTryingAll 93 = .ok (.istore 9, 2) := by decide +kernel
theorem dX4_agreesWithTryingAll_95 : decode cX4_agreesWithTryingAll 95 = .ok (.iload 9, 2) := by decide +kernel
theorem dX4_agreesWithTryingAll_97 : decode cX4_agreesWithTryingAll 97 = .ok (.iload 5, 2) := by decide +kernel
theorem dX4_agreesWithTryingAll_99 : decode cX4_agreesWithTryingAll 99 = .ok (.if_icmp .ge 13, 3) := by decide +kernel
theorem dX4_agreesWithTryingAll_102 : decode cX4_agreesWithTryingAll 102 = .ok (.iload 9, 2) := by decide +kernel
theorem dX4_agreesWithTryingAll_104 : decode cX4_agreesWithTryingAll 104 = .ok (.istore 5, 2) := by decide +kernel
theorem dX4_agreesWithTryingAll_106 : decode cX4_agreesWithTryingAll 106 = .ok (.aload_n 0, 1) := by decide +kernel
theorem dX4_agreesWithTryingAll_107 : decode cX4_agreesWithTryingAll 107 = .ok (.invokevirtual 176, 3) := by decide +kernel
theorem dX4_agreesWithTryingAll_110 : decode cX4_agreesWithTryingAll 110 = .ok (.istore 6, 2) := by decide +kernel
theorem dX4_agreesWithTryingAll_112 : decode cX4_agreesWithTryingAll 112 = .ok (.aload_n 0, 1) := by decide +kernel
theorem dX4_agreesWithTryingAll_113 : decode cX4_agreesWithTryingAll 113 = .ok (.invokevirtual 180, 3) := by decide +kernel
theorem dX4_agreesWithTryingAll_116 : decode cX4_agreesWithTryingAll 116 = .ok (.iinc 8 1, 3) := by decide +kernel
theorem dX4_agreesWithTryingAll_119 : decode cX4_agreesWithTryingAll 119 = .ok (.goto (-66), 3) := by decide +kernel
theorem dX4_agreesWithTryingAll_122 : decode cX4_agreesWithTryingAll 122 = .ok (.lload_n 3, 1) := by decide +kernel
theorem dX4_agreesWithTryingAll_123 : decode cX4_agreesWithTryingAll 123 = .ok (.aload_n 0, 1) := by decide +kernel
theorem dX4_agreesWithTryingAll_124 : decode cX4_agreesWithTryingAll 124 = .ok (.invokevirtual 183, 3) := by decide +kernel
theorem dX4_agreesWithTryingAll_127 : decode cX4_agreesWithTryingAll 127 = .ok (.lcmp, 1) := by decide +kernel
theorem dX4_agreesWithTryingAll_128 : decode cX4_agreesWithTryingAll 128 = .ok (.ifCond .ne 18, 3) := by decide +kernel
theorem dX4_agreesWithTryingAll_131 : decode cX4_agreesWithTryingAll 131 = .ok (.iload 5, 2) := by decide +kernel
theorem dX4_agreesWithTryingAll_133 : decode cX4_agreesWithTryingAll 133 = .ok (.iload_n 2, 1) := by decide +kernel
theorem dX4_agreesWithTryingAll_134 : decode cX4_agreesWithTryingAll 134 = .ok (.if_icmp .ne 12, 3) := by decide +kernel
theorem dX4_agreesWithTryingAll_137 : decode cX4_agreesWithTryingAll 137 = .ok (.iload 6, 2) := by decide +kernel
theorem dX4_agreesWithTryingAll_139 : decode cX4_agreesWithTryingAll 139 = .ok (.ifCond .eq 7, 3) := by decide +kernel
theorem dX4_agreesWithTryingAll_142 : decode cX4_agreesWithTryingAll 142 = .ok (.iconst 1, 1) := by decide +kernel
theorem dX4_agreesWithTryingAll_143 : decode cX4_agreesWithTryingAll 143 = .ok (.goto 4, 3) := by decide +kernel
theorem dX4_agreesWithTryingAll_146 : decode cX4_agreesWithTryingAll 146 = .ok (.iconst 0, 1) := by decide +kernel
theorem dX4_agreesWithTryingAll_147 : decode cX4_agreesWithTryingAll 147 = .ok (.ireturn, 1) := by decide +kernel
theorem dX4_startTrying_0 : decode cX4_startTrying 0 = .ok (.iconst 1, 1) := by decide +kernel
theorem dX4_startTrying_1 : decode cX4_startTrying 1 = .ok (.istore_n 1, 1) := by decide +kernel
theorem dX4_startTrying_2 : decode cX4_startTrying 2 = .ok (.aload_n 0, 1) := by decide +kernel
theorem dX4_startTrying_3 : decode cX4_startTrying 3 = .ok (.getfield 26, 3) := by decide +kernel
theorem dX4_startTrying_6 : decode cX4_startTrying 6 = .ok (.aload_n 0, 1) := by decide +kernel
theorem dX4_startTrying_7 : decode cX4_startTrying 7 = .ok (.getfield 65, 3) := by decide +kernel
theorem dX4_startTrying_10 : decode cX4_startTrying 10 = .ok (.invokevirtual 79, 3) := by decide +kernel
theorem dX4_startTrying_13 : decode cX4_startTrying 13 = .ok (.iconst 0, 1) := by decide +kernel
theorem dX4_startTrying_14 : decode cX4_startTrying 14 = .ok (.istore_n 2, 1) := by decide +kernel
theorem dX4_startTrying_15 : decode cX4_startTrying 15 = .ok (.iload_n 2, 1) := by decide +kernel
theorem dX4_startTrying_16 : decode cX4_startTrying 16 = .ok (.aload_n 0, 1) := by decide +kernel
theorem dX4_startTrying_17 : decode cX4_startTrying 17 = .ok (.getfield 65, 3) := by decide +kernel
theorem dX4_startTrying_20 : decode cX4_startTrying 20 = .ok (.if_icmp .ge 28, 3) := by decide +kernel
theorem dX4_startTrying_23 : decode cX4_startTrying 23 = .ok (.aload_n 0, 1) := by decide +kernel
theorem dX4_startTrying_24 : decode cX4_startTrying 24 = .ok (.getfield 26, 3) := by decide +kernel
theorem dX4_startTrying_27 : decode cX4_startTrying 27 = .ok (.iload_n 2, 1) := by decide +kernel
theorem dX4_startTrying_28 : decode cX4_startTrying 28 = .ok (.aload_n 0, 1) := by decide +kernel
theorem dX4_startTrying_29 : decode cX4_startTrying 29 = .ok (.getfield 76, 3) := by decide +kernel
theorem dX4_startTrying_32 : decode cX4_startTrying 32 = .ok (.invokevirtual 91, 3) := by decide +kernel
theorem dX4_startTrying_35 : decode cX4_startTrying 35 = .ok (.iload_n 1, 1) := by decide +kernel
theorem dX4_startTrying_36 : decode cX4_startTrying 36 = .ok (.aload_n 0, 1) := by decide +kernel
theorem dX4_startTrying_37 : decode cX4_startTrying 37 = .ok (.getfield 71, 3) := by decide +kernel
theorem dX4_startTrying_40 : decode cX4_startTrying 40 = .ok (.imul, 1) := by decide +kernel
theorem dX4_startTrying_41 : decode cX4_startTrying 41 = .ok (.istore_n 1, 1) := by decide +kernel
theorem dX4_startTrying_42 : decode cX4_startTrying 42 = .ok (.iinc 2 1, 3) := by decide +kernel
theorem dX4_startTrying_45 : decode cX4_startTrying 45 = .ok (.goto (-30), 3) := by decide +kernel
theorem dX4_startTrying_48 : decode cX4_startTrying 48 = .ok (.iload_n 1, 1) := by decide +kernel
theorem dX4_startTrying_49 : decode cX4_startTrying 49 = .ok (.ireturn, 1) := by decide +kernel
theorem dX4_tryNext_0 : decode cX4_tryNext 0 = .ok (.aload_n 0, 1) := by decide +kernel
theorem dX4_tryNext_1 : decode cX4_tryNext 1 = .ok (.getfield 65, 3) := by decide +kernel
theorem dX4_tryNext_4 : decode cX4_tryNext 4 = .ok (.iconst 1, 1) := by decide +kernel
theorem dX4_tryNext_5 : decode cX4_tryNext 5 = .ok (.isub, 1) := by decide +kernel
theorem dX4_tryNext_6 : decode cX4_tryNext 6 = .ok (.istore_n 1, 1) := by decide +kernel
theorem dX4_tryNext_7 : decode cX4_tryNext 7 = .ok (.iload_n 1, 1) := by decide +kernel
theorem dX4_tryNext_8 : decode cX4_tryNext 8 = .ok (.ifCond .lt 55, 3) := by decide +kernel
theorem dX4_tryNext_11 : decode cX4_tryNext 11 = .ok (.aload_n 0, 1) := by decide +kernel
theorem dX4_tryNext_12 : decode cX4_tryNext 12 = .ok (.getfield 26, 3) := by decide +kernel
theorem dX4_tryNext_15 : decode cX4_tryNext 15 = .ok (.iload_n 1, 1) := by decide +kernel
theorem dX4_tryNext_16 : decode cX4_tryNext 16 = .ok (.invokevirtual 187, 3) := by decide +kernel
theorem dX4_tryNext_19 : decode cX4_tryNext 19 = .ok (.iconst 1, 1) := by decide +kernel
theorem dX4_tryNext_20 : decode cX4_tryNext 20 = .ok (.iadd, 1) := by decide +kernel
theorem dX4_tryNext_21 : decode cX4_tryNext 21 = .ok (.istore_n 2, 1) := by decide +kernel
theorem dX4_tryNext_22 : decode cX4_tryNext 22 = .ok (.iload_n 2, 1) := by decide +kernel
theorem dX4_tryNext_23 : decode cX4_tryNext 23 = .ok (.aload_n 0, 1) := by decide +kernel
theorem dX4_tryNext_24 : decode cX4_tryNext 24 = .ok (.getfield 76, 3) := by decide +kernel
theorem dX4_tryNext_27 : decode cX4_tryNext 27 = .ok (.aload_n 0, 1) := by decide +kernel
theorem dX4_tryNext_28 : decode cX4_tryNext 28 = .ok (.getfield 71, 3) := by decide +kernel
theorem dX4_tryNext_31 : decode cX4_tryNext 31 = .ok (.iadd, 1) := by decide +kernel
theorem dX4_tryNext_32 : decode cX4_tryNext 32 = .ok (.if_icmp .ge 13, 3) := by decide +kernel
theorem dX4_tryNext_35 : decode cX4_tryNext 35 = .ok (.aload_n 0, 1) := by decide +kernel
theorem dX4_tryNext_36 : decode cX4_tryNext 36 = .ok (.getfield 26, 3) := by decide +kernel
theorem dX4_tryNext_39 : decode cX4_tryNext 39 = .ok (.iload_n 1, 1) := by decide +kernel
theorem dX4_tryNext_40 : decode cX4_tryNext 40 = .ok (.iload_n 2, 1) := by decide +kernel
theorem dX4_tryNext_41 : decode cX4_tryNext 41 = .ok (.invokevirtual 91, 3) := by decide +kernel
theorem dX4_tryNext_44 : decode cX4_tryNext 44 = .ok (.return_, 1) := by decide +kernel
theorem dX4_tryNext_45 : decode cX4_tryNext 45 = .ok (.aload_n 0, 1) := by decide +kernel
theorem dX4_tryNext_46 : decode cX4_tryNext 46 = .ok (.getfield 26, 3) := by decide +kernel
theorem dX4_tryNext_49 : decode cX4_tryNext 49 = .ok (.iload_n 1, 1) := by decide +kernel
theorem dX4_tryNext_50 : decode cX4_tryNext 50 = .ok (.aload_n 0, 1) := by decide +kernel
theorem dX4_tryNext_51 : decode cX4_tryNext 51 = .ok (.getfield 76, 3) := by decide +kernel
theorem dX4_tryNext_54 : decode cX4_tryNext 54 = .ok (.invokevirtual 91, 3) := by decide +kernel
theorem dX4_tryNext_57 : decode cX4_tryNext 57 = .ok (.iinc 1 (-1), 3) := by decide +kernel
theorem dX4_tryNext_60 : decode cX4_tryNext 60 = .ok (.goto (-53), 3) := by decide +kernel
theorem dX4_tryNext_63 : decode cX4_tryNext 63 = .ok (.return_, 1) := by decide +kernel
theorem dX4_isSketched_0 : decode cX4_isSketched 0 = .ok (.iconst 0, 1) := by decide +kernel
theorem dX4_isSketched_1 : decode cX4_isSketched 1 = .ok (.istore_n 1, 1) := by decide +kernel
theorem dX4_isSketched_2 : decode cX4_isSketched 2 = .ok (.iload_n 1, 1) := by decide +kernel
theorem dX4_isSketched_3 : decode cX4_isSketched 3 = .ok (.aload_n 0, 1) := by decide +kernel
theorem dX4_isSketched_4 : decode cX4_isSketched 4 = .ok (.getfield 65, 3) := by decide +kernel
theorem dX4_isSketched_7 : decode cX4_isSketched 7 = .ok (.if_icmp .ge 30, 3) := by decide +kernel
theorem dX4_isSketched_10 : decode cX4_isSketched 10 = .ok (.aload_n 0, 1) := by decide +kernel
theorem dX4_isSketched_11 : decode cX4_isSketched 11 = .ok (.getfield 26, 3) := by decide +kernel
theorem dX4_isSketched_14 : decode cX4_isSketched 14 = .ok (.iload_n 1, 1) := by decide +kernel
theorem dX4_isSketched_15 : decode cX4_isSketched 15 = .ok (.invokevirtual 187, 3) := by decide +kernel
theorem dX4_isSketched_18 : decode cX4_isSketched 18 = .ok (.aload_n 0, 1) := by decide +kernel
theorem dX4_isSketched_19 : decode cX4_isSketched 19 = .ok (.getfield 22, 3) := by decide +kernel
theorem dX4_isSketched_22 : decode cX4_isSketched 22 = .ok (.iload_n 1, 1) := by decide +kernel
theorem dX4_isSketched_23 : decode cX4_isSketched 23 = .ok (.invokevirtual 187, 3) := by decide +kernel
theorem dX4_isSketched_26 : decode cX4_isSketched 26 = .ok (.if_icmp .eq 5, 3) := by decide +kernel
theorem dX4_isSketched_29 : decode cX4_isSketched 29 = .ok (.iconst 0, 1) := by decide +kernel
theorem dX4_isSketched_30 : decode cX4_isSketched 30 = .ok (.ireturn, 1) := by decide +kernel
theorem dX4_isSketched_31 : decode cX4_isSketched 31 = .ok (.iinc 1 1, 3) := by decide +kernel
theorem dX4_isSketched_34 : decode cX4_isSketched 34 = .ok (.goto (-32), 3) := by decide +kernel
theorem dX4_isSketched_37 : decode cX4_isSketched 37 = .ok (.iconst 1, 1) := by decide +kernel
theorem dX4_isSketched_38 : decode cX4_isSketched 38 = .ok (.ireturn, 1) := by decide +kernel
