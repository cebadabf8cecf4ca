theorem dX7_init_0 : decode cX7_init 0 = .ok (.aload_n 0, 1) := by decide +kernel
theorem dX7_init_1 : decode cX7_init 1 = .ok (.invokespecial 1, 3) := by decide +kernel
theorem dX7_init_4 : decode cX7_init 4 = .ok (.aload_n 0, 1) := by decide +kernel
theorem dX7_init_5 : decode cX7_init 5 = .ok (.bipush 14, 2) := by decide +kernel
theorem dX7_init_7 : decode cX7_init 7 = .ok (.newarray .int, 2) := by decide +kernel
theorem dX7_init_9 : decode cX7_init 9 = .ok (.putfield 7, 3) := by decide +kernel
theorem dX7_init_12 : decode cX7_init 12 = .ok (.aload_n 0, 1) := by decide +kernel
theorem dX7_init_13 : decode cX7_init 13 = .ok (.bipush 53, 2) := by decide +kernel
theorem dX7_init_15 : decode cX7_init 15 = .ok (.newarray .int, 2) := by decide +kernel
theorem dX7_init_17 : decode cX7_init 17 = .ok (.putfield 13, 3) := by decide +kernel
theorem dX7_init_20 : decode cX7_init 20 = .ok (.aload_n 0, 1) := by decide +kernel
theorem dX7_init_21 : decode cX7_init 21 = .ok (.iconst 1, 1) := by decide +kernel
theorem dX7_init_22 : decode cX7_init 22 = .ok (.putfield 16, 3) := by decide +kernel
theorem dX7_init_25 : decode cX7_init 25 = .ok (.aload_n 0, 1) := by decide +kernel
theorem dX7_init_26 : decode cX7_init 26 = .ok (.bipush 7, 2) := by decide +kernel
theorem dX7_init_28 : decode cX7_init 28 = .ok (.putfield 20, 3) := by decide +kernel
theorem dX7_init_31 : decode cX7_init 31 = .ok (.aload_n 0, 1) := by decide +kernel
theorem dX7_init_32 : decode cX7_init 32 = .ok (.bipush 16, 2) := by decide +kernel
theorem dX7_init_34 : decode cX7_init 34 = .ok (.putfield 23, 3) := by decide +kernel
theorem dX7_init_37 : decode cX7_init 37 = .ok (.aload_n 0, 1) := by decide +kernel
theorem dX7_init_38 : decode cX7_init 38 = .ok (.bipush 12, 2) := by decide +kernel
theorem dX7_init_40 : decode cX7_init 40 = .ok (.newarray .int, 2) := by decide +kernel
theorem dX7_init_42 : decode cX7_init 42 = .ok (.putfield 26, 3) := by decide +kernel
theorem dX7_init_45 : decode cX7_init 45 = .ok (.aload_n 0, 1) := by decide +kernel
theorem dX7_init_46 : decode cX7_init 46 = .ok (.sipush 2700, 3) := by decide +kernel
theorem dX7_init_49 : decode cX7_init 49 = .ok (.newarray .int, 2) := by decide +kernel
theorem dX7_init_51 : decode cX7_init 51 = .ok (.putfield 29, 3) := by decide +kernel
theorem dX7_init_54 : decode cX7_init 54 = .ok (.aload_n 0, 1) := by decide +kernel
theorem dX7_init_55 : decode cX7_init 55 = .ok (.sipush 2700, 3) := by decide +kernel
theorem dX7_init_58 : decode cX7_init 58 = .ok (.newarray .long, 2) := by decide +kernel
theorem dX7_init_60 : decode cX7_init 60 = .ok (.putfield 32, 3) := by decide +kernel
theorem dX7_init_63 : decode cX7_init 63 = .ok (.aload_n 0, 1) := by decide +kernel
theorem dX7_init_64 : decode cX7_init 64 = .ok (.iconst 0, 1) := by decide +kernel
theorem dX7_init_65 : decode cX7_init 65 = .ok (.invokevirtual 36, 3) := by decide +kernel
theorem dX7_init_68 : decode cX7_init 68 = .ok (.istore_n 1, 1) := by decide +kernel
theorem dX7_init_69 : decode cX7_init 69 = .ok (.return_, 1) := by decide +kernel
theorem dX7_thrown_0 : decode cX7_thrown 0 = .ok (.aload_n 0, 1) := by decide +kernel
theorem dX7_thrown_1 : decode cX7_thrown 1 = .ok (.getfield 40, 3) := by decide +kernel
theorem dX7_thrown_4 : decode cX7_thrown 4 = .ok (.ireturn, 1) := by decide +kernel
theorem dX7_in_0 : decode cX7_in 0 = .ok (.iload_n 0, 1) := by decide +kernel
theorem dX7_in_1 : decode cX7_in 1 = .ok (.iload_n 1, 1) := by decide +kernel
theorem dX7_in_2 : decode cX7_in 2 = .ok (.if_icmp .lt 12, 3) := by decide +kernel
theorem dX7_in_5 : decode cX7_in 5 = .ok (.iload_n 0, 1) := by decide +kernel
theorem dX7_in_6 : decode cX7_in 6 = .ok (.iload_n 2, 1) := by decide +kernel
theorem dX7_in_7 : decode cX7_in 7 = .ok (.if_icmp .gt 7, 3) := by decide +kernel
theorem dX7_in_10 : decode cX7_in 10 = .ok (.iconst 1, 1) := by decide +kernel
theorem dX7_in_11 : decode cX7_in 11 = .ok (.goto 4, 3) := by decide +kernel
theorem dX7_in_14 : decode cX7_in 14 = .ok (.iconst 0, 1) := by decide +kernel
theorem dX7_in_15 : decode cX7_in 15 = .ok (.ireturn, 1) := by decide +kernel
theorem dX7_goesOn_0 : decode cX7_goesOn 0 = .ok (.aload_n 0, 1) := by decide +kernel
theorem dX7_goesOn_1 : decode cX7_goesOn 1 = .ok (.iload_n 1, 1) := by decide +kernel
theorem dX7_goesOn_2 : decode cX7_goesOn 2 = .ok (.putfield 40, 3) := by decide +kernel
theorem dX7_goesOn_5 : decode cX7_goesOn 5 = .ok (.iload_n 1, 1) := by decide +kernel
theorem dX7_goesOn_6 : decode cX7_goesOn 6 = .ok (.ifCond .ne 7, 3) := by decide +kernel
theorem dX7_goesOn_9 : decode cX7_goesOn 9 = .ok (.iconst 1, 1) := by decide +kernel
theorem dX7_goesOn_10 : decode cX7_goesOn 10 = .ok (.goto 4, 3) := by decide +kernel
theorem dX7_goesOn_13 : decode cX7_goesOn 13 = .ok (.iconst 0, 1) := by decide +kernel
theorem dX7_goesOn_14 : decode cX7_goesOn 14 = .ok (.ireturn, 1) := by decide +kernel
theorem dX7_size_0 : decode cX7_size 0 = .ok (.iload_n 0, 1) := by decide +kernel
theorem dX7_size_1 : decode cX7_size 1 = .ok (.ifCond .ge 8, 3) := by decide +kernel
theorem dX7_size_4 : decode cX7_size 4 = .ok (.iload_n 0, 1) := by decide +kernel
theorem dX7_size_5 : decode cX7_size 5 = .ok (.ineg, 1) := by decide +kernel
theorem dX7_size_6 : decode cX7_size 6 = .ok (.goto 4, 3) := by decide +kernel
theorem dX7_size_9 : decode cX7_size 9 = .ok (.iload_n 0, 1) := by decide +kernel
theorem dX7_size_10 : decode cX7_size 10 = .ok (.ireturn, 1) := by decide +kernel
theorem dX7_sign_0 : decode cX7_sign 0 = .ok (.iload_n 0, 1) := by decide +kernel
theorem dX7_sign_1 : decode cX7_sign 1 = .ok (.ifCond .ge 7, 3) := by decide +kernel
theorem dX7_sign_4 : decode cX7_sign 4 = .ok (.iconst (-1), 1) := by decide +kernel
theorem dX7_sign_5 : decode cX7_sign 5 = .ok (.goto 12, 3) := by decide +kernel
theorem dX7_sign_8 : decode cX7_sign 8 = .ok (.iload_n 0, 1) := by decide +kernel
theorem dX7_sign_9 : decode cX7_sign 9 = .ok (.ifCond .le 7, 3) := by decide +kernel
theorem dX7_sign_12 : decode cX7_sign 12 = .ok (.iconst 1, 1) := by decide +kernel
theorem dX7_sign_13 : decode cX7_sign 13 = .ok (.goto 4, 3) := by decide +kernel
theorem dX7_sign_16 : decode cX7_sign 16 = .ok (.iconst 0, 1) := by decide +kernel
theorem dX7_sign_17 : decode cX7_sign 17 = .ok (.ireturn, 1) := by decide +kernel
theorem dX7_white_0 : decode cX7_white 0 = .ok (.iload_n 0, 1) := by decide +kernel
theorem dX7_white_1 : decode cX7_white 1 = .ok (.iconst 3, 1) := by decide +kernel
theorem dX7_white_2 : decode cX7_white 2 = .ok (.if_icmp .ge 9, 3) := by decide +kernel
theorem dX7_white_5 : decode cX7_white 5 = .ok (.iconst 2, 1) := by decide +kernel
theorem dX7_white_6 : decode cX7_white 6 = .ok (.iload_n 0, 1) := by decide +kernel
theorem dX7_white_7 : decode cX7_white 7 = .ok (.imul, 1) := by decide +kernel
theorem dX7_white_8 : decode cX7_white 8 = .ok (.goto 8, 3) := by decide +kernel
theorem dX7_white_11 : decode cX7_white 11 = .ok (.iconst 2, 1) := by decide +kernel
theorem dX7_white_12 : decode cX7_white 12 = .ok (.iload_n 0, 1) := by decide +kernel
theorem dX7_white_13 : decode cX7_white 13 = .ok (.imul, 1) := by decide +kernel
theorem dX7_white_14 : decode cX7_white 14 = .ok (.iconst 1, 1) := by decide +kernel
theorem dX7_white_15 : decode cX7_white 15 = .ok (.isub, 1) := by decide +kernel
theorem dX7_white_16 : decode cX7_white 16 = .ok (.ireturn, 1) := by decide +kernel
theorem dX7_pitchOf_0 : decode cX7_pitchOf 0 = .ok (.iload_n 0, 1) := by decide +kernel
theorem dX7_pitchOf_1 : decode cX7_pitchOf 1 = .ok (.bipush 70, 2) := by decide +kernel
theorem dX7_pitchOf_3 : decode cX7_pitchOf 3 = .ok (.iadd, 1) := by decide +kernel
theorem dX7_pitchOf_4 : decode cX7_pitchOf 4 = .ok (.istore_n 1, 1) := by decide +kernel
theorem dX7_pitchOf_5 : decode cX7_pitchOf 5 = .ok (.bipush 12, 2) := by decide +kernel
theorem dX7_pitchOf_7 : decode cX7_pitchOf 7 = .ok (.iload_n 1, 1) := by decide +kernel
theorem dX7_pitchOf_8 : decode cX7_pitchOf 8 = .ok (.bipush 7, 2) := by decide +kernel
theorem dX7_pitchOf_10 : decode cX7_pitchOf 10 = .ok (.idiv, 1) := by decide +kernel
theorem dX7_pitchOf_11 : decode cX7_pitchOf 11 = .ok (.imul, 1) := by decide +kernel
theorem dX7_pitchOf_12 : decode cX7_pitchOf 12 = .ok (.bipush 120, 2) := by decide +kernel
theorem dX7_pitchOf_14 : decode cX7_pitchOf 14 = .ok (.isub, 1) := by decide +kernel
theorem dX7_pitchOf_15 : decode cX7_pitchOf 15 = .ok (.iload_n 1, 1) := by decide +kernel
theorem dX7_pitchOf_16 : decode cX7_pitchOf 16 = .ok (.bipush 7, 2) := by decide +kernel
theorem dX7_pitchOf_18 : decode cX7_pitchOf 18 = .ok (.irem, 1) := by decide +kernel
theorem dX7_pitchOf_19 : decode cX7_pitchOf 19 = .ok (.invokestatic 43, 3) := by decide +kernel
theorem dX7_pitchOf_22 : decode cX7_pitchOf 22 = .ok (.iadd, 1) := by decide +kernel
theorem dX7_pitchOf_23 : decode cX7_pitchOf 23 = .ok (.ireturn, 1) := by decide +kernel
theorem dX7_most_0 : decode cX7_most 0 = .ok (.aload_n 0, 1) := by decide +kernel
theorem dX7_most_1 : decode cX7_most 1 = .ok (.getfield 46, 3) := by decide +kernel
theorem dX7_most_4 : decode cX7_most 4 = .ok (.ifCond .ne 7, 3) := by decide +kernel
theorem dX7_most_7 : decode cX7_most 7 = .ok (.iconst 0, 1) := by decide +kernel
theorem dX7_most_8 : decode cX7_most 8 = .ok (.goto 16, 3) := by decide +kernel
theorem dX7_most_11 : decode cX7_most 11 = .ok (.aload_n 0, 1) := by decide +kernel
theorem dX7_most_12 : decode cX7_most 12 = .ok (.getfield 16, 3) := by decide +kernel
theorem dX7_most_15 : decode cX7_most 15 = .ok (.aload_n 0, 1) := by decide +kernel
theorem dX7_most_16 : decode cX7_most 16 = .ok (.getfield 46, 3) := by decide +kernel
theorem dX7_most_19 : decode cX7_most 19 = .ok (.iconst 1, 1) := by decide +kernel
theorem dX7_most_20 : decode cX7_most 20 = .ok (.isub, 1) := by decide +kernel
theorem dX7_most_21 : decode cX7_most 21 = .ok (.imul, 1) := by decide +kernel
theorem dX7_most_22 : decode cX7_most 22 = .ok (.iconst 1, 1) := by decide +kernel
theorem dX7_most_23 : decode cX7_most 23 = .ok (.iadd, 1) := by decide +kernel
theorem dX7_most_24 : decode cX7_most 24 = .ok (.ireturn, 1) := by decide +kernel
theorem dX7_isWhole_0 : decode cX7_isWhole 0 = .ok (.aload_n 0, 1) := by decide +kernel
theorem dX7_isWhole_1 : decode cX7_isWhole 1 = .ok (.getfield 46, 3) := by decide +kernel
theorem dX7_isWhole_4 : decode cX7_isWhole 4 = .ok (.iconst 1, 1) := by decide +kernel
theorem dX7_isWhole_5 : decode cX7_isWhole 5 = .ok (.if_icmp .le 18, 3) := by decide +kernel
theorem dX7_isWhole_8 : decode cX7_isWhole 8 = .ok (.aload_n 0, 1) := by decide +kernel
theorem dX7_isWhole_9 : decode cX7_isWhole 9 = .ok (.getfield 49, 3) := by decide +kernel
theorem dX7_isWhole_12 : decode cX7_isWhole 12 = .ok (.aload_n 0, 1) := by decide +kernel
theorem dX7_isWhole_13 : decode cX7_isWhole 13 = .ok (.invokevirtual 52, 3) := by decide +kernel
theorem dX7_isWhole_16 : decode cX7_isWhole 16 = .ok (.if_icmp .ne 7, 3) := by decide +kernel
theorem dX7_isWhole_19 : decode cX7_isWhole 19 = .ok (.iconst 1, 1) := by decide +kernel
theorem dX7_isWhole_20 : decode cX7_isWhole 20 = .ok (.goto 4, 3) := by decide +kernel
theorem dX7_isWhole_23 : decode cX7_isWhole 23 = .ok (.iconst 0, 1) := by decide +kernel
theorem dX7_isWhole_24 : decode cX7_isWhole 24 = .ok (.ireturn, 1) := by decide +kernel
theorem dX7_givenOf_0 : decode cX7_givenOf 0 = .ok (.aload_n 0, 1) := by decide +kernel
theorem dX7_givenOf_1 : decode cX7_givenOf 1 = .ok (.getfield 7, 3) := by decide +kernel
theorem dX7_givenOf_4 : decode cX7_givenOf 4 = .ok (.iload_n 1, 1) := by decide +kernel
theorem dX7_givenOf_5 : decode cX7_givenOf 5 = .ok (.aload_n 0, 1) := by decide +kernel
theorem dX7_givenOf_6 : decode cX7_givenOf 6 = .ok (.getfield 16, 3) := by decide +kernel
theorem dX7_givenOf_9 : decode cX7_givenOf 9 = .ok (.idiv, 1) := by decide +kernel
theorem dX7_givenOf_10 : decode cX7_givenOf 10 = .ok (.iaload, 1) := by decide +kernel
theorem dX7_givenOf_11 : decode cX7_givenOf 11 = .ok (.ireturn, 1) := by decide +kernel
theorem dX7_isStrong_0 : decode cX7_isStrong 0 = .ok (.iload_n 1, 1) := by decide +kernel
theorem dX7_isStrong_1 : decode cX7_isStrong 1 = .ok (.aload_n 0, 1) := by decide +kernel
theorem dX7_isStrong_2 : decode cX7_isStrong 2 = .ok (.getfield 16, 3) := by decide +kernel
theorem dX7_isStrong_5 : decode cX7_isStrong 5 = .ok (.irem, 1) := by decide +kernel
theorem dX7_isStrong_6 : decode cX7_isStrong 6 = .ok (.ifCond .ne 7, 3) := by decide +kernel
theorem dX7_isStrong_9 : decode cX7_isStrong 9 = .ok (.iconst 1, 1) := by decide +kernel
theorem dX7_isStrong_10 : decode cX7_isStrong 10 = .ok (.goto 4, 3) := by decide +kernel
theorem dX7_isStrong_13 : decode cX7_isStrong 13 = .ok (.iconst 0, 1) := by decide +kernel
theorem dX7_isStrong_14 : decode cX7_isStrong 14 = .ok (.ireturn, 1) := by decide +kernel
theorem dX7_pitchAt_0 : decode cX7_pitchAt 0 = .ok (.aload_n 0, 1) := by decide +kernel
theorem dX7_pitchAt_1 : decode cX7_pitchAt 1 = .ok (.getfield 56, 3) := by decide +kernel
theorem dX7_pitchAt_4 : decode cX7_pitchAt 4 = .ok (.ifCond .eq 22, 3) := by decide +kernel
theorem dX7_pitchAt_7 : decode cX7_pitchAt 7 = .ok (.iload_n 2, 1) := by decide +kernel
theorem dX7_pitchAt_8 : decode cX7_pitchAt 8 = .ok (.aload_n 0, 1) := by decide +kernel
theorem dX7_pitchAt_9 : decode cX7_pitchAt 9 = .ok (.invokevirtual 52, 3) := by decide +kernel
theorem dX7_pitchAt_12 : decode cX7_pitchAt 12 = .ok (.if_icmp .ne 14, 3) := by decide +kernel
theorem dX7_pitchAt_15 : decode cX7_pitchAt 15 = .ok (.iload_n 1, 1) := by decide +kernel
theorem dX7_pitchAt_16 : decode cX7_pitchAt 16 = .ok (.iload_n 2, 1) := by decide +kernel
theorem dX7_pitchAt_17 : decode cX7_pitchAt 17 = .ok (.iconst 2, 1) := by decide +kernel
theorem dX7_pitchAt_18 : decode cX7_pitchAt 18 = .ok (.isub, 1) := by decide +kernel
theorem dX7_pitchAt_19 : decode cX7_pitchAt 19 = .ok (.if_icmp .ne 7, 3) := by decide +kernel
theorem dX7_pitchAt_22 : decode cX7_pitchAt 22 = .ok (.iconst 1, 1) := by decide +kernel
theorem dX7_pitchAt_23 : decode cX7_pitchAt 23 = .ok (.goto 4, 3) := by decide +kernel
theorem dX7_pitchAt_26 : decode cX7_pitchAt 26 = .ok (.iconst 0, 1) := by decide +kernel
theorem dX7_pitchAt_27 : decode cX7_pitchAt 27 = .ok (.istore_n 3, 1) := by decide +kernel
theorem dX7_pitchAt_28 : decode cX7_pitchAt 28 = .ok (.iload_n 3, 1) := by decide +kernel
theorem dX7_pitchAt_29 : decode cX7_pitchAt 29 = .ok (.ifCond .eq 51, 3) := by decide +kernel
theorem dX7_pitchAt_32 : decode cX7_pitchAt 32 = .ok (.aload_n 0, 1) := by decide +kernel
theorem dX7_pitchAt_33 : decode cX7_pitchAt 33 = .ok (.getfield 13, 3) := by decide +kernel
theorem dX7_pitchAt_36 : decode cX7_pitchAt 36 = .ok (.iload_n 1, 1) := by decide +kernel
theorem dX7_pitchAt_37 : decode cX7_pitchAt 37 = .ok (.iaload, 1) := by decide +kernel
theorem dX7_pitchAt_38 : decode cX7_pitchAt 38 = .ok (.aload_n 0, 1) := by decide +kernel
theorem dX7_pitchAt_39 : decode cX7_pitchAt 39 = .ok (.getfield 13, 3) := by decide +kernel
theorem dX7_pitchAt_42 : decode cX7_pitchAt 42 = .ok (.iload_n 1, 1) := by decide +kernel
theorem dX7_pitchAt_43 : decode cX7_pitchAt 43 = .ok (.iconst 1, 1) := by decide +kernel
theorem dX7_pitchAt_44 : decode cX7_pitchAt 44 = .ok (.iadd, 1) := by decide +kernel
theorem dX7_pitchAt_45 : decode cX7_pitchAt 45 = .ok (.iaload, 1) := by decide +kernel
theorem dX7_pitchAt_46 : decode cX7_pitchAt 46 = .ok (.iconst 1, 1) := by decide +kernel
theorem dX7_pitchAt_47 : decode cX7_pitchAt 47 = .ok (.isub, 1) := by decide +kernel
theorem dX7_pitchAt_48 : decode cX7_pitchAt 48 = .ok (.if_icmp .ne 32, 3) := by decide +kernel
theorem dX7_pitchAt_51 : decode cX7_pitchAt 51 = .ok (.aload_n 0, 1) := by decide +kernel
theorem dX7_pitchAt_52 : decode cX7_pitchAt 52 = .ok (.getfield 13, 3) := by decide +kernel
theorem dX7_pitchAt_55 : decode cX7_pitchAt 55 = .ok (.iload_n 1, 1) := by decide +kernel
theorem dX7_pitchAt_56 : decode cX7_pitchAt 56 = .ok (.iaload, 1) := by decide +kernel
theorem dX7_pitchAt_57 : decode cX7_pitchAt 57 = .ok (.invokestatic 60, 3) := by decide +kernel
theorem dX7_pitchAt_60 : decode cX7_pitchAt 60 = .ok (.aload_n 0, 1) := by decide +kernel
theorem dX7_pitchAt_61 : decode cX7_pitchAt 61 = .ok (.getfield 13, 3) := by decide +kernel
theorem dX7_pitchAt_64 : decode cX7_pitchAt 64 = .ok (.iload_n 1, 1) := by decide +kernel
theorem dX7_pitchAt_65 : decode cX7_pitchAt 65 = .ok (.iconst 1, 1) := by decide +kernel
theorem dX7_pitchAt_66 : decode cX7_pitchAt 66 = .ok (.iadd, 1) := by decide +kernel
theorem dX7_pitchAt_67 : decode cX7_pitchAt 67 = .ok (.iaload, 1) := by decide +kernel
theorem dX7_pitchAt_68 : decode cX7_pitchAt 68 = .ok (.invokestatic 60, 3) := by decide +kernel
theorem dX7_pitchAt_71 : decode cX7_pitchAt 71 = .ok (.iconst 2, 1) := by decide +kernel
theorem dX7_pitchAt_72 : decode cX7_pitchAt 72 = .ok (.isub, 1) := by decide +kernel
theorem dX7_pitchAt_73 : decode cX7_pitchAt 73 = .ok (.if_icmp .ne 7, 3) := by decide +kernel
theorem dX7_pitchAt_76 : decode cX7_pitchAt 76 = .ok (.iconst 1, 1) := by decide +kernel
theorem dX7_pitchAt_77 : decode cX7_pitchAt 77 = .ok (.goto 4, 3) := by decide +kernel
theorem dX7_pitchAt_80 : decode cX7_pitchAt 80 = .ok (.iconst 0, 1) := by decide +kernel
theorem dX7_pitchAt_81 : decode cX7_pitchAt 81 = .ok (.istore 4, 2) := by decide +kernel
theorem dX7_pitchAt_83 : decode cX7_pitchAt 83 = .ok (.aload_n 0, 1) := by decide +kernel
theorem dX7_pitchAt_84 : decode cX7_pitchAt 84 = .ok (.getfield 13, 3) := by decide +kernel
theorem dX7_pitchAt_87 : decode cX7_pitchAt 87 = .ok (.iload_n 1, 1) := by decide +kernel
theorem dX7_pitchAt_88 : decode cX7_pitchAt 88 = .ok (.iaload, 1) := by decide +kernel
theorem dX7_pitchAt_89 : decode cX7_pitchAt 89 = .ok (.invokestatic 60, 3) := by decide +kernel
theorem dX7_pitchAt_92 : decode cX7_pitchAt 92 = .ok (.iload 4, 2) := by decide +kernel
theorem dX7_pitchAt_94 : decode cX7_pitchAt 94 = .ok (.ifCond .eq 7, 3) := by decide +kernel
theorem dX7_pitchAt_97 : decode cX7_pitchAt 97 = .ok (.iconst 1, 1) := by decide +kernel
theorem dX7_pitchAt_98 : decode cX7_pitchAt 98 = .ok (.goto 4, 3) := by decide +kernel
theorem dX7_pitchAt_101 : decode cX7_pitchAt 101 = .ok (.iconst 0, 1) := by decide +kernel
theorem dX7_pitchAt_102 : decode cX7_pitchAt 102 = .ok (.iadd, 1) := by decide +kernel
theorem dX7_pitchAt_103 : decode cX7_pitchAt 103 = .ok (.ireturn, 1) := by decide +kernel
theorem dX7_kind_0 : decode cX7_kind 0 = .ok (.iload_n 0, 1) := by decide +kernel
theorem dX7_kind_1 : decode cX7_kind 1 = .ok (.invokestatic 63, 3) := by decide +kernel
theorem dX7_kind_4 : decode cX7_kind 4 = .ok (.bipush 7, 2) := by decide +kernel
theorem dX7_kind_6 : decode cX7_kind 6 = .ok (.irem, 1) := by decide +kernel
theorem dX7_kind_7 : decode cX7_kind 7 = .ok (.istore_n 2, 1) := by decide +kernel
theorem dX7_kind_8 : decode cX7_kind 8 = .ok (.iload_n 1, 1) := by decide +kernel
theorem dX7_kind_9 : decode cX7_kind 9 = .ok (.invokestatic 63, 3) := by decide +kernel
theorem dX7_kind_12 : decode cX7_kind 12 = .ok (.bipush 12, 2) := by decide +kernel
theorem dX7_kind_14 : decode cX7_kind 14 = .ok (.irem, 1) := by decide +kernel
theorem dX7_kind_15 : decode cX7_kind 15 = .ok (.istore_n 3, 1) := by decide +kernel
theorem dX7_kind_16 : decode cX7_kind 16 = .ok (.iload_n 2, 1) := by decide +kernel
theorem dX7_kind_17 : decode cX7_kind 17 = .ok (.iconst 2, 1) := by decide +kernel
theorem dX7_kind_18 : decode cX7_kind 18 = .ok (.if_icmp .ne 16, 3) := by decide +kernel
theorem dX7_kind_21 : decode cX7_kind 21 = .ok (.iload_n 3, 1) := by decide +kernel
theorem dX7_kind_22 : decode cX7_kind 22 = .ok (.iconst 3, 1) := by decide +kernel
theorem dX7_kind_23 : decode cX7_kind 23 = .ok (.iconst 4, 1) := by decide +kernel
theorem dX7_kind_24 : decode cX7_kind 24 = .ok (.invokestatic 66, 3) := by decide +kernel
theorem dX7_kind_27 : decode cX7_kind 27 = .ok (.ifCond .eq 7, 3) := by decide +kernel
theorem dX7_kind_30 : decode cX7_kind 30 = .ok (.iconst 1, 1) := by decide +kernel
theorem dX7_kind_31 : decode cX7_kind 31 = .ok (.goto 4, 3) := by decide +kernel
theorem dX7_kind_34 : decode cX7_kind 34 = .ok (.iconst 0, 1) := by decide +kernel
theorem dX7_kind_35 : decode cX7_kind 35 = .ok (.istore 4, 2) := by decide +kernel
theorem dX7_kind_37 : decode cX7_kind 37 = .ok (.iload_n 2, 1) := by decide +kernel
theorem dX7_kind_38 : decode cX7_kind 38 = .ok (.iconst 5, 1) := by decide +kernel
theorem dX7_kind_39 : decode cX7_kind 39 = .ok (.if_icmp .ne 18, 3) := by decide +kernel
theorem dX7_kind_42 : decode cX7_kind 42 = .ok (.iload_n 3, 1) := by decide +kernel
theorem dX7_kind_43 : decode cX7_kind 43 = .ok (.bipush 8, 2) := by decide +kernel
theorem dX7_kind_45 : decode cX7_kind 45 = .ok (.bipush 9, 2) := by decide +kernel
theorem dX7_kind_47 : decode cX7_kind 47 = .ok (.invokestatic 66, 3) := by decide +kernel
theorem dX7_kind_50 : decode cX7_kind 50 = .ok (.ifCond .eq 7, 3) := by decide +kernel
theorem dX7_kind_53 : decode cX7_kind 53 = .ok (.iconst 1, 1) := by decide +kernel
theorem dX7_kind_54 : decode cX7_kind 54 = .ok (.goto 4, 3) := by decide +kernel
theorem dX7_kind_57 : decode cX7_kind 57 = .ok (.iconst 0, 1) := by decide +kernel
theorem dX7_kind_58 : decode cX7_kind 58 = .ok (.istore 5, 2) := by decide +kernel
theorem dX7_kind_60 : decode cX7_kind 60 = .ok (.iload_n 2, 1) := by decide +kernel
theorem dX7_kind_61 : decode cX7_kind 61 = .ok (.ifCond .ne 11, 3) := by decide +kernel
theorem dX7_kind_64 : decode cX7_kind 64 = .ok (.iload_n 3, 1) := by decide +kernel
theorem dX7_kind_65 : decode cX7_kind 65 = .ok (.ifCond .ne 7, 3) := by decide +kernel
theorem dX7_kind_68 : decode cX7_kind 68 = .ok (.iconst 0, 1) := by decide +kernel
theorem dX7_kind_69 : decode cX7_kind 69 = .ok (.goto 33, 3) := by decide +kernel
theorem dX7_kind_72 : decode cX7_kind 72 = .ok (.iload_n 2, 1) := by decide +kernel
theorem dX7_kind_73 : decode cX7_kind 73 = .ok (.iconst 4, 1) := by decide +kernel
theorem dX7_kind_74 : decode cX7_kind 74 = .ok (.if_icmp .ne 13, 3) := by decide +kernel
theorem dX7_kind_77 : decode cX7_kind 77 = .ok (.iload_n 3, 1) := by decide +kernel
theorem dX7_kind_78 : decode cX7_kind 78 = .ok (.bipush 7, 2) := by decide +kernel
theorem dX7_kind_80 : decode cX7_kind 80 = .ok (.if_icmp .ne 7, 3) := by decide +kernel
theorem dX7_kind_83 : decode cX7_kind 83 = .ok (.iconst 1, 1) := by decide +kernel
theorem dX7_kind_84 : decode cX7_kind 84 = .ok (.goto 18, 3) := by decide +kernel
theorem dX7_kind_87 : decode cX7_kind 87 = .ok (.iload 4, 2) := by decide +kernel
theorem dX7_kind_89 : decode cX7_kind 89 = .ok (.ifCond .ne 8, 3) := by decide +kernel
theorem dX7_kind_92 : decode cX7_kind 92 = .ok (.iload 5, 2) := by decide +kernel
theorem dX7_kind_94 : decode cX7_kind 94 = .ok (.ifCond .eq 7, 3) := by decide +kernel
theorem dX7_kind_97 : decode cX7_kind 97 = .ok (.iconst 2, 1) := by decide +kernel
theorem dX7_kind_98 : decode cX7_kind 98 = .ok (.goto 4, 3) := by decide +kernel
theorem dX7_kind_101 : decode cX7_kind 101 = .ok (.iconst 3, 1) := by decide +kernel
theorem dX7_kind_102 : decode cX7_kind 102 = .ok (.ireturn, 1) := by decide +kernel
theorem dX7_kindAt_0 : decode cX7_kindAt 0 = .ok (.aload_n 0, 1) := by decide +kernel
theorem dX7_kindAt_1 : decode cX7_kindAt 1 = .ok (.iload_n 1, 1) := by decide +kernel
theorem dX7_kindAt_2 : decode cX7_kindAt 2 = .ok (.invokevirtual 70, 3) := by decide +kernel
theorem dX7_kindAt_5 : decode cX7_kindAt 5 = .ok (.istore_n 3, 1) := by decide +kernel
theorem dX7_kindAt_6 : decode cX7_kindAt 6 = .ok (.aload_n 0, 1) := by decide +kernel
theorem dX7_kindAt_7 : decode cX7_kindAt 7 = .ok (.getfield 13, 3) := by decide +kernel
theorem dX7_kindAt_10 : decode cX7_kindAt 10 = .ok (.iload_n 1, 1) := by decide +kernel
theorem dX7_kindAt_11 : decode cX7_kindAt 11 = .ok (.iaload, 1) := by decide +kernel
theorem dX7_kindAt_12 : decode cX7_kindAt 12 = .ok (.iload_n 3, 1) := by decide +kernel
theorem dX7_kindAt_13 : decode cX7_kindAt 13 = .ok (.isub, 1) := by decide +kernel
theorem dX7_kindAt_14 : decode cX7_kindAt 14 = .ok (.aload_n 0, 1) := by decide +kernel
theorem dX7_kindAt_15 : decode cX7_kindAt 15 = .ok (.iload_n 1, 1) := by decide +kernel
theorem dX7_kindAt_16 : decode cX7_kindAt 16 = .ok (.iload_n 2, 1) := by decide +kernel
theorem dX7_kindAt_17 : decode cX7_kindAt 17 = .ok (.invokevirtual 73, 3) := by decide +kernel
theorem dX7_kindAt_20 : decode cX7_kindAt 20 = .ok (.iload_n 3, 1) := by decide +kernel
theorem dX7_kindAt_21 : decode cX7_kindAt 21 = .ok (.invokestatic 60, 3) := by decide +kernel
theorem dX7_kindAt_24 : decode cX7_kindAt 24 = .ok (.isub, 1) := by decide +kernel
theorem dX7_kindAt_25 : decode cX7_kindAt 25 = .ok (.invokestatic 77, 3) := by decide +kernel
theorem dX7_kindAt_28 : decode cX7_kindAt 28 = .ok (.ireturn, 1) := by decide +kernel
theorem dX7_letterOf_0 : decode cX7_letterOf 0 = .ok (.iload_n 0, 1) := by decide +kernel
theorem dX7_letterOf_1 : decode cX7_letterOf 1 = .ok (.ifCond .ne 8, 3) := by decide +kernel
theorem dX7_letterOf_4 : decode cX7_letterOf 4 = .ok (.bipush 98, 2) := by decide +kernel
theorem dX7_letterOf_6 : decode cX7_letterOf 6 = .ok (.goto 110, 3) := by decide +kernel
theorem dX7_letterOf_9 : decode cX7_letterOf 9 = .ok (.iload_n 0, 1) := by decide +kernel
theorem dX7_letterOf_10 : decode cX7_letterOf 10 = .ok (.iconst 1, 1) := by decide +kernel
theorem dX7_letterOf_11 : decode cX7_letterOf 11 = .ok (.if_icmp .ne 8, 3) := by decide +kernel
theorem dX7_letterOf_14 : decode cX7_letterOf 14 = .ok (.bipush 101, 2) := by decide +kernel
theorem dX7_letterOf_16 : decode cX7_letterOf 16 = .ok (.goto 100, 3) := by decide +kernel
theorem dX7_letterOf_19 : decode cX7_letterOf 19 = .ok (.iload_n 0, 1) := by decide +kernel
theorem dX7_letterOf_20 : decode cX7_letterOf 20 = .ok (.iconst 2, 1) := by decide +kernel
theorem dX7_letterOf_21 : decode cX7_letterOf 21 = .ok (.if_icmp .ne 8, 3) := by decide +kernel
theorem dX7_letterOf_24 : decode cX7_letterOf 24 = .ok (.bipush 100, 2) := by decide +kernel
theorem dX7_letterOf_26 : decode cX7_letterOf 26 = .ok (.goto 90, 3) := by decide +kernel
theorem dX7_letterOf_29 : decode cX7_letterOf 29 = .ok (.iload_n 0, 1) := by decide +kernel
theorem dX7_letterOf_30 : decode cX7_letterOf 30 = .ok (.iconst 3, 1) := by decide +kernel
theorem dX7_letterOf_31 : decode cX7_letterOf 31 = .ok (.if_icmp .ne 8, 3) := by decide +kernel
theorem dX7_letterOf_34 : decode cX7_letterOf 34 = .ok (.bipush 119, 2) := by decide +kernel
theorem dX7_letterOf_36 : decode cX7_letterOf 36 = .ok (.goto 80, 3) := by decide +kernel
theorem dX7_letterOf_39 : decode cX7_letterOf 39 = .ok (.iload_n 0, 1) := by decide +kernel
theorem dX7_letterOf_40 : decode cX7_letterOf 40 = .ok (.iconst 4, 1) := by decide +kernel
theorem dX7_letterOf_41 : decode cX7_letterOf 41 = .ok (.if_icmp .ne 8, 3) := by decide +kernel
theorem dX7_letterOf_44 : decode cX7_letterOf 44 = .ok (.bipush 112, 2) := by decide +kernel
theorem dX7_letterOf_46 : decode cX7_letterOf 46 = .ok (.goto 70, 3) := by decide +kernel
theorem dX7_letterOf_49 : decode cX7_letterOf 49 = .ok (.iload_n 0, 1) := by decide +kernel
theorem dX7_letterOf_50 : decode cX7_letterOf 50 = .ok (.iconst 5, 1) := by decide +kernel
theorem dX7_letterOf_51 : decode cX7_letterOf 51 = .ok (.if_icmp .ne 8, 3) := by decide +kernel
theorem dX7_letterOf_54 : decode cX7_letterOf 54 = .ok (.bipush 113, 2) := by decide +kernel
theorem dX7_letterOf_56 : decode cX7_letterOf 56 = .ok (.goto 60, 3) := by decide +kernel
theorem dX7_letterOf_59 : decode cX7_letterOf 59 = .ok (.iload_n 0, 1) := by decide +kernel
theorem dX7_letterOf_60 : decode cX7_letterOf 60 = .ok (.bipush 6, 2) := by decide +kernel
theorem dX7_letterOf_62 : decode cX7_letterOf 62 = .ok (.if_icmp .ne 8, 3) := by decide +kernel
theorem dX7_letterOf_65 : decode cX7_letterOf 65 = .ok (.bipush 104, 2) := by decide +kernel
theorem dX7_letterOf_67 : decode cX7_letterOf 67 = .ok (.goto 49, 3) := by decide +kernel
theorem dX7_letterOf_70 : decode cX7_letterOf 70 = .ok (.iload_n 0, 1) := by decide +kernel
theorem dX7_letterOf_71 : decode cX7_letterOf 71 = .ok (.bipush 7, 2) := by decide +kernel
theorem dX7_letterOf_73 : decode cX7_letterOf 73 = .ok (.if_icmp .ne 8, 3) := by decide +kernel
theorem dX7_letterOf_76 : decode cX7_letterOf 76 = .ok (.bipush 120, 2) := by decide +kernel
theorem dX7_letterOf_78 : decode cX7_letterOf 78 = .ok (.goto 38, 3) := by decide +kernel
theorem dX7_letterOf_81 : decode cX7_letterOf 81 = .ok (.iload_n 0, 1) := by decide +kernel
theorem dX7_letterOf_82 : decode cX7_letterOf 82 = .ok (.bipush 8, 2) := by decide +kernel
theorem dX7_letterOf_84 : decode cX7_letterOf 84 = .ok (.if_icmp .ne 8, 3) := by decide +kernel
theorem dX7_letterOf_87 : decode cX7_letterOf 87 = .ok (.bipush 117, 2) := by decide +kernel
theorem dX7_letterOf_89 : decode cX7_letterOf 89 = .ok (.goto 27, 3) := by decide +kernel
theorem dX7_letterOf_92 : decode cX7_letterOf 92 = .ok (.iload_n 0, 1) := by decide +kernel
theorem dX7_letterOf_93 : decode cX7_letterOf 93 = .ok (.bipush 9, 2) := by decide +kernel
theorem dX7_letterOf_95 : decode cX7_letterOf 95 = .ok (.if_icmp .ne 8, 3) := by decide +kernel
theorem dX7_letterOf_98 : decode cX7_letterOf 98 = .ok (.bipush 115, 2) := by decide +kernel
theorem dX7_letterOf_100 : decode cX7_letterOf 100 = .ok (.goto 16, 3) := by decide +kernel
theorem dX7_letterOf_103 : decode cX7_letterOf 103 = .ok (.iload_n 0, 1) := by decide +kernel
theorem dX7_letterOf_104 : decode cX7_letterOf 104 = .ok (.bipush 10, 2) := by decide +kernel
theorem dX7_letterOf_106 : decode cX7_letterOf 106 = .ok (.if_icmp .ne 8, 3) := by decide +kernel
theorem dX7_letterOf_109 : decode cX7_letterOf 109 = .ok (.bipush 116, 2) := by decide +kernel
theorem dX7_letterOf_111 : decode cX7_letterOf 111 = .ok (.goto 5, 3) := by decide +kernel
theorem dX7_letterOf_114 : decode cX7_letterOf 114 = .ok (.bipush 114, 2) := by decide +kernel
theorem dX7_letterOf_116 : decode cX7_letterOf 116 = .ok (.ireturn, 1) := by decide +kernel
theorem dX7_lawOf_0 : decode cX7_lawOf 0 = .ok (.iconst (-1), 1) := by decide +kernel
theorem dX7_lawOf_1 : decode cX7_lawOf 1 = .ok (.istore_n 1, 1) := by decide +kernel
theorem dX7_lawOf_2 : decode cX7_lawOf 2 = .ok (.iconst 0, 1) := by decide +kernel
theorem dX7_lawOf_3 : decode cX7_lawOf 3 = .ok (.istore_n 2, 1) := by decide +kernel
theorem dX7_lawOf_4 : decode cX7_lawOf 4 = .ok (.iload_n 2, 1) := by decide +kernel
theorem dX7_lawOf_5 : decode cX7_lawOf 5 = .ok (.bipush 12, 2) := by decide +kernel
theorem dX7_lawOf_7 : decode cX7_lawOf 7 = .ok (.if_icmp .ge 23, 3) := by decide +kernel
theorem dX7_lawOf_10 : decode cX7_lawOf 10 = .ok (.iload_n 2, 1) := by decide +kernel
theorem dX7_lawOf_11 : decode cX7_lawOf 11 = .ok (.invokestatic 80, 3) := by decide +kernel
theorem dX7_lawOf_14 : decode cX7_lawOf 14 = .ok (.iload_n 0, 1) := by decide +kernel
theorem dX7_lawOf_15 : decode cX7_lawOf 15 = .ok (.if_icmp .ne 7, 3) := by decide +kernel
theorem dX7_lawOf_18 : decode cX7_lawOf 18 = .ok (.iload_n 2, 1) := by decide +kernel
theorem dX7_lawOf_19 : decode cX7_lawOf 19 = .ok (.goto 4, 3) := by decide +kernel
theorem dX7_lawOf_22 : decode cX7_lawOf 22 = .ok (.iload_n 1, 1) := by decide +kernel
theorem dX7_lawOf_23 : decode cX7_lawOf 23 = .ok (.istore_n 1, 1) := by decide +kernel
theorem dX7_lawOf_24 : decode cX7_lawOf 24 = .ok (.iinc 2 1, 3) := by decide +kernel
theorem dX7_lawOf_27 : decode cX7_lawOf 27 = .ok (.goto (-23), 3) := by decide +kernel
theorem dX7_lawOf_30 : decode cX7_lawOf 30 = .ok (.iload_n 1, 1) := by decide +kernel
theorem dX7_lawOf_31 : decode cX7_lawOf 31 = .ok (.ireturn, 1) := by decide +kernel
theorem dX7_move_0 : decode cX7_move 0 = .ok (.aload_n 0, 1) := by decide +kernel
theorem dX7_move_1 : decode cX7_move 1 = .ok (.getfield 13, 3) := by decide +kernel
theorem dX7_move_4 : decode cX7_move 4 = .ok (.iload_n 1, 1) := by decide +kernel
theorem dX7_move_5 : decode cX7_move 5 = .ok (.iaload, 1) := by decide +kernel
theorem dX7_move_6 : decode cX7_move 6 = .ok (.aload_n 0, 1) := by decide +kernel
theorem dX7_move_7 : decode cX7_move 7 = .ok (.getfield 13, 3) := by decide +kernel
theorem dX7_move_10 : decode cX7_move 10 = .ok (.iload_n 1, 1) := by decide +kernel
theorem dX7_move_11 : decode cX7_move 11 = .ok (.iconst 1, 1) := by decide +kernel
theorem dX7_move_12 : decode cX7_move 12 = .ok (.isub, 1) := by decide +kernel
theorem dX7_move_13 : decode cX7_move 13 = .ok (.iaload, 1) := by decide +kernel
theorem dX7_move_14 : decode cX7_move 14 = .ok (.isub, 1) := by decide +kernel
theorem dX7_move_15 : decode cX7_move 15 = .ok (.ireturn, 1) := by decide +kernel
theorem dX7_givenMove_0 : decode cX7_givenMove 0 = .ok (.aload_n 0, 1) := by decide +kernel
theorem dX7_givenMove_1 : decode cX7_givenMove 1 = .ok (.iload_n 1, 1) := by decide +kernel
theorem dX7_givenMove_2 : decode cX7_givenMove 2 = .ok (.invokevirtual 70, 3) := by decide +kernel
theorem dX7_givenMove_5 : decode cX7_givenMove 5 = .ok (.aload_n 0, 1) := by decide +kernel
theorem dX7_givenMove_6 : decode cX7_givenMove 6 = .ok (.iload_n 1, 1) := by decide +kernel
theorem dX7_givenMove_7 : decode cX7_givenMove 7 = .ok (.iconst 1, 1) := by decide +kernel
theorem dX7_givenMove_8 : decode cX7_givenMove 8 = .ok (.isub, 1) := by decide +kernel
theorem dX7_givenMove_9 : decode cX7_givenMove 9 = .ok (.invokevirtual 70, 3) := by decide +kernel
theorem dX7_givenMove_12 : decode cX7_givenMove 12 = .ok (.isub, 1) := by decide +kernel
theorem dX7_givenMove_13 : decode cX7_givenMove 13 = .ok (.ireturn, 1) := by decide +kernel
theorem dX7_endsBadly_0 : decode cX7_endsBadly 0 = .ok (.aload_n 0, 1) := by decide +kernel
theorem dX7_endsBadly_1 : decode cX7_endsBadly 1 = .ok (.iload_n 1, 1) := by decide +kernel
theorem dX7_endsBadly_2 : decode cX7_endsBadly 2 = .ok (.iload_n 2, 1) := by decide +kernel
theorem dX7_endsBadly_3 : decode cX7_endsBadly 3 = .ok (.invokevirtual 84, 3) := by decide +kernel
theorem dX7_endsBadly_6 : decode cX7_endsBadly 6 = .ok (.ifCond .ne 7, 3) := by decide +kernel
theorem dX7_endsBadly_9 : decode cX7_endsBadly 9 = .ok (.iload_n 1, 1) := by decide +kernel
theorem dX7_endsBadly_10 : decode cX7_endsBadly 10 = .ok (.ifCond .ne 5, 3) := by decide +kernel
theorem dX7_endsBadly_13 : decode cX7_endsBadly 13 = .ok (.iconst 1, 1) := by decide +kernel
theorem dX7_endsBadly_14 : decode cX7_endsBadly 14 = .ok (.ireturn, 1) := by decide +kernel
theorem dX7_endsBadly_15 : decode cX7_endsBadly 15 = .ok (.aload_n 0, 1) := by decide +kernel
theorem dX7_endsBadly_16 : decode cX7_endsBadly 16 = .ok (.iload_n 1, 1) := by decide +kernel
theorem dX7_endsBadly_17 : decode cX7_endsBadly 17 = .ok (.invokevirtual 87, 3) := by decide +kernel
theorem dX7_endsBadly_20 : decode cX7_endsBadly 20 = .ok (.istore_n 3, 1) := by decide +kernel
theorem dX7_endsBadly_21 : decode cX7_endsBadly 21 = .ok (.aload_n 0, 1) := by decide +kernel
theorem dX7_endsBadly_22 : decode cX7_endsBadly 22 = .ok (.iload_n 1, 1) := by decide +kernel
theorem dX7_endsBadly_23 : decode cX7_endsBadly 23 = .ok (.invokevirtual 90, 3) := by decide +kernel
theorem dX7_endsBadly_26 : decode cX7_endsBadly 26 = .ok (.istore 4, 2) := by decide +kernel
theorem dX7_endsBadly_28 : decode cX7_endsBadly 28 = .ok (.iload_n 3, 1) := by decide +kernel
theorem dX7_endsBadly_29 : decode cX7_endsBadly 29 = .ok (.invokestatic 63, 3) := by decide +kernel
theorem dX7_endsBadly_32 : decode cX7_endsBadly 32 = .ok (.iconst 1, 1) := by decide +kernel
theorem dX7_endsBadly_33 : decode cX7_endsBadly 33 = .ok (.if_icmp .ne 18, 3) := by decide +kernel
theorem dX7_endsBadly_36 : decode cX7_endsBadly 36 = .ok (.iload 4, 2) := by decide +kernel
theorem dX7_endsBadly_38 : decode cX7_endsBadly 38 = .ok (.invokestatic 63, 3) := by decide +kernel
theorem dX7_endsBadly_41 : decode cX7_endsBadly 41 = .ok (.iconst 1, 1) := by decide +kernel
theorem dX7_endsBadly_42 : decode cX7_endsBadly 42 = .ok (.if_icmp .ne 9, 3) := by decide +kernel
theorem dX7_endsBadly_45 : decode cX7_endsBadly 45 = .ok (.iload_n 3, 1) := by decide +kernel
theorem dX7_endsBadly_46 : decode cX7_endsBadly 46 = .ok (.iload 4, 2) := by decide +kernel
theorem dX7_endsBadly_48 : decode cX7_endsBadly 48 = .ok (.if_icmp .ne 7, 3) := by decide +kernel
theorem dX7_endsBadly_51 : decode cX7_endsBadly 51 = .ok (.iconst 1, 1) := by decide +kernel
theorem dX7_endsBadly_52 : decode cX7_endsBadly 52 = .ok (.goto 4, 3) := by decide +kernel
theorem dX7_endsBadly_55 : decode cX7_endsBadly 55 = .ok (.iconst 0, 1) := by decide +kernel
theorem dX7_endsBadly_56 : decode cX7_endsBadly 56 = .ok (.ireturn, 1) := by decide +kernel
theorem dX7_passesBadly_0 : decode cX7_passesBadly 0 = .ok (.iload_n 1, 1) := by decide +kernel
theorem dX7_passesBadly_1 : decode cX7_passesBadly 1 = .ok (.iconst 1, 1) := by decide +kernel
theorem dX7_passesBadly_2 : decode cX7_passesBadly 2 = .ok (.isub, 1) := by decide +kernel
theorem dX7_passesBadly_3 : decode cX7_passesBadly 3 = .ok (.istore_n 3, 1) := by decide +kernel
theorem dX7_passesBadly_4 : decode cX7_passesBadly 4 = .ok (.iload_n 1, 1) := by decide +kernel
theorem dX7_passesBadly_5 : decode cX7_passesBadly 5 = .ok (.iconst 1, 1) := by decide +kernel
theorem dX7_passesBadly_6 : decode cX7_passesBadly 6 = .ok (.if_icmp .le 25, 3) := by decide +kernel
theorem dX7_passesBadly_9 : decode cX7_passesBadly 9 = .ok (.aload_n 0, 1) := by decide +kernel
theorem dX7_passesBadly_10 : decode cX7_passesBadly 10 = .ok (.iload_n 3, 1) := by decide +kernel
theorem dX7_passesBadly_11 : decode cX7_passesBadly 11 = .ok (.invokevirtual 93, 3) := by decide +kernel
theorem dX7_passesBadly_14 : decode cX7_passesBadly 14 = .ok (.ifCond .ne 17, 3) := by decide +kernel
theorem dX7_passesBadly_17 : decode cX7_passesBadly 17 = .ok (.aload_n 0, 1) := by decide +kernel
theorem dX7_passesBadly_18 : decode cX7_passesBadly 18 = .ok (.iload_n 3, 1) := by decide +kernel
theorem dX7_passesBadly_19 : decode cX7_passesBadly 19 = .ok (.iload_n 2, 1) := by decide +kernel
theorem dX7_passesBadly_20 : decode cX7_passesBadly 20 = .ok (.invokevirtual 84, 3) := by decide +kernel
theorem dX7_passesBadly_23 : decode cX7_passesBadly 23 = .ok (.iconst 3, 1) := by decide +kernel
theorem dX7_passesBadly_24 : decode cX7_passesBadly 24 = .ok (.if_icmp .ne 7, 3) := by decide +kernel
theorem dX7_passesBadly_27 : decode cX7_passesBadly 27 = .ok (.iconst 1, 1) := by decide +kernel
theorem dX7_passesBadly_28 : decode cX7_passesBadly 28 = .ok (.goto 4, 3) := by decide +kernel
theorem dX7_passesBadly_31 : decode cX7_passesBadly 31 = .ok (.iconst 0, 1) := by decide +kernel
theorem dX7_passesBadly_32 : decode cX7_passesBadly 32 = .ok (.istore 4, 2) := by decide +kernel
theorem dX7_passesBadly_34 : decode cX7_passesBadly 34 = .ok (.iload 4, 2) := by decide +kernel
theorem dX7_passesBadly_36 : decode cX7_passesBadly 36 = .ok (.ifCond .eq 32, 3) := by decide +kernel
theorem dX7_passesBadly_39 : decode cX7_passesBadly 39 = .ok (.aload_n 0, 1) := by decide +kernel
theorem dX7_passesBadly_40 : decode cX7_passesBadly 40 = .ok (.iload_n 3, 1) := by decide +kernel
theorem dX7_passesBadly_41 : decode cX7_passesBadly 41 = .ok (.invokevirtual 87, 3) := by decide +kernel
theorem dX7_passesBadly_44 : decode cX7_passesBadly 44 = .ok (.invokestatic 63, 3) := by decide +kernel
theorem dX7_passesBadly_47 : decode cX7_passesBadly 47 = .ok (.iconst 1, 1) := by decide +kernel
theorem dX7_passesBadly_48 : decode cX7_passesBadly 48 = .ok (.if_icmp .ne 16, 3) := by decide +kernel
theorem dX7_passesBadly_51 : decode cX7_passesBadly 51 = .ok (.aload_n 0, 1) := by decide +kernel
theorem dX7_passesBadly_52 : decode cX7_passesBadly 52 = .ok (.iload_n 1, 1) := by decide +kernel
theorem dX7_passesBadly_53 : decode cX7_passesBadly 53 = .ok (.invokevirtual 87, 3) := by decide +kernel
theorem dX7_passesBadly_56 : decode cX7_passesBadly 56 = .ok (.aload_n 0, 1) := by decide +kernel
theorem dX7_passesBadly_57 : decode cX7_passesBadly 57 = .ok (.iload_n 3, 1) := by decide +kernel
theorem dX7_passesBadly_58 : decode cX7_passesBadly 58 = .ok (.invokevirtual 87, 3) := by decide +kernel
theorem dX7_passesBadly_61 : decode cX7_passesBadly 61 = .ok (.if_icmp .eq 7, 3) := by decide +kernel
theorem dX7_passesBadly_64 : decode cX7_passesBadly 64 = .ok (.iconst 1, 1) := by decide +kernel
theorem dX7_passesBadly_65 : decode cX7_passesBadly 65 = .ok (.goto 4, 3) := by decide +kernel
theorem dX7_passesBadly_68 : decode cX7_passesBadly 68 = .ok (.iconst 0, 1) := by decide +kernel
theorem dX7_passesBadly_69 : decode cX7_passesBadly 69 = .ok (.ireturn, 1) := by decide +kernel
theorem dX7_isParallel_0 : decode cX7_isParallel 0 = .ok (.aload_n 0, 1) := by decide +kernel
theorem dX7_isParallel_1 : decode cX7_isParallel 1 = .ok (.iload_n 1, 1) := by decide +kernel
theorem dX7_isParallel_2 : decode cX7_isParallel 2 = .ok (.iload_n 3, 1) := by decide +kernel
theorem dX7_isParallel_3 : decode cX7_isParallel 3 = .ok (.invokevirtual 84, 3) := by decide +kernel
theorem dX7_isParallel_6 : decode cX7_isParallel 6 = .ok (.istore 4, 2) := by decide +kernel
theorem dX7_isParallel_8 : decode cX7_isParallel 8 = .ok (.aload_n 0, 1) := by decide +kernel
theorem dX7_isParallel_9 : decode cX7_isParallel 9 = .ok (.getfield 13, 3) := by decide +kernel
theorem dX7_isParallel_12 : decode cX7_isParallel 12 = .ok (.iload_n 1, 1) := by decide +kernel
theorem dX7_isParallel_13 : decode cX7_isParallel 13 = .ok (.iaload, 1) := by decide +kernel
theorem dX7_isParallel_14 : decode cX7_isParallel 14 = .ok (.aload_n 0, 1) := by decide +kernel
theorem dX7_isParallel_15 : decode cX7_isParallel 15 = .ok (.getfield 13, 3) := by decide +kernel
theorem dX7_isParallel_18 : decode cX7_isParallel 18 = .ok (.iload_n 2, 1) := by decide +kernel
theorem dX7_isParallel_19 : decode cX7_isParallel 19 = .ok (.iaload, 1) := by decide +kernel
theorem dX7_isParallel_20 : decode cX7_isParallel 20 = .ok (.if_icmp .eq 20, 3) := by decide +kernel
theorem dX7_isParallel_23 : decode cX7_isParallel 23 = .ok (.aload_n 0, 1) := by decide +kernel
theorem dX7_isParallel_24 : decode cX7_isParallel 24 = .ok (.iload_n 1, 1) := by decide +kernel
theorem dX7_isParallel_25 : decode cX7_isParallel 25 = .ok (.invokevirtual 70, 3) := by decide +kernel
theorem dX7_isParallel_28 : decode cX7_isParallel 28 = .ok (.aload_n 0, 1) := by decide +kernel
theorem dX7_isParallel_29 : decode cX7_isParallel 29 = .ok (.iload_n 2, 1) := by decide +kernel
theorem dX7_isParallel_30 : decode cX7_isParallel 30 = .ok (.invokevirtual 70, 3) := by decide +kernel
theorem dX7_isParallel_33 : decode cX7_isParallel 33 = .ok (.if_icmp .eq 7, 3) := by decide +kernel
theorem dX7_isParallel_36 : decode cX7_isParallel 36 = .ok (.iconst 1, 1) := by decide +kernel
theorem dX7_isParallel_37 : decode cX7_isParallel 37 = .ok (.goto 4, 3) := by decide +kernel
theorem dX7_isParallel_40 : decode cX7_isParallel 40 = .ok (.iconst 0, 1) := by decide +kernel
theorem dX7_isParallel_41 : decode cX7_isParallel 41 = .ok (.istore 5, 2) := by decide +kernel
theorem dX7_isParallel_43 : decode cX7_isParallel 43 = .ok (.iload 4, 2) := by decide +kernel
theorem dX7_isParallel_45 : decode cX7_isParallel 45 = .ok (.iconst 2, 1) := by decide +kernel
theorem dX7_isParallel_46 : decode cX7_isParallel 46 = .ok (.if_icmp .ge 23, 3) := by decide +kernel
theorem dX7_isParallel_49 : decode cX7_isParallel 49 = .ok (.iload 5, 2) := by decide +kernel
theorem dX7_isParallel_51 : decode cX7_isParallel 51 = .ok (.ifCond .eq 18, 3) := by decide +kernel
theorem dX7_isParallel_54 : decode cX7_isParallel 54 = .ok (.aload_n 0, 1) := by decide +kernel
theorem dX7_isParallel_55 : decode cX7_isParallel 55 = .ok (.iload_n 2, 1) := by decide +kernel
theorem dX7_isParallel_56 : decode cX7_isParallel 56 = .ok (.iload_n 3, 1) := by decide +kernel
theorem dX7_isParallel_57 : decode cX7_isParallel 57 = .ok (.invokevirtual 84, 3) := by decide +kernel
theorem dX7_isParallel_60 : decode cX7_isParallel 60 = .ok (.iload 4, 2) := by decide +kernel
theorem dX7_isParallel_62 : decode cX7_isParallel 62 = .ok (.if_icmp .ne 7, 3) := by decide +kernel
theorem dX7_isParallel_65 : decode cX7_isParallel 65 = .ok (.iconst 1, 1) := by decide +kernel
theorem dX7_isParallel_66 : decode cX7_isParallel 66 = .ok (.goto 4, 3) := by decide +kernel
theorem dX7_isParallel_69 : decode cX7_isParallel 69 = .ok (.iconst 0, 1) := by decide +kernel
theorem dX7_isParallel_70 : decode cX7_isParallel 70 = .ok (.ireturn, 1) := by decide +kernel
theorem dX7_isHidden_0 : decode cX7_isHidden 0 = .ok (.aload_n 0, 1) := by decide +kernel
theorem dX7_isHidden_1 : decode cX7_isHidden 1 = .ok (.iload_n 1, 1) := by decide +kernel
theorem dX7_isHidden_2 : decode cX7_isHidden 2 = .ok (.invokevirtual 87, 3) := by decide +kernel
theorem dX7_isHidden_5 : decode cX7_isHidden 5 = .ok (.invokestatic 97, 3) := by decide +kernel
theorem dX7_isHidden_8 : decode cX7_isHidden 8 = .ok (.ifCond .eq 26, 3) := by decide +kernel
theorem dX7_isHidden_11 : decode cX7_isHidden 11 = .ok (.aload_n 0, 1) := by decide +kernel
theorem dX7_isHidden_12 : decode cX7_isHidden 12 = .ok (.iload_n 1, 1) := by decide +kernel
theorem dX7_isHidden_13 : decode cX7_isHidden 13 = .ok (.invokevirtual 87, 3) := by decide +kernel
theorem dX7_isHidden_16 : decode cX7_isHidden 16 = .ok (.invokestatic 97, 3) := by decide +kernel
theorem dX7_isHidden_19 : decode cX7_isHidden 19 = .ok (.aload_n 0, 1) := by decide +kernel
theorem dX7_isHidden_20 : decode cX7_isHidden 20 = .ok (.iload_n 1, 1) := by decide +kernel
theorem dX7_isHidden_21 : decode cX7_isHidden 21 = .ok (.invokevirtual 90, 3) := by decide +kernel
theorem dX7_isHidden_24 : decode cX7_isHidden 24 = .ok (.invokestatic 97, 3) := by decide +kernel
theorem dX7_isHidden_27 : decode cX7_isHidden 27 = .ok (.if_icmp .ne 7, 3) := by decide +kernel
theorem dX7_isHidden_30 : decode cX7_isHidden 30 = .ok (.iconst 1, 1) := by decide +kernel
theorem dX7_isHidden_31 : decode cX7_isHidden 31 = .ok (.goto 4, 3) := by decide +kernel
theorem dX7_isHidden_34 : decode cX7_isHidden 34 = .ok (.iconst 0, 1) := by decide +kernel
theorem dX7_isHidden_35 : decode cX7_isHidden 35 = .ok (.istore_n 3, 1) := by decide +kernel
theorem dX7_isHidden_36 : decode cX7_isHidden 36 = .ok (.aload_n 0, 1) := by decide +kernel
theorem dX7_isHidden_37 : decode cX7_isHidden 37 = .ok (.iload_n 1, 1) := by decide +kernel
theorem dX7_isHidden_38 : decode cX7_isHidden 38 = .ok (.iload_n 2, 1) := by decide +kernel
theorem dX7_isHidden_39 : decode cX7_isHidden 39 = .ok (.invokevirtual 84, 3) := by decide +kernel
theorem dX7_isHidden_42 : decode cX7_isHidden 42 = .ok (.iconst 2, 1) := by decide +kernel
theorem dX7_isHidden_43 : decode cX7_isHidden 43 = .ok (.if_icmp .ge 23, 3) := by decide +kernel
theorem dX7_isHidden_46 : decode cX7_isHidden 46 = .ok (.iload_n 3, 1) := by decide +kernel
theorem dX7_isHidden_47 : decode cX7_isHidden 47 = .ok (.ifCond .eq 19, 3) := by decide +kernel
theorem dX7_isHidden_50 : decode cX7_isHidden 50 = .ok (.aload_n 0, 1) := by decide +kernel
theorem dX7_isHidden_51 : decode cX7_isHidden 51 = .ok (.iload_n 1, 1) := by decide +kernel
theorem dX7_isHidden_52 : decode cX7_isHidden 52 = .ok (.invokevirtual 87, 3) := by decide +kernel
theorem dX7_isHidden_55 : decode cX7_isHidden 55 = .ok (.invokestatic 63, 3) := by decide +kernel
theorem dX7_isHidden_58 : decode cX7_isHidden 58 = .ok (.iconst 1, 1) := by decide +kernel
theorem dX7_isHidden_59 : decode cX7_isHidden 59 = .ok (.if_icmp .le 7, 3) := by decide +kernel
theorem dX7_isHidden_62 : decode cX7_isHidden 62 = .ok (.iconst 1, 1) := by decide +kernel
theorem dX7_isHidden_63 : decode cX7_isHidden 63 = .ok (.goto 4, 3) := by decide +kernel
theorem dX7_isHidden_66 : decode cX7_isHidden 66 = .ok (.iconst 0, 1) := by decide +kernel
theorem dX7_isHidden_67 : decode cX7_isHidden 67 = .ok (.ireturn, 1) := by decide +kernel
theorem dX7_leapsBadly_0 : decode cX7_leapsBadly 0 = .ok (.aload_n 0, 1) := by decide +kernel
theorem dX7_leapsBadly_1 : decode cX7_leapsBadly 1 = .ok (.iload_n 1, 1) := by decide +kernel
theorem dX7_leapsBadly_2 : decode cX7_leapsBadly 2 = .ok (.invokevirtual 87, 3) := by decide +kernel
theorem dX7_leapsBadly_5 : decode cX7_leapsBadly 5 = .ok (.invokestatic 63, 3) := by decide +kernel
theorem dX7_leapsBadly_8 : decode cX7_leapsBadly 8 = .ok (.istore_n 3, 1) := by decide +kernel
theorem dX7_leapsBadly_9 : decode cX7_leapsBadly 9 = .ok (.aload_n 0, 1) := by decide +kernel
theorem dX7_leapsBadly_10 : decode cX7_leapsBadly 10 = .ok (.iload_n 1, 1) := by decide +kernel
theorem dX7_leapsBadly_11 : decode cX7_leapsBadly 11 = .ok (.iload_n 2, 1) := by decide +kernel
theorem dX7_leapsBadly_12 : decode cX7_leapsBadly 12 = .ok (.invokevirtual 73, 3) := by decide +kernel
theorem dX7_leapsBadly_15 : decode cX7_leapsBadly 15 = .ok (.aload_n 0, 1) := by decide +kernel
theorem dX7_leapsBadly_16 : decode cX7_leapsBadly 16 = .ok (.iload_n 1, 1) := by decide +kernel
theorem dX7_leapsBadly_17 : decode cX7_leapsBadly 17 = .ok (.iconst 1, 1) := by decide +kernel
theorem dX7_leapsBadly_18 : decode cX7_leapsBadly 18 = .ok (.isub, 1) := by decide +kernel
theorem dX7_leapsBadly_19 : decode cX7_leapsBadly 19 = .ok (.iload_n 2, 1) := by decide +kernel
theorem dX7_leapsBadly_20 : decode cX7_leapsBadly 20 = .ok (.invokevirtual 73, 3) := by decide +kernel
theorem dX7_leapsBadly_23 : decode cX7_leapsBadly 23 = .ok (.isub, 1) := by decide +kernel
theorem dX7_leapsBadly_24 : decode cX7_leapsBadly 24 = .ok (.invokestatic 63, 3) := by decide +kernel
theorem dX7_leapsBadly_27 : decode cX7_leapsBadly 27 = .ok (.istore 4, 2) := by decide +kernel
theorem dX7_leapsBadly_29 : decode cX7_leapsBadly 29 = .ok (.iload_n 3, 1) := by decide +kernel
theorem dX7_leapsBadly_30 : decode cX7_leapsBadly 30 = .ok (.iconst 1, 1) := by decide +kernel
theorem dX7_leapsBadly_31 : decode cX7_leapsBadly 31 = .ok (.if_icmp .le 40, 3) := by decide +kernel
theorem dX7_leapsBadly_34 : decode cX7_leapsBadly 34 = .ok (.iload_n 3, 1) := by decide +kernel
theorem dX7_leapsBadly_35 : decode cX7_leapsBadly 35 = .ok (.bipush 6, 2) := by decide +kernel
theorem dX7_leapsBadly_37 : decode cX7_leapsBadly 37 = .ok (.if_icmp .eq 30, 3) := by decide +kernel
theorem dX7_leapsBadly_40 : decode cX7_leapsBadly 40 = .ok (.iload_n 3, 1) := by decide +kernel
theorem dX7_leapsBadly_41 : decode cX7_leapsBadly 41 = .ok (.bipush 7, 2) := by decide +kernel
theorem dX7_leapsBadly_43 : decode cX7_leapsBadly 43 = .ok (.if_icmp .gt 24, 3) := by decide +kernel
theorem dX7_leapsBadly_46 : decode cX7_leapsBadly 46 = .ok (.iload 4, 2) := by decide +kernel
theorem dX7_leapsBadly_48 : decode cX7_leapsBadly 48 = .ok (.bipush 6, 2) := by decide +kernel
theorem dX7_leapsBadly_50 : decode cX7_leapsBadly 50 = .ok (.if_icmp .eq 17, 3) := by decide +kernel
theorem dX7_leapsBadly_53 : decode cX7_leapsBadly 53 = .ok (.iload 4, 2) := by decide +kernel
theorem dX7_leapsBadly_55 : decode cX7_leapsBadly 55 = .ok (.bipush 10, 2) := by decide +kernel
theorem dX7_leapsBadly_57 : decode cX7_leapsBadly 57 = .ok (.if_icmp .eq 10, 3) := by decide +kernel
theorem dX7_leapsBadly_60 : decode cX7_leapsBadly 60 = .ok (.iload 4, 2) := by decide +kernel
theorem dX7_leapsBadly_62 : decode cX7_leapsBadly 62 = .ok (.bipush 11, 2) := by decide +kernel
theorem dX7_leapsBadly_64 : decode cX7_leapsBadly 64 = .ok (.if_icmp .ne 7, 3) := by decide +kernel
theorem dX7_leapsBadly_67 : decode cX7_leapsBadly 67 = .ok (.iconst 1, 1) := by decide +kernel
theorem dX7_leapsBadly_68 : decode cX7_leapsBadly 68 = .ok (.goto 4, 3) := by decide +kernel
theorem dX7_leapsBadly_71 : decode cX7_leapsBadly 71 = .ok (.iconst 0, 1) := by decide +kernel
theorem dX7_leapsBadly_72 : decode cX7_leapsBadly 72 = .ok (.ireturn, 1) := by decide +kernel
theorem dX7_isUnanswered_0 : decode cX7_isUnanswered 0 = .ok (.aload_n 0, 1) := by decide +kernel
theorem dX7_isUnanswered_1 : decode cX7_isUnanswered 1 = .ok (.iload_n 1, 1) := by decide +kernel
theorem dX7_isUnanswered_2 : decode cX7_isUnanswered 2 = .ok (.iconst 1, 1) := by decide +kernel
theorem dX7_isUnanswered_3 : decode cX7_isUnanswered 3 = .ok (.isub, 1) := by decide +kernel
theorem dX7_isUnanswered_4 : decode cX7_isUnanswered 4 = .ok (.invokevirtual 87, 3) := by decide +kernel
theorem dX7_isUnanswered_7 : decode cX7_isUnanswered 7 = .ok (.istore_n 2, 1) := by decide +kernel
theorem dX7_isUnanswered_8 : decode cX7_isUnanswered 8 = .ok (.iload_n 2, 1) := by decide +kernel
theorem dX7_isUnanswered_9 : decode cX7_isUnanswered 9 = .ok (.invokestatic 63, 3) := by decide +kernel
theorem dX7_isUnanswered_12 : decode cX7_isUnanswered 12 = .ok (.iconst 4, 1) := by decide +kernel
theorem dX7_isUnanswered_13 : decode cX7_isUnanswered 13 = .ok (.if_icmp .lt 20, 3) := by decide +kernel
theorem dX7_isUnanswered_16 : decode cX7_isUnanswered 16 = .ok (.aload_n 0, 1) := by decide +kernel
theorem dX7_isUnanswered_17 : decode cX7_isUnanswered 17 = .ok (.iload_n 1, 1) := by decide +kernel
theorem dX7_isUnanswered_18 : decode cX7_isUnanswered 18 = .ok (.invokevirtual 87, 3) := by decide +kernel
theorem dX7_isUnanswered_21 : decode cX7_isUnanswered 21 = .ok (.iload_n 2, 1) := by decide +kernel
theorem dX7_isUnanswered_22 : decode cX7_isUnanswered 22 = .ok (.invokestatic 97, 3) := by decide +kernel
theorem dX7_isUnanswered_25 : decode cX7_isUnanswered 25 = .ok (.ineg, 1) := by decide +kernel
theorem dX7_isUnanswered_26 : decode cX7_isUnanswered 26 = .ok (.if_icmp .eq 7, 3) := by decide +kernel
theorem dX7_isUnanswered_29 : decode cX7_isUnanswered 29 = .ok (.iconst 1, 1) := by decide +kernel
theorem dX7_isUnanswered_30 : decode cX7_isUnanswered 30 = .ok (.goto 4, 3) := by decide +kernel
theorem dX7_isUnanswered_33 : decode cX7_isUnanswered 33 = .ok (.iconst 0, 1) := by decide +kernel
theorem dX7_isUnanswered_34 : decode cX7_isUnanswered 34 = .ok (.ireturn, 1) := by decide +kernel
theorem dX7_isFault_0 : decode cX7_isFault 0 = .ok (.iload_n 2, 1) := by decide +kernel
theorem dX7_isFault_1 : decode cX7_isFault 1 = .ok (.aload_n 0, 1) := by decide +kernel
theorem dX7_isFault_2 : decode cX7_isFault 2 = .ok (.invokevirtual 52, 3) := by decide +kernel
theorem dX7_isFault_5 : decode cX7_isFault 5 = .ok (.iconst 1, 1) := by decide +kernel
theorem dX7_isFault_6 : decode cX7_isFault 6 = .ok (.isub, 1) := by decide +kernel
theorem dX7_isFault_7 : decode cX7_isFault 7 = .ok (.if_icmp .ne 7, 3) := by decide +kernel
theorem dX7_isFault_10 : decode cX7_isFault 10 = .ok (.iconst 1, 1) := by decide +kernel
theorem dX7_isFault_11 : decode cX7_isFault 11 = .ok (.goto 4, 3) := by decide +kernel
theorem dX7_isFault_14 : decode cX7_isFault 14 = .ok (.iconst 0, 1) := by decide +kernel
theorem dX7_isFault_15 : decode cX7_isFault 15 = .ok (.istore 4, 2) := by decide +kernel
theorem dX7_isFault_17 : decode cX7_isFault 17 = .ok (.aload_n 0, 1) := by decide +kernel
theorem dX7_isFault_18 : decode cX7_isFault 18 = .ok (.iload_n 2, 1) := by decide +kernel
theorem dX7_isFault_19 : decode cX7_isFault 19 = .ok (.invokevirtual 70, 3) := by decide +kernel
theorem dX7_isFault_22 : decode cX7_isFault 22 = .ok (.istore 5, 2) := by decide +kernel
theorem dX7_isFault_24 : decode cX7_isFault 24 = .ok (.iload_n 1, 1) := by decide +kernel
theorem dX7_isFault_25 : decode cX7_isFault 25 = .ok (.ifCond .ne 44, 3) := by decide +kernel
theorem dX7_isFault_28 : decode cX7_isFault 28 = .ok (.iload_n 2, 1) := by decide +kernel
theorem dX7_isFault_29 : decode cX7_isFault 29 = .ok (.ifCond .ne 38, 3) := by decide +kernel
theorem dX7_isFault_32 : decode cX7_isFault 32 = .ok (.aload_n 0, 1) := by decide +kernel
theorem dX7_isFault_33 : decode cX7_isFault 33 = .ok (.iconst 0, 1) := by decide +kernel
theorem dX7_isFault_34 : decode cX7_isFault 34 = .ok (.iload_n 3, 1) := by decide +kernel
theorem dX7_isFault_35 : decode cX7_isFault 35 = .ok (.invokevirtual 84, 3) := by decide +kernel
theorem dX7_isFault_38 : decode cX7_isFault 38 = .ok (.iconst 1, 1) := by decide +kernel
theorem dX7_isFault_39 : decode cX7_isFault 39 = .ok (.if_icmp .gt 24, 3) := by decide +kernel
theorem dX7_isFault_42 : decode cX7_isFault 42 = .ok (.aload_n 0, 1) := by decide +kernel
theorem dX7_isFault_43 : decode cX7_isFault 43 = .ok (.iconst 0, 1) := by decide +kernel
theorem dX7_isFault_44 : decode cX7_isFault 44 = .ok (.iload_n 3, 1) := by decide +kernel
theorem dX7_isFault_45 : decode cX7_isFault 45 = .ok (.invokevirtual 84, 3) := by decide +kernel
theorem dX7_isFault_48 : decode cX7_isFault 48 = .ok (.iconst 1, 1) := by decide +kernel
theorem dX7_isFault_49 : decode cX7_isFault 49 = .ok (.if_icmp .ne 18, 3) := by decide +kernel
theorem dX7_isFault_52 : decode cX7_isFault 52 = .ok (.aload_n 0, 1) := by decide +kernel
theorem dX7_isFault_53 : decode cX7_isFault 53 = .ok (.getfield 13, 3) := by decide +kernel
theorem dX7_isFault_56 : decode cX7_isFault 56 = .ok (.iconst 0, 1) := by decide +kernel
theorem dX7_isFault_57 : decode cX7_isFault 57 = .ok (.iaload, 1) := by decide +kernel
theorem dX7_isFault_58 : decode cX7_isFault 58 = .ok (.iload 5, 2) := by decide +kernel
theorem dX7_isFault_60 : decode cX7_isFault 60 = .ok (.if_icmp .ge 7, 3) := by decide +kernel
theorem dX7_isFault_63 : decode cX7_isFault 63 = .ok (.iconst 1, 1) := by decide +kernel
theorem dX7_isFault_64 : decode cX7_isFault 64 = .ok (.goto 4, 3) := by decide +kernel
theorem dX7_isFault_67 : decode cX7_isFault 67 = .ok (.iconst 0, 1) := by decide +kernel
theorem dX7_isFault_68 : decode cX7_isFault 68 = .ok (.ireturn, 1) := by decide +kernel
theorem dX7_isFault_69 : decode cX7_isFault 69 = .ok (.iload_n 1, 1) := by decide +kernel
theorem dX7_isFault_70 : decode cX7_isFault 70 = .ok (.iconst 1, 1) := by decide +kernel
theorem dX7_isFault_71 : decode cX7_isFault 71 = .ok (.if_icmp .ne 23, 3) := by decide +kernel
theorem dX7_isFault_74 : decode cX7_isFault 74 = .ok (.iload 4, 2) := by decide +kernel
theorem dX7_isFault_76 : decode cX7_isFault 76 = .ok (.ifCond .eq 16, 3) := by decide +kernel
theorem dX7_isFault_79 : decode cX7_isFault 79 = .ok (.aload_n 0, 1) := by decide +kernel
theorem dX7_isFault_80 : decode cX7_isFault 80 = .ok (.iload_n 2, 1) := by decide +kernel
theorem dX7_isFault_81 : decode cX7_isFault 81 = .ok (.iload_n 3, 1) := by decide +kernel
theorem dX7_isFault_82 : decode cX7_isFault 82 = .ok (.invokevirtual 100, 3) := by decide +kernel
theorem dX7_isFault_85 : decode cX7_isFault 85 = .ok (.ifCond .eq 7, 3) := by decide +kernel
theorem dX7_isFault_88 : decode cX7_isFault 88 = .ok (.iconst 1, 1) := by decide +kernel
theorem dX7_isFault_89 : decode cX7_isFault 89 = .ok (.goto 4, 3) := by decide +kernel
theorem dX7_isFault_92 : decode cX7_isFault 92 = .ok (.iconst 0, 1) := by decide +kernel
theorem dX7_isFault_93 : decode cX7_isFault 93 = .ok (.ireturn, 1) := by decide +kernel
theorem dX7_isFault_94 : decode cX7_isFault 94 = .ok (.iload_n 1, 1) := by decide +kernel
theorem dX7_isFault_95 : decode cX7_isFault 95 = .ok (.iconst 2, 1) := by decide +kernel
theorem dX7_isFault_96 : decode cX7_isFault 96 = .ok (.if_icmp .ne 27, 3) := by decide +kernel
theorem dX7_isFault_99 : decode cX7_isFault 99 = .ok (.aload_n 0, 1) := by decide +kernel
theorem dX7_isFault_100 : decode cX7_isFault 100 = .ok (.iload_n 2, 1) := by decide +kernel
theorem dX7_isFault_101 : decode cX7_isFault 101 = .ok (.invokevirtual 93, 3) := by decide +kernel
theorem dX7_isFault_104 : decode cX7_isFault 104 = .ok (.ifCond .eq 17, 3) := by decide +kernel
theorem dX7_isFault_107 : decode cX7_isFault 107 = .ok (.aload_n 0, 1) := by decide +kernel
theorem dX7_isFault_108 : decode cX7_isFault 108 = .ok (.iload_n 2, 1) := by decide +kernel
theorem dX7_isFault_109 : decode cX7_isFault 109 = .ok (.iload_n 3, 1) := by decide +kernel
theorem dX7_isFault_110 : decode cX7_isFault 110 = .ok (.invokevirtual 84, 3) := by decide +kernel
theorem dX7_isFault_113 : decode cX7_isFault 113 = .ok (.iconst 3, 1) := by decide +kernel
theorem dX7_isFault_114 : decode cX7_isFault 114 = .ok (.if_icmp .ne 7, 3) := by decide +kernel
theorem dX7_isFault_117 : decode cX7_isFault 117 = .ok (.iconst 1, 1) := by decide +kernel
theorem dX7_isFault_118 : decode cX7_isFault 118 = .ok (.goto 4, 3) := by decide +kernel
theorem dX7_isFault_121 : decode cX7_isFault 121 = .ok (.iconst 0, 1) := by decide +kernel
theorem dX7_isFault_122 : decode cX7_isFault 122 = .ok (.ireturn, 1) := by decide +kernel
theorem dX7_isFault_123 : decode cX7_isFault 123 = .ok (.iload_n 1, 1) := by decide +kernel
theorem dX7_isFault_124 : decode cX7_isFault 124 = .ok (.bipush 7, 2) := by decide +kernel
theorem dX7_isFault_126 : decode cX7_isFault 126 = .ok (.if_icmp .ne 46, 3) := by decide +kernel
theorem dX7_isFault_129 : decode cX7_isFault 129 = .ok (.aload_n 0, 1) := by decide +kernel
theorem dX7_isFault_130 : decode cX7_isFault 130 = .ok (.getfield 104, 3) := by decide +kernel
theorem dX7_isFault_133 : decode cX7_isFault 133 = .ok (.ifCond .eq 22, 3) := by decide +kernel
theorem dX7_isFault_136 : decode cX7_isFault 136 = .ok (.aload_n 0, 1) := by decide +kernel
theorem dX7_isFault_137 : decode cX7_isFault 137 = .ok (.getfield 13, 3) := by decide +kernel
theorem dX7_isFault_140 : decode cX7_isFault 140 = .ok (.iload_n 2, 1) := by decide +kernel
theorem dX7_isFault_141 : decode cX7_isFault 141 = .ok (.iaload, 1) := by decide +kernel
theorem dX7_isFault_142 : decode cX7_isFault 142 = .ok (.iload 5, 2) := by decide +kernel
theorem dX7_isFault_144 : decode cX7_isFault 144 = .ok (.if_icmp .le 7, 3) := by decide +kernel
theorem dX7_isFault_147 : decode cX7_isFault 147 = .ok (.iconst 1, 1) := by decide +kernel
theorem dX7_isFault_148 : decode cX7_isFault 148 = .ok (.goto 23, 3) := by decide +kernel
theorem dX7_isFault_151 : decode cX7_isFault 151 = .ok (.iconst 0, 1) := by decide +kernel
theorem dX7_isFault_152 : decode cX7_isFault 152 = .ok (.goto 19, 3) := by decide +kernel
theorem dX7_isFault_155 : decode cX7_isFault 155 = .ok (.aload_n 0, 1) := by decide +kernel
theorem dX7_isFault_156 : decode cX7_isFault 156 = .ok (.getfield 13, 3) := by decide +kernel
theorem dX7_isFault_159 : decode cX7_isFault 159 = .ok (.iload_n 2, 1) := by decide +kernel
theorem dX7_isFault_160 : decode cX7_isFault 160 = .ok (.iaload, 1) := by decide +kernel
theorem dX7_isFault_161 : decode cX7_isFault 161 = .ok (.iload 5, 2) := by decide +kernel
theorem dX7_isFault_163 : decode cX7_isFault 163 = .ok (.if_icmp .ge 7, 3) := by decide +kernel
theorem dX7_isFault_166 : decode cX7_isFault 166 = .ok (.iconst 1, 1) := by decide +kernel
theorem dX7_isFault_167 : decode cX7_isFault 167 = .ok (.goto 4, 3) := by decide +kernel
theorem dX7_isFault_170 : decode cX7_isFault 170 = .ok (.iconst 0, 1) := by decide +kernel
theorem dX7_isFault_171 : decode cX7_isFault 171 = .ok (.ireturn, 1) := by decide +kernel
theorem dX7_isFault_172 : decode cX7_isFault 172 = .ok (.iload_n 1, 1) := by decide +kernel
theorem dX7_isFault_173 : decode cX7_isFault 173 = .ok (.bipush 8, 2) := by decide +kernel
theorem dX7_isFault_175 : decode cX7_isFault 175 = .ok (.if_icmp .ne 29, 3) := by decide +kernel
theorem dX7_isFault_178 : decode cX7_isFault 178 = .ok (.iload_n 2, 1) := by decide +kernel
theorem dX7_isFault_179 : decode cX7_isFault 179 = .ok (.ifCond .le 23, 3) := by decide +kernel
theorem dX7_isFault_182 : decode cX7_isFault 182 = .ok (.iload 4, 2) := by decide +kernel
theorem dX7_isFault_184 : decode cX7_isFault 184 = .ok (.ifCond .ne 18, 3) := by decide +kernel
theorem dX7_isFault_187 : decode cX7_isFault 187 = .ok (.aload_n 0, 1) := by decide +kernel
theorem dX7_isFault_188 : decode cX7_isFault 188 = .ok (.getfield 13, 3) := by decide +kernel
theorem dX7_isFault_191 : decode cX7_isFault 191 = .ok (.iload_n 2, 1) := by decide +kernel
theorem dX7_isFault_192 : decode cX7_isFault 192 = .ok (.iaload, 1) := by decide +kernel
theorem dX7_isFault_193 : decode cX7_isFault 193 = .ok (.iload 5, 2) := by decide +kernel
theorem dX7_isFault_195 : decode cX7_isFault 195 = .ok (.if_icmp .ne 7, 3) := by decide +kernel
theorem dX7_isFault_198 : decode cX7_isFault 198 = .ok (.iconst 1, 1) := by decide +kernel
theorem dX7_isFault_199 : decode cX7_isFault 199 = .ok (.goto 4, 3) := by decide +kernel
theorem dX7_isFault_202 : decode cX7_isFault 202 = .ok (.iconst 0, 1) := by decide +kernel
theorem dX7_isFault_203 : decode cX7_isFault 203 = .ok (.ireturn, 1) := by decide +kernel
theorem dX7_isFault_204 : decode cX7_isFault 204 = .ok (.iload_n 2, 1) := by decide +kernel
theorem dX7_isFault_205 : decode cX7_isFault 205 = .ok (.ifCond .ne 5, 3) := by decide +kernel
theorem dX7_isFault_208 : decode cX7_isFault 208 = .ok (.iconst 0, 1) := by decide +kernel
theorem dX7_isFault_209 : decode cX7_isFault 209 = .ok (.ireturn, 1) := by decide +kernel
theorem dX7_isFault_210 : decode cX7_isFault 210 = .ok (.iload_n 1, 1) := by decide +kernel
theorem dX7_isFault_211 : decode cX7_isFault 211 = .ok (.iconst 3, 1) := by decide +kernel
theorem dX7_isFault_212 : decode cX7_isFault 212 = .ok (.if_icmp .ne 10, 3) := by decide +kernel
theorem dX7_isFault_215 : decode cX7_isFault 215 = .ok (.aload_n 0, 1) := by decide +kernel
theorem dX7_isFault_216 : decode cX7_isFault 216 = .ok (.iload_n 2, 1) := by decide +kernel
theorem dX7_isFault_217 : decode cX7_isFault 217 = .ok (.iload_n 3, 1) := by decide +kernel
theorem dX7_isFault_218 : decode cX7_isFault 218 = .ok (.invokevirtual 107, 3) := by decide +kernel
theorem dX7_isFault_221 : decode cX7_isFault 221 = .ok (.ireturn, 1) := by decide +kernel
theorem dX7_isFault_222 : decode cX7_isFault 222 = .ok (.iload_n 1, 1) := by decide +kernel
theorem dX7_isFault_223 : decode cX7_isFault 223 = .ok (.iconst 4, 1) := by decide +kernel
theorem dX7_isFault_224 : decode cX7_isFault 224 = .ok (.if_icmp .ne 13, 3) := by decide +kernel
theorem dX7_isFault_227 : decode cX7_isFault 227 = .ok (.aload_n 0, 1) := by decide +kernel
theorem dX7_isFault_228 : decode cX7_isFault 228 = .ok (.iload_n 2, 1) := by decide +kernel
theorem dX7_isFault_229 : decode cX7_isFault 229 = .ok (.iload_n 2, 1) := by decide +kernel
theorem dX7_isFault_230 : decode cX7_isFault 230 = .ok (.iconst 1, 1) := by decide +kernel
theorem dX7_isFault_231 : decode cX7_isFault 231 = .ok (.isub, 1) := by decide +kernel
theorem dX7_isFault_232 : decode cX7_isFault 232 = .ok (.iload_n 3, 1) := by decide +kernel
theorem dX7_isFault_233 : decode cX7_isFault 233 = .ok (.invokevirtual 110, 3) := by decide +kernel
theorem dX7_isFault_236 : decode cX7_isFault 236 = .ok (.ireturn, 1) := by decide +kernel
theorem dX7_isFault_237 : decode cX7_isFault 237 = .ok (.iload_n 1, 1) := by decide +kernel
theorem dX7_isFault_238 : decode cX7_isFault 238 = .ok (.iconst 5, 1) := by decide +kernel
theorem dX7_isFault_239 : decode cX7_isFault 239 = .ok (.if_icmp .ne 40, 3) := by decide +kernel
theorem dX7_isFault_242 : decode cX7_isFault 242 = .ok (.aload_n 0, 1) := by decide +kernel
theorem dX7_isFault_243 : decode cX7_isFault 243 = .ok (.getfield 16, 3) := by decide +kernel
theorem dX7_isFault_246 : decode cX7_isFault 246 = .ok (.iconst 1, 1) := by decide +kernel
theorem dX7_isFault_247 : decode cX7_isFault 247 = .ok (.if_icmp .le 30, 3) := by decide +kernel
theorem dX7_isFault_250 : decode cX7_isFault 250 = .ok (.aload_n 0, 1) := by decide +kernel
theorem dX7_isFault_251 : decode cX7_isFault 251 = .ok (.iload_n 2, 1) := by decide +kernel
theorem dX7_isFault_252 : decode cX7_isFault 252 = .ok (.invokevirtual 93, 3) := by decide +kernel
theorem dX7_isFault_255 : decode cX7_isFault 255 = .ok (.ifCond .eq 22, 3) := by decide +kernel
theorem dX7_isFault_258 : decode cX7_isFault 258 = .ok (.aload_n 0, 1) := by decide +kernel
theorem dX7_isFault_259 : decode cX7_isFault 259 = .ok (.iload_n 2, 1) := by decide +kernel
theorem dX7_isFault_260 : decode cX7_isFault 260 = .ok (.iload_n 2, 1) := by decide +kernel
theorem dX7_isFault_261 : decode cX7_isFault 261 = .ok (.aload_n 0, 1) := by decide +kernel
theorem dX7_isFault_262 : decode cX7_isFault 262 = .ok (.getfield 16, 3) := by decide +kernel
theorem dX7_isFault_265 : decode cX7_isFault 265 = .ok (.isub, 1) := by decide +kernel
theorem dX7_isFault_266 : decode cX7_isFault 266 = .ok (.iload_n 3, 1) := by decide +kernel
theorem dX7_isFault_267 : decode cX7_isFault 267 = .ok (.invokevirtual 110, 3) := by decide +kernel
theorem dX7_isFault_270 : decode cX7_isFault 270 = .ok (.ifCond .eq 7, 3) := by decide +kernel
theorem dX7_isFault_273 : decode cX7_isFault 273 = .ok (.iconst 1, 1) := by decide +kernel
theorem dX7_isFault_274 : decode cX7_isFault 274 = .ok (.goto 4, 3) := by decide +kernel
theorem dX7_isFault_277 : decode cX7_isFault 277 = .ok (.iconst 0, 1) := by decide +kernel
theorem dX7_isFault_278 : decode cX7_isFault 278 = .ok (.ireturn, 1) := by decide +kernel
theorem dX7_isFault_279 : decode cX7_isFault 279 = .ok (.iload_n 1, 1) := by decide +kernel
theorem dX7_isFault_280 : decode cX7_isFault 280 = .ok (.bipush 6, 2) := by decide +kernel
theorem dX7_isFault_282 : decode cX7_isFault 282 = .ok (.if_icmp .ne 10, 3) := by decide +kernel
theorem dX7_isFault_285 : decode cX7_isFault 285 = .ok (.aload_n 0, 1) := by decide +kernel
theorem dX7_isFault_286 : decode cX7_isFault 286 = .ok (.iload_n 2, 1) := by decide +kernel
theorem dX7_isFault_287 : decode cX7_isFault 287 = .ok (.iload_n 3, 1) := by decide +kernel
theorem dX7_isFault_288 : decode cX7_isFault 288 = .ok (.invokevirtual 113, 3) := by decide +kernel
theorem dX7_isFault_291 : decode cX7_isFault 291 = .ok (.ireturn, 1) := by decide +kernel
theorem dX7_isFault_292 : decode cX7_isFault 292 = .ok (.iload_n 1, 1) := by decide +kernel
theorem dX7_isFault_293 : decode cX7_isFault 293 = .ok (.bipush 9, 2) := by decide +kernel
theorem dX7_isFault_295 : decode cX7_isFault 295 = .ok (.if_icmp .ne 17, 3) := by decide +kernel
theorem dX7_isFault_298 : decode cX7_isFault 298 = .ok (.aload_n 0, 1) := by decide +kernel
theorem dX7_isFault_299 : decode cX7_isFault 299 = .ok (.iload_n 2, 1) := by decide +kernel
theorem dX7_isFault_300 : decode cX7_isFault 300 = .ok (.invokevirtual 87, 3) := by decide +kernel
theorem dX7_isFault_303 : decode cX7_isFault 303 = .ok (.ifCond .ne 7, 3) := by decide +kernel
theorem dX7_isFault_306 : decode cX7_isFault 306 = .ok (.iconst 1, 1) := by decide +kernel
theorem dX7_isFault_307 : decode cX7_isFault 307 = .ok (.goto 4, 3) := by decide +kernel
theorem dX7_isFault_310 : decode cX7_isFault 310 = .ok (.iconst 0, 1) := by decide +kernel
theorem dX7_isFault_311 : decode cX7_isFault 311 = .ok (.ireturn, 1) := by decide +kernel
theorem dX7_isFault_312 : decode cX7_isFault 312 = .ok (.iload_n 1, 1) := by decide +kernel
theorem dX7_isFault_313 : decode cX7_isFault 313 = .ok (.bipush 10, 2) := by decide +kernel
theorem dX7_isFault_315 : decode cX7_isFault 315 = .ok (.if_icmp .ne 12, 3) := by decide +kernel
theorem dX7_isFault_318 : decode cX7_isFault 318 = .ok (.aload_n 0, 1) := by decide +kernel
theorem dX7_isFault_319 : decode cX7_isFault 319 = .ok (.iload_n 2, 1) := by decide +kernel
theorem dX7_isFault_320 : decode cX7_isFault 320 = .ok (.iload_n 3, 1) := by decide +kernel
theorem dX7_isFault_321 : decode cX7_isFault 321 = .ok (.invokevirtual 116, 3) := by decide +kernel
theorem dX7_isFault_324 : decode cX7_isFault 324 = .ok (.goto 21, 3) := by decide +kernel
theorem dX7_isFault_327 : decode cX7_isFault 327 = .ok (.iload_n 2, 1) := by decide +kernel
theorem dX7_isFault_328 : decode cX7_isFault 328 = .ok (.iconst 1, 1) := by decide +kernel
theorem dX7_isFault_329 : decode cX7_isFault 329 = .ok (.if_icmp .le 15, 3) := by decide +kernel
theorem dX7_isFault_332 : decode cX7_isFault 332 = .ok (.aload_n 0, 1) := by decide +kernel
theorem dX7_isFault_333 : decode cX7_isFault 333 = .ok (.iload_n 2, 1) := by decide +kernel
theorem dX7_isFault_334 : decode cX7_isFault 334 = .ok (.invokevirtual 119, 3) := by decide +kernel
theorem dX7_isFault_337 : decode cX7_isFault 337 = .ok (.ifCond .eq 7, 3) := by decide +kernel
theorem dX7_isFault_340 : decode cX7_isFault 340 = .ok (.iconst 1, 1) := by decide +kernel
theorem dX7_isFault_341 : decode cX7_isFault 341 = .ok (.goto 4, 3) := by decide +kernel
theorem dX7_isFault_344 : decode cX7_isFault 344 = .ok (.iconst 0, 1) := by decide +kernel
theorem dX7_isFault_345 : decode cX7_isFault 345 = .ok (.ireturn, 1) := by decide +kernel
theorem dX7_isNote_0 : decode cX7_isNote 0 = .ok (.iload_n 0, 1) := by decide +kernel
theorem dX7_isNote_1 : decode cX7_isNote 1 = .ok (.iconst 0, 1) := by decide +kernel
theorem dX7_isNote_2 : decode cX7_isNote 2 = .ok (.bipush 27, 2) := by decide +kernel
theorem dX7_isNote_4 : decode cX7_isNote 4 = .ok (.invokestatic 66, 3) := by decide +kernel
theorem dX7_isNote_7 : decode cX7_isNote 7 = .ok (.ireturn, 1) := by decide +kernel
theorem dX7_given_0 : decode cX7_given 0 = .ok (.aload_n 0, 1) := by decide +kernel
theorem dX7_given_1 : decode cX7_given 1 = .ok (.iload_n 1, 1) := by decide +kernel
theorem dX7_given_2 : decode cX7_given 2 = .ok (.invokestatic 122, 3) := by decide +kernel
theorem dX7_given_5 : decode cX7_given 5 = .ok (.ifCond .ne 7, 3) := by decide +kernel
theorem dX7_given_8 : decode cX7_given 8 = .ok (.iconst 1, 1) := by decide +kernel
theorem dX7_given_9 : decode cX7_given 9 = .ok (.goto 17, 3) := by decide +kernel
theorem dX7_given_12 : decode cX7_given 12 = .ok (.aload_n 0, 1) := by decide +kernel
theorem dX7_given_13 : decode cX7_given 13 = .ok (.getfield 46, 3) := by decide +kernel
theorem dX7_given_16 : decode cX7_given 16 = .ok (.bipush 14, 2) := by decide +kernel
theorem dX7_given_18 : decode cX7_given 18 = .ok (.if_icmp .ne 7, 3) := by decide +kernel
theorem dX7_given_21 : decode cX7_given 21 = .ok (.iconst 2, 1) := by decide +kernel
theorem dX7_given_22 : decode cX7_given 22 = .ok (.goto 4, 3) := by decide +kernel
theorem dX7_given_25 : decode cX7_given 25 = .ok (.iconst 0, 1) := by decide +kernel
theorem dX7_given_26 : decode cX7_given 26 = .ok (.invokevirtual 125, 3) := by decide +kernel
theorem dX7_given_29 : decode cX7_given 29 = .ok (.ifCond .ne 5, 3) := by decide +kernel
theorem dX7_given_32 : decode cX7_given 32 = .ok (.iconst 0, 1) := by decide +kernel
theorem dX7_given_33 : decode cX7_given 33 = .ok (.ireturn, 1) := by decide +kernel
theorem dX7_given_34 : decode cX7_given 34 = .ok (.aload_n 0, 1) := by decide +kernel
theorem dX7_given_35 : decode cX7_given 35 = .ok (.getfield 7, 3) := by decide +kernel
theorem dX7_given_38 : decode cX7_given 38 = .ok (.aload_n 0, 1) := by decide +kernel
theorem dX7_given_39 : decode cX7_given 39 = .ok (.getfield 46, 3) := by decide +kernel
theorem dX7_given_42 : decode cX7_given 42 = .ok (.iload_n 1, 1) := by decide +kernel
theorem dX7_given_43 : decode cX7_given 43 = .ok (.iastore, 1) := by decide +kernel
theorem dX7_given_44 : decode cX7_given 44 = .ok (.aload_n 0, 1) := by decide +kernel
theorem dX7_given_45 : decode cX7_given 45 = .ok (.dup, 1) := by decide +kernel
theorem dX7_given_46 : decode cX7_given 46 = .ok (.getfield 46, 3) := by decide +kernel
theorem dX7_given_49 : decode cX7_given 49 = .ok (.iconst 1, 1) := by decide +kernel
theorem dX7_given_50 : decode cX7_given 50 = .ok (.iadd, 1) := by decide +kernel
theorem dX7_given_51 : decode cX7_given 51 = .ok (.putfield 46, 3) := by decide +kernel
theorem dX7_given_54 : decode cX7_given 54 = .ok (.aload_n 0, 1) := by decide +kernel
theorem dX7_given_55 : decode cX7_given 55 = .ok (.iconst 0, 1) := by decide +kernel
theorem dX7_given_56 : decode cX7_given 56 = .ok (.putfield 49, 3) := by decide +kernel
theorem dX7_given_59 : decode cX7_given 59 = .ok (.aload_n 0, 1) := by decide +kernel
theorem dX7_given_60 : decode cX7_given 60 = .ok (.getfield 46, 3) := by decide +kernel
theorem dX7_given_63 : decode cX7_given 63 = .ok (.ireturn, 1) := by decide +kernel
theorem dX7_other_0 : decode cX7_other 0 = .ok (.aload_n 0, 1) := by decide +kernel
theorem dX7_other_1 : decode cX7_other 1 = .ok (.iload_n 1, 1) := by decide +kernel
theorem dX7_other_2 : decode cX7_other 2 = .ok (.invokestatic 122, 3) := by decide +kernel
theorem dX7_other_5 : decode cX7_other 5 = .ok (.ifCond .ne 7, 3) := by decide +kernel
theorem dX7_other_8 : decode cX7_other 8 = .ok (.iconst 1, 1) := by decide +kernel
theorem dX7_other_9 : decode cX7_other 9 = .ok (.goto 19, 3) := by decide +kernel
theorem dX7_other_12 : decode cX7_other 12 = .ok (.aload_n 0, 1) := by decide +kernel
theorem dX7_other_13 : decode cX7_other 13 = .ok (.getfield 49, 3) := by decide +kernel
theorem dX7_other_16 : decode cX7_other 16 = .ok (.aload_n 0, 1) := by decide +kernel
theorem dX7_other_17 : decode cX7_other 17 = .ok (.invokevirtual 52, 3) := by decide +kernel
theorem dX7_other_20 : decode cX7_other 20 = .ok (.if_icmp .ne 7, 3) := by decide +kernel
theorem dX7_other_23 : decode cX7_other 23 = .ok (.iconst 2, 1) := by decide +kernel
theorem dX7_other_24 : decode cX7_other 24 = .ok (.goto 4, 3) := by decide +kernel
theorem dX7_other_27 : decode cX7_other 27 = .ok (.iconst 0, 1) := by decide +kernel
theorem dX7_other_28 : decode cX7_other 28 = .ok (.invokevirtual 125, 3) := by decide +kernel
theorem dX7_other_31 : decode cX7_other 31 = .ok (.ifCond .ne 5, 3) := by decide +kernel
theorem dX7_other_34 : decode cX7_other 34 = .ok (.iconst 0, 1) := by decide +kernel
theorem dX7_other_35 : decode cX7_other 35 = .ok (.ireturn, 1) := by decide +kernel
theorem dX7_other_36 : decode cX7_other 36 = .ok (.aload_n 0, 1) := by decide +kernel
theorem dX7_other_37 : decode cX7_other 37 = .ok (.getfield 13, 3) := by decide +kernel
theorem dX7_other_40 : decode cX7_other 40 = .ok (.aload_n 0, 1) := by decide +kernel
theorem dX7_other_41 : decode cX7_other 41 = .ok (.getfield 49, 3) := by decide +kernel
theorem dX7_other_44 : decode cX7_other 44 = .ok (.iload_n 1, 1) := by decide +kernel
theorem dX7_other_45 : decode cX7_other 45 = .ok (.iastore, 1) := by decide +kernel
theorem dX7_other_46 : decode cX7_other 46 = .ok (.aload_n 0, 1) := by decide +kernel
theorem dX7_other_47 : decode cX7_other 47 = .ok (.dup, 1) := by decide +kernel
theorem dX7_other_48 : decode cX7_other 48 = .ok (.getfield 49, 3) := by decide +kernel
theorem dX7_other_51 : decode cX7_other 51 = .ok (.iconst 1, 1) := by decide +kernel
theorem dX7_other_52 : decode cX7_other 52 = .ok (.iadd, 1) := by decide +kernel
theorem dX7_other_53 : decode cX7_other 53 = .ok (.putfield 49, 3) := by decide +kernel
theorem dX7_other_56 : decode cX7_other 56 = .ok (.aload_n 0, 1) := by decide +kernel
theorem dX7_other_57 : decode cX7_other 57 = .ok (.getfield 49, 3) := by decide +kernel
theorem dX7_other_60 : decode cX7_other 60 = .ok (.ireturn, 1) := by decide +kernel
theorem dX7_has_0 : decode cX7_has 0 = .ok (.iload_n 1, 1) := by decide +kernel
theorem dX7_has_1 : decode cX7_has 1 = .ok (.iconst 0, 1) := by decide +kernel
theorem dX7_has_2 : decode cX7_has 2 = .ok (.aload_n 0, 1) := by decide +kernel
theorem dX7_has_3 : decode cX7_has 3 = .ok (.getfield 49, 3) := by decide +kernel
theorem dX7_has_6 : decode cX7_has 6 = .ok (.iconst 1, 1) := by decide +kernel
theorem dX7_has_7 : decode cX7_has 7 = .ok (.isub, 1) := by decide +kernel
theorem dX7_has_8 : decode cX7_has 8 = .ok (.invokestatic 66, 3) := by decide +kernel
theorem dX7_has_11 : decode cX7_has 11 = .ok (.ireturn, 1) := by decide +kernel
theorem dX7_change_0 : decode cX7_change 0 = .ok (.aload_n 0, 1) := by decide +kernel
theorem dX7_change_1 : decode cX7_change 1 = .ok (.aload_n 0, 1) := by decide +kernel
theorem dX7_change_2 : decode cX7_change 2 = .ok (.iload_n 1, 1) := by decide +kernel
theorem dX7_change_3 : decode cX7_change 3 = .ok (.invokevirtual 128, 3) := by decide +kernel
theorem dX7_change_6 : decode cX7_change 6 = .ok (.ifCond .ne 7, 3) := by decide +kernel
theorem dX7_change_9 : decode cX7_change 9 = .ok (.iconst 1, 1) := by decide +kernel
theorem dX7_change_10 : decode cX7_change 10 = .ok (.goto 15, 3) := by decide +kernel
theorem dX7_change_13 : decode cX7_change 13 = .ok (.iload_n 2, 1) := by decide +kernel
theorem dX7_change_14 : decode cX7_change 14 = .ok (.invokestatic 122, 3) := by decide +kernel
theorem dX7_change_17 : decode cX7_change 17 = .ok (.ifCond .ne 7, 3) := by decide +kernel
theorem dX7_change_20 : decode cX7_change 20 = .ok (.iconst 2, 1) := by decide +kernel
theorem dX7_change_21 : decode cX7_change 21 = .ok (.goto 4, 3) := by decide +kernel
theorem dX7_change_24 : decode cX7_change 24 = .ok (.iconst 0, 1) := by decide +kernel
theorem dX7_change_25 : decode cX7_change 25 = .ok (.invokevirtual 125, 3) := by decide +kernel
theorem dX7_change_28 : decode cX7_change 28 = .ok (.ifCond .ne 5, 3) := by decide +kernel
theorem dX7_change_31 : decode cX7_change 31 = .ok (.iconst 0, 1) := by decide +kernel
theorem dX7_change_32 : decode cX7_change 32 = .ok (.ireturn, 1) := by decide +kernel
theorem dX7_change_33 : decode cX7_change 33 = .ok (.aload_n 0, 1) := by decide +kernel
theorem dX7_change_34 : decode cX7_change 34 = .ok (.getfield 13, 3) := by decide +kernel
theorem dX7_change_37 : decode cX7_change 37 = .ok (.iload_n 1, 1) := by decide +kernel
theorem dX7_change_38 : decode cX7_change 38 = .ok (.iaload, 1) := by decide +kernel
theorem dX7_change_39 : decode cX7_change 39 = .ok (.istore_n 3, 1) := by decide +kernel
theorem dX7_change_40 : decode cX7_change 40 = .ok (.aload_n 0, 1) := by decide +kernel
theorem dX7_change_41 : decode cX7_change 41 = .ok (.getfield 13, 3) := by decide +kernel
theorem dX7_change_44 : decode cX7_change 44 = .ok (.iload_n 1, 1) := by decide +kernel
theorem dX7_change_45 : decode cX7_change 45 = .ok (.iload_n 2, 1) := by decide +kernel
theorem dX7_change_46 : decode cX7_change 46 = .ok (.iastore, 1) := by decide +kernel
theorem dX7_change_47 : decode cX7_change 47 = .ok (.iload_n 3, 1) := by decide +kernel
theorem dX7_change_48 : decode cX7_change 48 = .ok (.ireturn, 1) := by decide +kernel
theorem dX7_clear_0 : decode cX7_clear 0 = .ok (.aload_n 0, 1) := by decide +kernel
theorem dX7_clear_1 : decode cX7_clear 1 = .ok (.iconst 0, 1) := by decide +kernel
theorem dX7_clear_2 : decode cX7_clear 2 = .ok (.putfield 40, 3) := by decide +kernel
theorem dX7_clear_5 : decode cX7_clear 5 = .ok (.aload_n 0, 1) := by decide +kernel
theorem dX7_clear_6 : decode cX7_clear 6 = .ok (.getfield 49, 3) := by decide +kernel
theorem dX7_clear_9 : decode cX7_clear 9 = .ok (.istore_n 2, 1) := by decide +kernel
theorem dX7_clear_10 : decode cX7_clear 10 = .ok (.aload_n 0, 1) := by decide +kernel
theorem dX7_clear_11 : decode cX7_clear 11 = .ok (.iconst 0, 1) := by decide +kernel
theorem dX7_clear_12 : decode cX7_clear 12 = .ok (.putfield 49, 3) := by decide +kernel
theorem dX7_clear_15 : decode cX7_clear 15 = .ok (.aload_n 0, 1) := by decide +kernel
theorem dX7_clear_16 : decode cX7_clear 16 = .ok (.iload_n 1, 1) := by decide +kernel
theorem dX7_clear_17 : decode cX7_clear 17 = .ok (.ifCond .eq 7, 3) := by decide +kernel
theorem dX7_clear_20 : decode cX7_clear 20 = .ok (.iconst 0, 1) := by decide +kernel
theorem dX7_clear_21 : decode cX7_clear 21 = .ok (.goto 7, 3) := by decide +kernel
theorem dX7_clear_24 : decode cX7_clear 24 = .ok (.aload_n 0, 1) := by decide +kernel
theorem dX7_clear_25 : decode cX7_clear 25 = .ok (.getfield 46, 3) := by decide +kernel
theorem dX7_clear_28 : decode cX7_clear 28 = .ok (.putfield 46, 3) := by decide +kernel
theorem dX7_clear_31 : decode cX7_clear 31 = .ok (.iload_n 2, 1) := by decide +kernel
theorem dX7_clear_32 : decode cX7_clear 32 = .ok (.ireturn, 1) := by decide +kernel
theorem dX7_ratio_0 : decode cX7_ratio 0 = .ok (.aload_n 0, 1) := by decide +kernel
theorem dX7_ratio_1 : decode cX7_ratio 1 = .ok (.iload_n 1, 1) := by decide +kernel
theorem dX7_ratio_2 : decode cX7_ratio 2 = .ok (.iconst 1, 1) := by decide +kernel
theorem dX7_ratio_3 : decode cX7_ratio 3 = .ok (.if_icmp .eq 13, 3) := by decide +kernel
theorem dX7_ratio_6 : decode cX7_ratio 6 = .ok (.iload_n 1, 1) := by decide +kernel
theorem dX7_ratio_7 : decode cX7_ratio 7 = .ok (.iconst 2, 1) := by decide +kernel
theorem dX7_ratio_8 : decode cX7_ratio 8 = .ok (.if_icmp .eq 8, 3) := by decide +kernel
theorem dX7_ratio_11 : decode cX7_ratio 11 = .ok (.iload_n 1, 1) := by decide +kernel
theorem dX7_ratio_12 : decode cX7_ratio 12 = .ok (.iconst 4, 1) := by decide +kernel
theorem dX7_ratio_13 : decode cX7_ratio 13 = .ok (.if_icmp .ne 7, 3) := by decide +kernel
theorem dX7_ratio_16 : decode cX7_ratio 16 = .ok (.iconst 0, 1) := by decide +kernel
theorem dX7_ratio_17 : decode cX7_ratio 17 = .ok (.goto 4, 3) := by decide +kernel
theorem dX7_ratio_20 : decode cX7_ratio 20 = .ok (.iconst 1, 1) := by decide +kernel
theorem dX7_ratio_21 : decode cX7_ratio 21 = .ok (.invokevirtual 125, 3) := by decide +kernel
theorem dX7_ratio_24 : decode cX7_ratio 24 = .ok (.ifCond .ne 5, 3) := by decide +kernel
theorem dX7_ratio_27 : decode cX7_ratio 27 = .ok (.iconst 0, 1) := by decide +kernel
theorem dX7_ratio_28 : decode cX7_ratio 28 = .ok (.ireturn, 1) := by decide +kernel
theorem dX7_ratio_29 : decode cX7_ratio 29 = .ok (.aload_n 0, 1) := by decide +kernel
theorem dX7_ratio_30 : decode cX7_ratio 30 = .ok (.getfield 16, 3) := by decide +kernel
theorem dX7_ratio_33 : decode cX7_ratio 33 = .ok (.istore_n 2, 1) := by decide +kernel
theorem dX7_ratio_34 : decode cX7_ratio 34 = .ok (.aload_n 0, 1) := by decide +kernel
theorem dX7_ratio_35 : decode cX7_ratio 35 = .ok (.iload_n 1, 1) := by decide +kernel
theorem dX7_ratio_36 : decode cX7_ratio 36 = .ok (.putfield 16, 3) := by decide +kernel
theorem dX7_ratio_39 : decode cX7_ratio 39 = .ok (.aload_n 0, 1) := by decide +kernel
theorem dX7_ratio_40 : decode cX7_ratio 40 = .ok (.iconst 0, 1) := by decide +kernel
theorem dX7_ratio_41 : decode cX7_ratio 41 = .ok (.putfield 49, 3) := by decide +kernel
theorem dX7_ratio_44 : decode cX7_ratio 44 = .ok (.iload_n 2, 1) := by decide +kernel
theorem dX7_ratio_45 : decode cX7_ratio 45 = .ok (.ireturn, 1) := by decide +kernel
theorem dX7_lower_0 : decode cX7_lower 0 = .ok (.aload_n 0, 1) := by decide +kernel
theorem dX7_lower_1 : decode cX7_lower 1 = .ok (.iconst 0, 1) := by decide +kernel
theorem dX7_lower_2 : decode cX7_lower 2 = .ok (.putfield 40, 3) := by decide +kernel
theorem dX7_lower_5 : decode cX7_lower 5 = .ok (.aload_n 0, 1) := by decide +kernel
theorem dX7_lower_6 : decode cX7_lower 6 = .ok (.getfield 104, 3) := by decide +kernel
theorem dX7_lower_9 : decode cX7_lower 9 = .ok (.istore_n 2, 1) := by decide +kernel
theorem dX7_lower_10 : decode cX7_lower 10 = .ok (.aload_n 0, 1) := by decide +kernel
theorem dX7_lower_11 : decode cX7_lower 11 = .ok (.iload_n 1, 1) := by decide +kernel
theorem dX7_lower_12 : decode cX7_lower 12 = .ok (.putfield 104, 3) := by decide +kernel
theorem dX7_lower_15 : decode cX7_lower 15 = .ok (.iload_n 2, 1) := by decide +kernel
theorem dX7_lower_16 : decode cX7_lower 16 = .ok (.ireturn, 1) := by decide +kernel
theorem dX7_feign_0 : decode cX7_feign 0 = .ok (.aload_n 0, 1) := by decide +kernel
theorem dX7_feign_1 : decode cX7_feign 1 = .ok (.iconst 0, 1) := by decide +kernel
theorem dX7_feign_2 : decode cX7_feign 2 = .ok (.putfield 40, 3) := by decide +kernel
theorem dX7_feign_5 : decode cX7_feign 5 = .ok (.aload_n 0, 1) := by decide +kernel
theorem dX7_feign_6 : decode cX7_feign 6 = .ok (.getfield 56, 3) := by decide +kernel
theorem dX7_feign_9 : decode cX7_feign 9 = .ok (.istore_n 2, 1) := by decide +kernel
theorem dX7_feign_10 : decode cX7_feign 10 = .ok (.aload_n 0, 1) := by decide +kernel
theorem dX7_feign_11 : decode cX7_feign 11 = .ok (.iload_n 1, 1) := by decide +kernel
theorem dX7_feign_12 : decode cX7_feign 12 = .ok (.putfield 56, 3) := by decide +kernel
theorem dX7_feign_15 : decode cX7_feign 15 = .ok (.iload_n 2, 1) := by decide +kernel
theorem dX7_feign_16 : decode cX7_feign 16 = .ok (.ireturn, 1) := by decide +kernel
theorem dX7_notes_0 : decode cX7_notes 0 = .ok (.aload_n 0, 1) := by decide +kernel
theorem dX7_notes_1 : decode cX7_notes 1 = .ok (.iconst 0, 1) := by decide +kernel
theorem dX7_notes_2 : decode cX7_notes 2 = .ok (.putfield 40, 3) := by decide +kernel
theorem dX7_notes_5 : decode cX7_notes 5 = .ok (.aload_n 0, 1) := by decide +kernel
theorem dX7_notes_6 : decode cX7_notes 6 = .ok (.getfield 49, 3) := by decide +kernel
theorem dX7_notes_9 : decode cX7_notes 9 = .ok (.ireturn, 1) := by decide +kernel
theorem dX7_noteAt_0 : decode cX7_noteAt 0 = .ok (.aload_n 0, 1) := by decide +kernel
theorem dX7_noteAt_1 : decode cX7_noteAt 1 = .ok (.aload_n 0, 1) := by decide +kernel
theorem dX7_noteAt_2 : decode cX7_noteAt 2 = .ok (.iload_n 1, 1) := by decide +kernel
theorem dX7_noteAt_3 : decode cX7_noteAt 3 = .ok (.invokevirtual 128, 3) := by decide +kernel
theorem dX7_noteAt_6 : decode cX7_noteAt 6 = .ok (.ifCond .eq 7, 3) := by decide +kernel
theorem dX7_noteAt_9 : decode cX7_noteAt 9 = .ok (.iconst 0, 1) := by decide +kernel
theorem dX7_noteAt_10 : decode cX7_noteAt 10 = .ok (.goto 4, 3) := by decide +kernel
theorem dX7_noteAt_13 : decode cX7_noteAt 13 = .ok (.iconst 1, 1) := by decide +kernel
theorem dX7_noteAt_14 : decode cX7_noteAt 14 = .ok (.invokevirtual 125, 3) := by decide +kernel
theorem dX7_noteAt_17 : decode cX7_noteAt 17 = .ok (.ifCond .eq 12, 3) := by decide +kernel
theorem dX7_noteAt_20 : decode cX7_noteAt 20 = .ok (.aload_n 0, 1) := by decide +kernel
theorem dX7_noteAt_21 : decode cX7_noteAt 21 = .ok (.getfield 13, 3) := by decide +kernel
theorem dX7_noteAt_24 : decode cX7_noteAt 24 = .ok (.iload_n 1, 1) := by decide +kernel
theorem dX7_noteAt_25 : decode cX7_noteAt 25 = .ok (.iaload, 1) := by decide +kernel
theorem dX7_noteAt_26 : decode cX7_noteAt 26 = .ok (.goto 4, 3) := by decide +kernel
theorem dX7_noteAt_29 : decode cX7_noteAt 29 = .ok (.iconst 0, 1) := by decide +kernel
theorem dX7_noteAt_30 : decode cX7_noteAt 30 = .ok (.ireturn, 1) := by decide +kernel
theorem dX7_pitch_0 : decode cX7_pitch 0 = .ok (.aload_n 0, 1) := by decide +kernel
theorem dX7_pitch_1 : decode cX7_pitch 1 = .ok (.aload_n 0, 1) := by decide +kernel
theorem dX7_pitch_2 : decode cX7_pitch 2 = .ok (.iload_n 1, 1) := by decide +kernel
theorem dX7_pitch_3 : decode cX7_pitch 3 = .ok (.invokevirtual 128, 3) := by decide +kernel
theorem dX7_pitch_6 : decode cX7_pitch 6 = .ok (.ifCond .eq 7, 3) := by decide +kernel
theorem dX7_pitch_9 : decode cX7_pitch 9 = .ok (.iconst 0, 1) := by decide +kernel
theorem dX7_pitch_10 : decode cX7_pitch 10 = .ok (.goto 4, 3) := by decide +kernel
theorem dX7_pitch_13 : decode cX7_pitch 13 = .ok (.iconst 1, 1) := by decide +kernel
theorem dX7_pitch_14 : decode cX7_pitch 14 = .ok (.invokevirtual 125, 3) := by decide +kernel
theorem dX7_pitch_17 : decode cX7_pitch 17 = .ok (.ifCond .eq 15, 3) := by decide +kernel
theorem dX7_pitch_20 : decode cX7_pitch 20 = .ok (.aload_n 0, 1) := by decide +kernel
theorem dX7_pitch_21 : decode cX7_pitch 21 = .ok (.iload_n 1, 1) := by decide +kernel
theorem dX7_pitch_22 : decode cX7_pitch 22 = .ok (.aload_n 0, 1) := by decide +kernel
theorem dX7_pitch_23 : decode cX7_pitch 23 = .ok (.getfield 49, 3) := by decide +kernel
theorem dX7_pitch_26 : decode cX7_pitch 26 = .ok (.invokevirtual 73, 3) := by decide +kernel
theorem dX7_pitch_29 : decode cX7_pitch 29 = .ok (.goto 4, 3) := by decide +kernel
theorem dX7_pitch_32 : decode cX7_pitch 32 = .ok (.iconst 0, 1) := by decide +kernel
theorem dX7_pitch_33 : decode cX7_pitch 33 = .ok (.ireturn, 1) := by decide +kernel
theorem dX7_interval_0 : decode cX7_interval 0 = .ok (.aload_n 0, 1) := by decide +kernel
theorem dX7_interval_1 : decode cX7_interval 1 = .ok (.aload_n 0, 1) := by decide +kernel
theorem dX7_interval_2 : decode cX7_interval 2 = .ok (.iload_n 1, 1) := by decide +kernel
theorem dX7_interval_3 : decode cX7_interval 3 = .ok (.invokevirtual 128, 3) := by decide +kernel
theorem dX7_interval_6 : decode cX7_interval 6 = .ok (.ifCond .eq 7, 3) := by decide +kernel
theorem dX7_interval_9 : decode cX7_interval 9 = .ok (.iconst 0, 1) := by decide +kernel
theorem dX7_interval_10 : decode cX7_interval 10 = .ok (.goto 4, 3) := by decide +kernel
theorem dX7_interval_13 : decode cX7_interval 13 = .ok (.iconst 1, 1) := by decide +kernel
theorem dX7_interval_14 : decode cX7_interval 14 = .ok (.invokevirtual 125, 3) := by decide +kernel
theorem dX7_interval_17 : decode cX7_interval 17 = .ok (.ifCond .ne 5, 3) := by decide +kernel
theorem dX7_interval_20 : decode cX7_interval 20 = .ok (.iconst 0, 1) := by decide +kernel
theorem dX7_interval_21 : decode cX7_interval 21 = .ok (.ireturn, 1) := by decide +kernel
theorem dX7_interval_22 : decode cX7_interval 22 = .ok (.aload_n 0, 1) := by decide +kernel
theorem dX7_interval_23 : decode cX7_interval 23 = .ok (.iload_n 1, 1) := by decide +kernel
theorem dX7_interval_24 : decode cX7_interval 24 = .ok (.aload_n 0, 1) := by decide +kernel
theorem dX7_interval_25 : decode cX7_interval 25 = .ok (.getfield 49, 3) := by decide +kernel
theorem dX7_interval_28 : decode cX7_interval 28 = .ok (.invokevirtual 84, 3) := by decide +kernel
theorem dX7_interval_31 : decode cX7_interval 31 = .ok (.istore_n 2, 1) := by decide +kernel
theorem dX7_interval_32 : decode cX7_interval 32 = .ok (.iload_n 2, 1) := by decide +kernel
theorem dX7_interval_33 : decode cX7_interval 33 = .ok (.ifCond .ne 8, 3) := by decide +kernel
theorem dX7_interval_36 : decode cX7_interval 36 = .ok (.bipush 117, 2) := by decide +kernel
theorem dX7_interval_38 : decode cX7_interval 38 = .ok (.goto 25, 3) := by decide +kernel
theorem dX7_interval_41 : decode cX7_interval 41 = .ok (.iload_n 2, 1) := by decide +kernel
theorem dX7_interval_42 : decode cX7_interval 42 = .ok (.iconst 1, 1) := by decide +kernel
theorem dX7_interval_43 : decode cX7_interval 43 = .ok (.if_icmp .ne 8, 3) := by decide +kernel
theorem dX7_interval_46 : decode cX7_interval 46 = .ok (.bipush 102, 2) := by decide +kernel
theorem dX7_interval_48 : decode cX7_interval 48 = .ok (.goto 15, 3) := by decide +kernel
theorem dX7_interval_51 : decode cX7_interval 51 = .ok (.iload_n 2, 1) := by decide +kernel
theorem dX7_interval_52 : decode cX7_interval 52 = .ok (.iconst 2, 1) := by decide +kernel
theorem dX7_interval_53 : decode cX7_interval 53 = .ok (.if_icmp .ne 8, 3) := by decide +kernel
theorem dX7_interval_56 : decode cX7_interval 56 = .ok (.bipush 105, 2) := by decide +kernel
theorem dX7_interval_58 : decode cX7_interval 58 = .ok (.goto 5, 3) := by decide +kernel
theorem dX7_interval_61 : decode cX7_interval 61 = .ok (.bipush 100, 2) := by decide +kernel
theorem dX7_interval_63 : decode cX7_interval 63 = .ok (.ireturn, 1) := by decide +kernel
theorem dX7_setLaw_0 : decode cX7_setLaw 0 = .ok (.iload_n 1, 1) := by decide +kernel
theorem dX7_setLaw_1 : decode cX7_setLaw 1 = .ok (.invokestatic 131, 3) := by decide +kernel
theorem dX7_setLaw_4 : decode cX7_setLaw 4 = .ok (.istore_n 3, 1) := by decide +kernel
theorem dX7_setLaw_5 : decode cX7_setLaw 5 = .ok (.aload_n 0, 1) := by decide +kernel
theorem dX7_setLaw_6 : decode cX7_setLaw 6 = .ok (.iload_n 3, 1) := by decide +kernel
theorem dX7_setLaw_7 : decode cX7_setLaw 7 = .ok (.iconst (-1), 1) := by decide +kernel
theorem dX7_setLaw_8 : decode cX7_setLaw 8 = .ok (.if_icmp .eq 17, 3) := by decide +kernel
theorem dX7_setLaw_11 : decode cX7_setLaw 11 = .ok (.iload_n 2, 1) := by decide +kernel
theorem dX7_setLaw_12 : decode cX7_setLaw 12 = .ok (.iconst 0, 1) := by decide +kernel
theorem dX7_setLaw_13 : decode cX7_setLaw 13 = .ok (.bipush 10, 2) := by decide +kernel
theorem dX7_setLaw_15 : decode cX7_setLaw 15 = .ok (.invokestatic 66, 3) := by decide +kernel
theorem dX7_setLaw_18 : decode cX7_setLaw 18 = .ok (.ifCond .eq 7, 3) := by decide +kernel
theorem dX7_setLaw_21 : decode cX7_setLaw 21 = .ok (.iconst 0, 1) := by decide +kernel
theorem dX7_setLaw_22 : decode cX7_setLaw 22 = .ok (.goto 4, 3) := by decide +kernel
theorem dX7_setLaw_25 : decode cX7_setLaw 25 = .ok (.iconst 1, 1) := by decide +kernel
theorem dX7_setLaw_26 : decode cX7_setLaw 26 = .ok (.invokevirtual 125, 3) := by decide +kernel
theorem dX7_setLaw_29 : decode cX7_setLaw 29 = .ok (.ifCond .ne 5, 3) := by decide +kernel
theorem dX7_setLaw_32 : decode cX7_setLaw 32 = .ok (.iconst 0, 1) := by decide +kernel
theorem dX7_setLaw_33 : decode cX7_setLaw 33 = .ok (.ireturn, 1) := by decide +kernel
theorem dX7_setLaw_34 : decode cX7_setLaw 34 = .ok (.aload_n 0, 1) := by decide +kernel
theorem dX7_setLaw_35 : decode cX7_setLaw 35 = .ok (.getfield 26, 3) := by decide +kernel
theorem dX7_setLaw_38 : decode cX7_setLaw 38 = .ok (.iload_n 3, 1) := by decide +kernel
theorem dX7_setLaw_39 : decode cX7_setLaw 39 = .ok (.iaload, 1) := by decide +kernel
theorem dX7_setLaw_40 : decode cX7_setLaw 40 = .ok (.istore 4, 2) := by decide +kernel
theorem dX7_setLaw_42 : decode cX7_setLaw 42 = .ok (.aload_n 0, 1) := by decide +kernel
theorem dX7_setLaw_43 : decode cX7_setLaw 43 = .ok (.getfield 26, 3) := by decide +kernel
theorem dX7_setLaw_46 : decode cX7_setLaw 46 = .ok (.iload_n 3, 1) := by decide +kernel
theorem dX7_setLaw_47 : decode cX7_setLaw 47 = .ok (.iload_n 2, 1) := by decide +kernel
theorem dX7_setLaw_48 : decode cX7_setLaw 48 = .ok (.iastore, 1) := by decide +kernel
theorem dX7_setLaw_49 : decode cX7_setLaw 49 = .ok (.iload 4, 2) := by decide +kernel
theorem dX7_setLaw_51 : decode cX7_setLaw 51 = .ok (.ireturn, 1) := by decide +kernel
theorem dX7_weight_0 : decode cX7_weight 0 = .ok (.iload_n 1, 1) := by decide +kernel
theorem dX7_weight_1 : decode cX7_weight 1 = .ok (.invokestatic 131, 3) := by decide +kernel
theorem dX7_weight_4 : decode cX7_weight 4 = .ok (.istore_n 2, 1) := by decide +kernel
theorem dX7_weight_5 : decode cX7_weight 5 = .ok (.aload_n 0, 1) := by decide +kernel
theorem dX7_weight_6 : decode cX7_weight 6 = .ok (.iload_n 2, 1) := by decide +kernel
theorem dX7_weight_7 : decode cX7_weight 7 = .ok (.iconst (-1), 1) := by decide +kernel
theorem dX7_weight_8 : decode cX7_weight 8 = .ok (.if_icmp .eq 7, 3) := by decide +kernel
theorem dX7_weight_11 : decode cX7_weight 11 = .ok (.iconst 0, 1) := by decide +kernel
theorem dX7_weight_12 : decode cX7_weight 12 = .ok (.goto 4, 3) := by decide +kernel
theorem dX7_weight_15 : decode cX7_weight 15 = .ok (.iconst 1, 1) := by decide +kernel
theorem dX7_weight_16 : decode cX7_weight 16 = .ok (.invokevirtual 125, 3) := by decide +kernel
theorem dX7_weight_19 : decode cX7_weight 19 = .ok (.ifCond .eq 12, 3) := by decide +kernel
theorem dX7_weight_22 : decode cX7_weight 22 = .ok (.aload_n 0, 1) := by decide +kernel
theorem dX7_weight_23 : decode cX7_weight 23 = .ok (.getfield 26, 3) := by decide +kernel
theorem dX7_weight_26 : decode cX7_weight 26 = .ok (.iload_n 2, 1) := by decide +kernel
theorem dX7_weight_27 : decode cX7_weight 27 = .ok (.iaload, 1) := by decide +kernel
theorem dX7_weight_28 : decode cX7_weight 28 = .ok (.goto 4, 3) := by decide +kernel
theorem dX7_weight_31 : decode cX7_weight 31 = .ok (.iconst 0, 1) := by decide +kernel
theorem dX7_weight_32 : decode cX7_weight 32 = .ok (.ireturn, 1) := by decide +kernel
theorem dX7_styled_0 : decode cX7_styled 0 = .ok (.iload_n 0, 1) := by decide +kernel
theorem dX7_styled_1 : decode cX7_styled 1 = .ok (.ifCond .ne 55, 3) := by decide +kernel
theorem dX7_styled_4 : decode cX7_styled 4 = .ok (.iload_n 1, 1) := by decide +kernel
theorem dX7_styled_5 : decode cX7_styled 5 = .ok (.iconst 5, 1) := by decide +kernel
theorem dX7_styled_6 : decode cX7_styled 6 = .ok (.if_icmp .ne 7, 3) := by decide +kernel
theorem dX7_styled_9 : decode cX7_styled 9 = .ok (.iconst 5, 1) := by decide +kernel
theorem dX7_styled_10 : decode cX7_styled 10 = .ok (.goto 45, 3) := by decide +kernel
theorem dX7_styled_13 : decode cX7_styled 13 = .ok (.iload_n 1, 1) := by decide +kernel
theorem dX7_styled_14 : decode cX7_styled 14 = .ok (.bipush 6, 2) := by decide +kernel
theorem dX7_styled_16 : decode cX7_styled 16 = .ok (.if_icmp .ne 7, 3) := by decide +kernel
theorem dX7_styled_19 : decode cX7_styled 19 = .ok (.iconst 3, 1) := by decide +kernel
theorem dX7_styled_20 : decode cX7_styled 20 = .ok (.goto 35, 3) := by decide +kernel
theorem dX7_styled_23 : decode cX7_styled 23 = .ok (.iload_n 1, 1) := by decide +kernel
theorem dX7_styled_24 : decode cX7_styled 24 = .ok (.bipush 8, 2) := by decide +kernel
theorem dX7_styled_26 : decode cX7_styled 26 = .ok (.if_icmp .ne 7, 3) := by decide +kernel
theorem dX7_styled_29 : decode cX7_styled 29 = .ok (.iconst 2, 1) := by decide +kernel
theorem dX7_styled_30 : decode cX7_styled 30 = .ok (.goto 25, 3) := by decide +kernel
theorem dX7_styled_33 : decode cX7_styled 33 = .ok (.iload_n 1, 1) := by decide +kernel
theorem dX7_styled_34 : decode cX7_styled 34 = .ok (.bipush 9, 2) := by decide +kernel
theorem dX7_styled_36 : decode cX7_styled 36 = .ok (.if_icmp .ne 7, 3) := by decide +kernel
theorem dX7_styled_39 : decode cX7_styled 39 = .ok (.iconst 1, 1) := by decide +kernel
theorem dX7_styled_40 : decode cX7_styled 40 = .ok (.goto 15, 3) := by decide +kernel
theorem dX7_styled_43 : decode cX7_styled 43 = .ok (.iload_n 1, 1) := by decide +kernel
theorem dX7_styled_44 : decode cX7_styled 44 = .ok (.bipush 11, 2) := by decide +kernel
theorem dX7_styled_46 : decode cX7_styled 46 = .ok (.if_icmp .ne 7, 3) := by decide +kernel
theorem dX7_styled_49 : decode cX7_styled 49 = .ok (.iconst 4, 1) := by decide +kernel
theorem dX7_styled_50 : decode cX7_styled 50 = .ok (.goto 5, 3) := by decide +kernel
theorem dX7_styled_53 : decode cX7_styled 53 = .ok (.bipush 10, 2) := by decide +kernel
theorem dX7_styled_55 : decode cX7_styled 55 = .ok (.ireturn, 1) := by decide +kernel
theorem dX7_styled_56 : decode cX7_styled 56 = .ok (.iload_n 1, 1) := by decide +kernel
theorem dX7_styled_57 : decode cX7_styled 57 = .ok (.ifCond .eq 32, 3) := by decide +kernel
theorem dX7_styled_60 : decode cX7_styled 60 = .ok (.iload_n 1, 1) := by decide +kernel
theorem dX7_styled_61 : decode cX7_styled 61 = .ok (.iconst 5, 1) := by decide +kernel
theorem dX7_styled_62 : decode cX7_styled 62 = .ok (.if_icmp .eq 27, 3) := by decide +kernel
theorem dX7_styled_65 : decode cX7_styled 65 = .ok (.iload_n 1, 1) := by decide +kernel
theorem dX7_styled_66 : decode cX7_styled 66 = .ok (.bipush 6, 2) := by decide +kernel
theorem dX7_styled_68 : decode cX7_styled 68 = .ok (.if_icmp .eq 21, 3) := by decide +kernel
theorem dX7_styled_71 : decode cX7_styled 71 = .ok (.iload_n 1, 1) := by decide +kernel
theorem dX7_styled_72 : decode cX7_styled 72 = .ok (.bipush 8, 2) := by decide +kernel
theorem dX7_styled_74 : decode cX7_styled 74 = .ok (.if_icmp .eq 15, 3) := by decide +kernel
theorem dX7_styled_77 : decode cX7_styled 77 = .ok (.iload_n 1, 1) := by decide +kernel
theorem dX7_styled_78 : decode cX7_styled 78 = .ok (.bipush 9, 2) := by decide +kernel
theorem dX7_styled_80 : decode cX7_styled 80 = .ok (.if_icmp .eq 9, 3) := by decide +kernel
theorem dX7_styled_83 : decode cX7_styled 83 = .ok (.iload_n 1, 1) := by decide +kernel
theorem dX7_styled_84 : decode cX7_styled 84 = .ok (.bipush 11, 2) := by decide +kernel
theorem dX7_styled_86 : decode cX7_styled 86 = .ok (.if_icmp .ne 7, 3) := by decide +kernel
theorem dX7_styled_89 : decode cX7_styled 89 = .ok (.iconst 1, 1) := by decide +kernel
theorem dX7_styled_90 : decode cX7_styled 90 = .ok (.goto 4, 3) := by decide +kernel
theorem dX7_styled_93 : decode cX7_styled 93 = .ok (.iconst 0, 1) := by decide +kernel
theorem dX7_styled_94 : decode cX7_styled 94 = .ok (.istore_n 2, 1) := by decide +kernel
theorem dX7_styled_95 : decode cX7_styled 95 = .ok (.iload_n 0, 1) := by decide +kernel
theorem dX7_styled_96 : decode cX7_styled 96 = .ok (.iconst 1, 1) := by decide +kernel
theorem dX7_styled_97 : decode cX7_styled 97 = .ok (.if_icmp .ne 8, 3) := by decide +kernel
theorem dX7_styled_100 : decode cX7_styled 100 = .ok (.bipush 10, 2) := by decide +kernel
theorem dX7_styled_102 : decode cX7_styled 102 = .ok (.goto 23, 3) := by decide +kernel
theorem dX7_styled_105 : decode cX7_styled 105 = .ok (.iload_n 2, 1) := by decide +kernel
theorem dX7_styled_106 : decode cX7_styled 106 = .ok (.ifCond .eq 7, 3) := by decide +kernel
theorem dX7_styled_109 : decode cX7_styled 109 = .ok (.iconst 0, 1) := by decide +kernel
theorem dX7_styled_110 : decode cX7_styled 110 = .ok (.goto 15, 3) := by decide +kernel
theorem dX7_styled_113 : decode cX7_styled 113 = .ok (.iload_n 1, 1) := by decide +kernel
theorem dX7_styled_114 : decode cX7_styled 114 = .ok (.bipush 10, 2) := by decide +kernel
theorem dX7_styled_116 : decode cX7_styled 116 = .ok (.if_icmp .ne 7, 3) := by decide +kernel
theorem dX7_styled_119 : decode cX7_styled 119 = .ok (.iconst 3, 1) := by decide +kernel
theorem dX7_styled_120 : decode cX7_styled 120 = .ok (.goto 5, 3) := by decide +kernel
theorem dX7_styled_123 : decode cX7_styled 123 = .ok (.bipush 10, 2) := by decide +kernel
theorem dX7_styled_125 : decode cX7_styled 125 = .ok (.ireturn, 1) := by decide +kernel
theorem dX7_style_0 : decode cX7_style 0 = .ok (.aload_n 0, 1) := by decide +kernel
theorem dX7_style_1 : decode cX7_style 1 = .ok (.iload_n 1, 1) := by decide +kernel
theorem dX7_style_2 : decode cX7_style 2 = .ok (.iconst 0, 1) := by decide +kernel
theorem dX7_style_3 : decode cX7_style 3 = .ok (.iconst 2, 1) := by decide +kernel
theorem dX7_style_4 : decode cX7_style 4 = .ok (.invokestatic 66, 3) := by decide +kernel
theorem dX7_style_7 : decode cX7_style 7 = .ok (.ifCond .eq 7, 3) := by decide +kernel
theorem dX7_style_10 : decode cX7_style 10 = .ok (.iconst 0, 1) := by decide +kernel
theorem dX7_style_11 : decode cX7_style 11 = .ok (.goto 4, 3) := by decide +kernel
theorem dX7_style_14 : decode cX7_style 14 = .ok (.iconst 1, 1) := by decide +kernel
theorem dX7_style_15 : decode cX7_style 15 = .ok (.invokevirtual 125, 3) := by decide +kernel
theorem dX7_style_18 : decode cX7_style 18 = .ok (.ifCond .ne 5, 3) := by decide +kernel
theorem dX7_style_21 : decode cX7_style 21 = .ok (.iconst 0, 1) := by decide +kernel
theorem dX7_style_22 : decode cX7_style 22 = .ok (.ireturn, 1) := by decide +kernel
theorem dX7_style_23 : decode cX7_style 23 = .ok (.iconst 0, 1) := by decide +kernel
theorem dX7_style_24 : decode cX7_style 24 = .ok (.istore_n 2, 1) := by decide +kernel
theorem dX7_style_25 : decode cX7_style 25 = .ok (.iconst 0, 1) := by decide +kernel
theorem dX7_style_26 : decode cX7_style 26 = .ok (.istore_n 3, 1) := by decide +kernel
theorem dX7_style_27 : decode cX7_style 27 = .ok (.iload_n 3, 1) := by decide +kernel
theorem dX7_style_28 : decode cX7_style 28 = .ok (.bipush 12, 2) := by decide +kernel
theorem dX7_style_30 : decode cX7_style 30 = .ok (.if_icmp .ge 42, 3) := by decide +kernel
theorem dX7_style_33 : decode cX7_style 33 = .ok (.iload_n 2, 1) := by decide +kernel
theorem dX7_style_34 : decode cX7_style 34 = .ok (.aload_n 0, 1) := by decide +kernel
theorem dX7_style_35 : decode cX7_style 35 = .ok (.getfield 26, 3) := by decide +kernel
theorem dX7_style_38 : decode cX7_style 38 = .ok (.iload_n 3, 1) := by decide +kernel
theorem dX7_style_39 : decode cX7_style 39 = .ok (.iaload, 1) := by decide +kernel
theorem dX7_style_40 : decode cX7_style 40 = .ok (.iload_n 1, 1) := by decide +kernel
theorem dX7_style_41 : decode cX7_style 41 = .ok (.iload_n 3, 1) := by decide +kernel
theorem dX7_style_42 : decode cX7_style 42 = .ok (.invokestatic 135, 3) := by decide +kernel
theorem dX7_style_45 : decode cX7_style 45 = .ok (.if_icmp .ne 7, 3) := by decide +kernel
theorem dX7_style_48 : decode cX7_style 48 = .ok (.iconst 0, 1) := by decide +kernel
theorem dX7_style_49 : decode cX7_style 49 = .ok (.goto 4, 3) := by decide +kernel
theorem dX7_style_52 : decode cX7_style 52 = .ok (.iconst 1, 1) := by decide +kernel
theorem dX7_style_53 : decode cX7_style 53 = .ok (.iadd, 1) := by decide +kernel
theorem dX7_style_54 : decode cX7_style 54 = .ok (.istore_n 2, 1) := by decide +kernel
theorem dX7_style_55 : decode cX7_style 55 = .ok (.aload_n 0, 1) := by decide +kernel
theorem dX7_style_56 : decode cX7_style 56 = .ok (.getfield 26, 3) := by decide +kernel
theorem dX7_style_59 : decode cX7_style 59 = .ok (.iload_n 3, 1) := by decide +kernel
theorem dX7_style_60 : decode cX7_style 60 = .ok (.iload_n 1, 1) := by decide +kernel
theorem dX7_style_61 : decode cX7_style 61 = .ok (.iload_n 3, 1) := by decide +kernel
theorem dX7_style_62 : decode cX7_style 62 = .ok (.invokestatic 135, 3) := by decide +kernel
theorem dX7_style_65 : decode cX7_style 65 = .ok (.iastore, 1) := by decide +kernel
theorem dX7_style_66 : decode cX7_style 66 = .ok (.iinc 3 1, 3) := by decide +kernel
theorem dX7_style_69 : decode cX7_style 69 = .ok (.goto (-42), 3) := by decide +kernel
theorem dX7_style_72 : decode cX7_style 72 = .ok (.iload_n 2, 1) := by decide +kernel
theorem dX7_style_73 : decode cX7_style 73 = .ok (.ireturn, 1) := by decide +kernel
theorem dX7_faultsUpTo_0 : decode cX7_faultsUpTo 0 = .ok (.iconst 0, 1) := by decide +kernel
theorem dX7_faultsUpTo_1 : decode cX7_faultsUpTo 1 = .ok (.istore_n 2, 1) := by decide +kernel
theorem dX7_faultsUpTo_2 : decode cX7_faultsUpTo 2 = .ok (.iconst 0, 1) := by decide +kernel
theorem dX7_faultsUpTo_3 : decode cX7_faultsUpTo 3 = .ok (.istore_n 3, 1) := by decide +kernel
theorem dX7_faultsUpTo_4 : decode cX7_faultsUpTo 4 = .ok (.iload_n 3, 1) := by decide +kernel
theorem dX7_faultsUpTo_5 : decode cX7_faultsUpTo 5 = .ok (.aload_n 0, 1) := by decide +kernel
theorem dX7_faultsUpTo_6 : decode cX7_faultsUpTo 6 = .ok (.getfield 49, 3) := by decide +kernel
theorem dX7_faultsUpTo_9 : decode cX7_faultsUpTo 9 = .ok (.if_icmp .ge 65, 3) := by decide +kernel
theorem dX7_faultsUpTo_12 : decode cX7_faultsUpTo 12 = .ok (.iconst 0, 1) := by decide +kernel
theorem dX7_faultsUpTo_13 : decode cX7_faultsUpTo 13 = .ok (.istore 4, 2) := by decide +kernel
theorem dX7_faultsUpTo_15 : decode cX7_faultsUpTo 15 = .ok (.iload 4, 2) := by decide +kernel
theorem dX7_faultsUpTo_17 : decode cX7_faultsUpTo 17 = .ok (.bipush 12, 2) := by decide +kernel
theorem dX7_faultsUpTo_19 : decode cX7_faultsUpTo 19 = .ok (.if_icmp .ge 49, 3) := by decide +kernel
theorem dX7_faultsUpTo_22 : decode cX7_faultsUpTo 22 = .ok (.aload_n 0, 1) := by decide +kernel
theorem dX7_faultsUpTo_23 : decode cX7_faultsUpTo 23 = .ok (.getfield 26, 3) := by decide +kernel
theorem dX7_faultsUpTo_26 : decode cX7_faultsUpTo 26 = .ok (.iload 4, 2) := by decide +kernel
theorem dX7_faultsUpTo_28 : decode cX7_faultsUpTo 28 = .ok (.iaload, 1) := by decide +kernel
theorem dX7_faultsUpTo_29 : decode cX7_faultsUpTo 29 = .ok (.ifCond .le 33, 3) := by decide +kernel
theorem dX7_faultsUpTo_32 : decode cX7_faultsUpTo 32 = .ok (.aload_n 0, 1) := by decide +kernel
theorem dX7_faultsUpTo_33 : decode cX7_faultsUpTo 33 = .ok (.iload 4, 2) := by decide +kernel
theorem dX7_faultsUpTo_35 : decode cX7_faultsUpTo 35 = .ok (.iload_n 3, 1) := by decide +kernel
theorem dX7_faultsUpTo_36 : decode cX7_faultsUpTo 36 = .ok (.aload_n 0, 1) := by decide +kernel
theorem dX7_faultsUpTo_37 : decode cX7_faultsUpTo 37 = .ok (.getfield 49, 3) := by decide +kernel
theorem dX7_faultsUpTo_40 : decode cX7_faultsUpTo 40 = .ok (.invokevirtual 138, 3) := by decide +kernel
theorem dX7_faultsUpTo_43 : decode cX7_faultsUpTo 43 = .ok (.ifCond .eq 19, 3) := by decide +kernel
theorem dX7_faultsUpTo_46 : decode cX7_faultsUpTo 46 = .ok (.iload_n 2, 1) := by decide +kernel
theorem dX7_faultsUpTo_47 : decode cX7_faultsUpTo 47 = .ok (.iload_n 1, 1) := by decide +kernel
theorem dX7_faultsUpTo_48 : decode cX7_faultsUpTo 48 = .ok (.if_icmp .ne 11, 3) := by decide +kernel
theorem dX7_faultsUpTo_51 : decode cX7_faultsUpTo 51 = .ok (.bipush 100, 2) := by decide +kernel
theorem dX7_faultsUpTo_53 : decode cX7_faultsUpTo 53 = .ok (.iload_n 3, 1) := by decide +kernel
theorem dX7_faultsUpTo_54 : decode cX7_faultsUpTo 54 = .ok (.imul, 1) := by decide +kernel
theorem dX7_faultsUpTo_55 : decode cX7_faultsUpTo 55 = .ok (.iload 4, 2) := by decide +kernel
theorem dX7_faultsUpTo_57 : decode cX7_faultsUpTo 57 = .ok (.iadd, 1) := by decide +kernel
theorem dX7_faultsUpTo_58 : decode cX7_faultsUpTo 58 = .ok (.ireturn, 1) := by decide +kernel
theorem dX7_faultsUpTo_59 : decode cX7_faultsUpTo 59 = .ok (.iinc 2 1, 3) := by decide +kernel
theorem dX7_faultsUpTo_62 : decode cX7_faultsUpTo 62 = .ok (.iinc 4 1, 3) := by decide +kernel
theorem dX7_faultsUpTo_65 : decode cX7_faultsUpTo 65 = .ok (.goto (-50), 3) := by decide +kernel
theorem dX7_faultsUpTo_68 : decode cX7_faultsUpTo 68 = .ok (.iinc 3 1, 3) := by decide +kernel
theorem dX7_faultsUpTo_71 : decode cX7_faultsUpTo 71 = .ok (.goto (-67), 3) := by decide +kernel
theorem dX7_faultsUpTo_74 : decode cX7_faultsUpTo 74 = .ok (.iload_n 1, 1) := by decide +kernel
theorem dX7_faultsUpTo_75 : decode cX7_faultsUpTo 75 = .ok (.iconst (-1), 1) := by decide +kernel
theorem dX7_faultsUpTo_76 : decode cX7_faultsUpTo 76 = .ok (.if_icmp .ne 7, 3) := by decide +kernel
theorem dX7_faultsUpTo_79 : decode cX7_faultsUpTo 79 = .ok (.iload_n 2, 1) := by decide +kernel
theorem dX7_faultsUpTo_80 : decode cX7_faultsUpTo 80 = .ok (.goto 4, 3) := by decide +kernel
theorem dX7_faultsUpTo_83 : decode cX7_faultsUpTo 83 = .ok (.iconst (-1), 1) := by decide +kernel
theorem dX7_faultsUpTo_84 : decode cX7_faultsUpTo 84 = .ok (.ireturn, 1) := by decide +kernel
theorem dX7_faults_0 : decode cX7_faults 0 = .ok (.aload_n 0, 1) := by decide +kernel
theorem dX7_faults_1 : decode cX7_faults 1 = .ok (.iconst 0, 1) := by decide +kernel
theorem dX7_faults_2 : decode cX7_faults 2 = .ok (.putfield 40, 3) := by decide +kernel
theorem dX7_faults_5 : decode cX7_faults 5 = .ok (.aload_n 0, 1) := by decide +kernel
theorem dX7_faults_6 : decode cX7_faults 6 = .ok (.iconst (-1), 1) := by decide +kernel
theorem dX7_faults_7 : decode cX7_faults 7 = .ok (.invokevirtual 141, 3) := by decide +kernel
theorem dX7_faults_10 : decode cX7_faults 10 = .ok (.ireturn, 1) := by decide +kernel
theorem dX7_faultWith_0 : decode cX7_faultWith 0 = .ok (.iload_n 1, 1) := by decide +kernel
theorem dX7_faultWith_1 : decode cX7_faultWith 1 = .ok (.ifCond .ge 7, 3) := by decide +kernel
theorem dX7_faultWith_4 : decode cX7_faultWith 4 = .ok (.iconst (-1), 1) := by decide +kernel
theorem dX7_faultWith_5 : decode cX7_faultWith 5 = .ok (.goto 8, 3) := by decide +kernel
theorem dX7_faultWith_8 : decode cX7_faultWith 8 = .ok (.aload_n 0, 1) := by decide +kernel
theorem dX7_faultWith_9 : decode cX7_faultWith 9 = .ok (.iload_n 1, 1) := by decide +kernel
theorem dX7_faultWith_10 : decode cX7_faultWith 10 = .ok (.invokevirtual 141, 3) := by decide +kernel
theorem dX7_faultWith_13 : decode cX7_faultWith 13 = .ok (.istore_n 2, 1) := by decide +kernel
theorem dX7_faultWith_14 : decode cX7_faultWith 14 = .ok (.aload_n 0, 1) := by decide +kernel
theorem dX7_faultWith_15 : decode cX7_faultWith 15 = .ok (.iload_n 2, 1) := by decide +kernel
theorem dX7_faultWith_16 : decode cX7_faultWith 16 = .ok (.iconst (-1), 1) := by decide +kernel
theorem dX7_faultWith_17 : decode cX7_faultWith 17 = .ok (.if_icmp .ne 7, 3) := by decide +kernel
theorem dX7_faultWith_20 : decode cX7_faultWith 20 = .ok (.iconst 1, 1) := by decide +kernel
theorem dX7_faultWith_21 : decode cX7_faultWith 21 = .ok (.goto 4, 3) := by decide +kernel
theorem dX7_faultWith_24 : decode cX7_faultWith 24 = .ok (.iconst 0, 1) := by decide +kernel
theorem dX7_faultWith_25 : decode cX7_faultWith 25 = .ok (.putfield 40, 3) := by decide +kernel
theorem dX7_faultWith_28 : decode cX7_faultWith 28 = .ok (.iload_n 2, 1) := by decide +kernel
theorem dX7_faultWith_29 : decode cX7_faultWith 29 = .ok (.ireturn, 1) := by decide +kernel
theorem dX7_faultAt_0 : decode cX7_faultAt 0 = .ok (.aload_n 0, 1) := by decide +kernel
theorem dX7_faultAt_1 : decode cX7_faultAt 1 = .ok (.iload_n 1, 1) := by decide +kernel
theorem dX7_faultAt_2 : decode cX7_faultAt 2 = .ok (.invokevirtual 144, 3) := by decide +kernel
theorem dX7_faultAt_5 : decode cX7_faultAt 5 = .ok (.istore_n 2, 1) := by decide +kernel
theorem dX7_faultAt_6 : decode cX7_faultAt 6 = .ok (.iload_n 2, 1) := by decide +kernel
theorem dX7_faultAt_7 : decode cX7_faultAt 7 = .ok (.iconst (-1), 1) := by decide +kernel
theorem dX7_faultAt_8 : decode cX7_faultAt 8 = .ok (.if_icmp .ne 7, 3) := by decide +kernel
theorem dX7_faultAt_11 : decode cX7_faultAt 11 = .ok (.iconst 0, 1) := by decide +kernel
theorem dX7_faultAt_12 : decode cX7_faultAt 12 = .ok (.goto 7, 3) := by decide +kernel
theorem dX7_faultAt_15 : decode cX7_faultAt 15 = .ok (.iload_n 2, 1) := by decide +kernel
theorem dX7_faultAt_16 : decode cX7_faultAt 16 = .ok (.bipush 100, 2) := by decide +kernel
theorem dX7_faultAt_18 : decode cX7_faultAt 18 = .ok (.idiv, 1) := by decide +kernel
theorem dX7_faultAt_19 : decode cX7_faultAt 19 = .ok (.ireturn, 1) := by decide +kernel
theorem dX7_faultOf_0 : decode cX7_faultOf 0 = .ok (.aload_n 0, 1) := by decide +kernel
theorem dX7_faultOf_1 : decode cX7_faultOf 1 = .ok (.iload_n 1, 1) := by decide +kernel
theorem dX7_faultOf_2 : decode cX7_faultOf 2 = .ok (.invokevirtual 144, 3) := by decide +kernel
theorem dX7_faultOf_5 : decode cX7_faultOf 5 = .ok (.istore_n 2, 1) := by decide +kernel
theorem dX7_faultOf_6 : decode cX7_faultOf 6 = .ok (.iload_n 2, 1) := by decide +kernel
theorem dX7_faultOf_7 : decode cX7_faultOf 7 = .ok (.iconst (-1), 1) := by decide +kernel
theorem dX7_faultOf_8 : decode cX7_faultOf 8 = .ok (.if_icmp .ne 7, 3) := by decide +kernel
theorem dX7_faultOf_11 : decode cX7_faultOf 11 = .ok (.iconst 0, 1) := by decide +kernel
theorem dX7_faultOf_12 : decode cX7_faultOf 12 = .ok (.goto 10, 3) := by decide +kernel
theorem dX7_faultOf_15 : decode cX7_faultOf 15 = .ok (.iload_n 2, 1) := by decide +kernel
theorem dX7_faultOf_16 : decode cX7_faultOf 16 = .ok (.bipush 100, 2) := by decide +kernel
theorem dX7_faultOf_18 : decode cX7_faultOf 18 = .ok (.irem, 1) := by decide +kernel
theorem dX7_faultOf_19 : decode cX7_faultOf 19 = .ok (.invokestatic 80, 3) := by decide +kernel
theorem dX7_faultOf_22 : decode cX7_faultOf 22 = .ok (.ireturn, 1) := by decide +kernel
theorem dX7_costNow_0 : decode cX7_costNow 0 = .ok (.iconst 0, 1) := by decide +kernel
theorem dX7_costNow_1 : decode cX7_costNow 1 = .ok (.istore_n 1, 1) := by decide +kernel
theorem dX7_costNow_2 : decode cX7_costNow 2 = .ok (.iconst 0, 1) := by decide +kernel
theorem dX7_costNow_3 : decode cX7_costNow 3 = .ok (.istore_n 2, 1) := by decide +kernel
theorem dX7_costNow_4 : decode cX7_costNow 4 = .ok (.iload_n 2, 1) := by decide +kernel
theorem dX7_costNow_5 : decode cX7_costNow 5 = .ok (.aload_n 0, 1) := by decide +kernel
theorem dX7_costNow_6 : decode cX7_costNow 6 = .ok (.getfield 49, 3) := by decide +kernel
theorem dX7_costNow_9 : decode cX7_costNow 9 = .ok (.if_icmp .ge 49, 3) := by decide +kernel
theorem dX7_costNow_12 : decode cX7_costNow 12 = .ok (.iconst 0, 1) := by decide +kernel
theorem dX7_costNow_13 : decode cX7_costNow 13 = .ok (.istore_n 3, 1) := by decide +kernel
theorem dX7_costNow_14 : decode cX7_costNow 14 = .ok (.iload_n 3, 1) := by decide +kernel
theorem dX7_costNow_15 : decode cX7_costNow 15 = .ok (.bipush 12, 2) := by decide +kernel
theorem dX7_costNow_17 : decode cX7_costNow 17 = .ok (.if_icmp .ge 35, 3) := by decide +kernel
theorem dX7_costNow_20 : decode cX7_costNow 20 = .ok (.iload_n 1, 1) := by decide +kernel
theorem dX7_costNow_21 : decode cX7_costNow 21 = .ok (.aload_n 0, 1) := by decide +kernel
theorem dX7_costNow_22 : decode cX7_costNow 22 = .ok (.iload_n 3, 1) := by decide +kernel
theorem dX7_costNow_23 : decode cX7_costNow 23 = .ok (.iload_n 2, 1) := by decide +kernel
theorem dX7_costNow_24 : decode cX7_costNow 24 = .ok (.aload_n 0, 1) := by decide +kernel
theorem dX7_costNow_25 : decode cX7_costNow 25 = .ok (.getfield 49, 3) := by decide +kernel
theorem dX7_costNow_28 : decode cX7_costNow 28 = .ok (.invokevirtual 138, 3) := by decide +kernel
theorem dX7_costNow_31 : decode cX7_costNow 31 = .ok (.ifCond .eq 12, 3) := by decide +kernel
theorem dX7_costNow_34 : decode cX7_costNow 34 = .ok (.aload_n 0, 1) := by decide +kernel
theorem dX7_costNow_35 : decode cX7_costNow 35 = .ok (.getfield 26, 3) := by decide +kernel
theorem dX7_costNow_38 : decode cX7_costNow 38 = .ok (.iload_n 3, 1) := by decide +kernel
theorem dX7_costNow_39 : decode cX7_costNow 39 = .ok (.iaload, 1) := by decide +kernel
theorem dX7_costNow_40 : decode cX7_costNow 40 = .ok (.goto 4, 3) := by decide +kernel
theorem dX7_costNow_43 : decode cX7_costNow 43 = .ok (.iconst 0, 1) := by decide +kernel
theorem dX7_costNow_44 : decode cX7_costNow 44 = .ok (.iadd, 1) := by decide +kernel
theorem dX7_costNow_45 : decode cX7_costNow 45 = .ok (.istore_n 1, 1) := by decide +kernel
theorem dX7_costNow_46 : decode cX7_costNow 46 = .ok (.iinc 3 1, 3) := by decide +kernel
theorem dX7_costNow_49 : decode cX7_costNow 49 = .ok (.goto (-35), 3) := by decide +kernel
theorem dX7_costNow_52 : decode cX7_costNow 52 = .ok (.iinc 2 1, 3) := by decide +kernel
theorem dX7_costNow_55 : decode cX7_costNow 55 = .ok (.goto (-51), 3) := by decide +kernel
theorem dX7_costNow_58 : decode cX7_costNow 58 = .ok (.iload_n 1, 1) := by decide +kernel
theorem dX7_costNow_59 : decode cX7_costNow 59 = .ok (.ireturn, 1) := by decide +kernel
theorem dX7_cost_0 : decode cX7_cost 0 = .ok (.aload_n 0, 1) := by decide +kernel
theorem dX7_cost_1 : decode cX7_cost 1 = .ok (.iconst 0, 1) := by decide +kernel
theorem dX7_cost_2 : decode cX7_cost 2 = .ok (.putfield 40, 3) := by decide +kernel
theorem dX7_cost_5 : decode cX7_cost 5 = .ok (.aload_n 0, 1) := by decide +kernel
theorem dX7_cost_6 : decode cX7_cost 6 = .ok (.invokevirtual 147, 3) := by decide +kernel
theorem dX7_cost_9 : decode cX7_cost 9 = .ok (.ireturn, 1) := by decide +kernel
theorem dX7_isGood_0 : decode cX7_isGood 0 = .ok (.aload_n 0, 1) := by decide +kernel
theorem dX7_isGood_1 : decode cX7_isGood 1 = .ok (.iconst 0, 1) := by decide +kernel
theorem dX7_isGood_2 : decode cX7_isGood 2 = .ok (.putfield 40, 3) := by decide +kernel
theorem dX7_isGood_5 : decode cX7_isGood 5 = .ok (.aload_n 0, 1) := by decide +kernel
theorem dX7_isGood_6 : decode cX7_isGood 6 = .ok (.invokevirtual 150, 3) := by decide +kernel
theorem dX7_isGood_9 : decode cX7_isGood 9 = .ok (.istore_n 1, 1) := by decide +kernel
theorem dX7_isGood_10 : decode cX7_isGood 10 = .ok (.iconst 0, 1) := by decide +kernel
theorem dX7_isGood_11 : decode cX7_isGood 11 = .ok (.istore_n 2, 1) := by decide +kernel
theorem dX7_isGood_12 : decode cX7_isGood 12 = .ok (.iload_n 2, 1) := by decide +kernel
theorem dX7_isGood_13 : decode cX7_isGood 13 = .ok (.aload_n 0, 1) := by decide +kernel
theorem dX7_isGood_14 : decode cX7_isGood 14 = .ok (.getfield 49, 3) := by decide +kernel
theorem dX7_isGood_17 : decode cX7_isGood 17 = .ok (.if_icmp .ge 61, 3) := by decide +kernel
theorem dX7_isGood_20 : decode cX7_isGood 20 = .ok (.iload_n 1, 1) := by decide +kernel
theorem dX7_isGood_21 : decode cX7_isGood 21 = .ok (.ifCond .eq 57, 3) := by decide +kernel
theorem dX7_isGood_24 : decode cX7_isGood 24 = .ok (.iconst 0, 1) := by decide +kernel
theorem dX7_isGood_25 : decode cX7_isGood 25 = .ok (.istore_n 3, 1) := by decide +kernel
theorem dX7_isGood_26 : decode cX7_isGood 26 = .ok (.iload_n 3, 1) := by decide +kernel
theorem dX7_isGood_27 : decode cX7_isGood 27 = .ok (.bipush 12, 2) := by decide +kernel
theorem dX7_isGood_29 : decode cX7_isGood 29 = .ok (.if_icmp .ge 43, 3) := by decide +kernel
theorem dX7_isGood_32 : decode cX7_isGood 32 = .ok (.iload_n 1, 1) := by decide +kernel
theorem dX7_isGood_33 : decode cX7_isGood 33 = .ok (.ifCond .eq 31, 3) := by decide +kernel
theorem dX7_isGood_36 : decode cX7_isGood 36 = .ok (.aload_n 0, 1) := by decide +kernel
theorem dX7_isGood_37 : decode cX7_isGood 37 = .ok (.getfield 26, 3) := by decide +kernel
theorem dX7_isGood_40 : decode cX7_isGood 40 = .ok (.iload_n 3, 1) := by decide +kernel
theorem dX7_isGood_41 : decode cX7_isGood 41 = .ok (.iaload, 1) := by decide +kernel
theorem dX7_isGood_42 : decode cX7_isGood 42 = .ok (.bipush 10, 2) := by decide +kernel
theorem dX7_isGood_44 : decode cX7_isGood 44 = .ok (.if_icmp .ne 16, 3) := by decide +kernel
theorem dX7_isGood_47 : decode cX7_isGood 47 = .ok (.aload_n 0, 1) := by decide +kernel
theorem dX7_isGood_48 : decode cX7_isGood 48 = .ok (.iload_n 3, 1) := by decide +kernel
theorem dX7_isGood_49 : decode cX7_isGood 49 = .ok (.iload_n 2, 1) := by decide +kernel
theorem dX7_isGood_50 : decode cX7_isGood 50 = .ok (.aload_n 0, 1) := by decide +kernel
theorem dX7_isGood_51 : decode cX7_isGood 51 = .ok (.getfield 49, 3) := by decide +kernel
theorem dX7_isGood_54 : decode cX7_isGood 54 = .ok (.invokevirtual 138, 3) := by decide +kernel
theorem dX7_isGood_57 : decode cX7_isGood 57 = .ok (.ifCond .ne 7, 3) := by decide +kernel
theorem dX7_isGood_60 : decode cX7_isGood 60 = .ok (.iconst 1, 1) := by decide +kernel
theorem dX7_isGood_61 : decode cX7_isGood 61 = .ok (.goto 4, 3) := by decide +kernel
theorem dX7_isGood_64 : decode cX7_isGood 64 = .ok (.iconst 0, 1) := by decide +kernel
theorem dX7_isGood_65 : decode cX7_isGood 65 = .ok (.istore_n 1, 1) := by decide +kernel
theorem dX7_isGood_66 : decode cX7_isGood 66 = .ok (.iinc 3 1, 3) := by decide +kernel
theorem dX7_isGood_69 : decode cX7_isGood 69 = .ok (.goto (-43), 3) := by decide +kernel
theorem dX7_isGood_72 : decode cX7_isGood 72 = .ok (.iinc 2 1, 3) := by decide +kernel
theorem dX7_isGood_75 : decode cX7_isGood 75 = .ok (.goto (-63), 3) := by decide +kernel
theorem dX7_isGood_78 : decode cX7_isGood 78 = .ok (.iload_n 1, 1) := by decide +kernel
theorem dX7_isGood_79 : decode cX7_isGood 79 = .ok (.ireturn, 1) := by decide +kernel
theorem dX7_mend_0 : decode cX7_mend 0 = .ok (.aload_n 0, 1) := by decide +kernel
theorem dX7_mend_1 : decode cX7_mend 1 = .ok (.invokevirtual 147, 3) := by decide +kernel
theorem dX7_mend_4 : decode cX7_mend 4 = .ok (.istore_n 1, 1) := by decide +kernel
theorem dX7_mend_5 : decode cX7_mend 5 = .ok (.iload_n 1, 1) := by decide +kernel
theorem dX7_mend_6 : decode cX7_mend 6 = .ok (.istore_n 2, 1) := by decide +kernel
theorem dX7_mend_7 : decode cX7_mend 7 = .ok (.iconst (-1), 1) := by decide +kernel
theorem dX7_mend_8 : decode cX7_mend 8 = .ok (.istore_n 3, 1) := by decide +kernel
theorem dX7_mend_9 : decode cX7_mend 9 = .ok (.iconst (-1), 1) := by decide +kernel
theorem dX7_mend_10 : decode cX7_mend 10 = .ok (.istore 4, 2) := by decide +kernel
theorem dX7_mend_12 : decode cX7_mend 12 = .ok (.iconst 0, 1) := by decide +kernel
theorem dX7_mend_13 : decode cX7_mend 13 = .ok (.istore 5, 2) := by decide +kernel
theorem dX7_mend_15 : decode cX7_mend 15 = .ok (.iload 5, 2) := by decide +kernel
theorem dX7_mend_17 : decode cX7_mend 17 = .ok (.aload_n 0, 1) := by decide +kernel
theorem dX7_mend_18 : decode cX7_mend 18 = .ok (.getfield 49, 3) := by decide +kernel
theorem dX7_mend_21 : decode cX7_mend 21 = .ok (.if_icmp .ge 81, 3) := by decide +kernel
theorem dX7_mend_24 : decode cX7_mend 24 = .ok (.aload_n 0, 1) := by decide +kernel
theorem dX7_mend_25 : decode cX7_mend 25 = .ok (.invokevirtual 150, 3) := by decide +kernel
theorem dX7_mend_28 : decode cX7_mend 28 = .ok (.ifCond .eq 74, 3) := by decide +kernel
theorem dX7_mend_31 : decode cX7_mend 31 = .ok (.aload_n 0, 1) := by decide +kernel
theorem dX7_mend_32 : decode cX7_mend 32 = .ok (.getfield 13, 3) := by decide +kernel
theorem dX7_mend_35 : decode cX7_mend 35 = .ok (.iload 5, 2) := by decide +kernel
theorem dX7_mend_37 : decode cX7_mend 37 = .ok (.iaload, 1) := by decide +kernel
theorem dX7_mend_38 : decode cX7_mend 38 = .ok (.istore 6, 2) := by decide +kernel
theorem dX7_mend_40 : decode cX7_mend 40 = .ok (.iconst 0, 1) := by decide +kernel
theorem dX7_mend_41 : decode cX7_mend 41 = .ok (.istore 7, 2) := by decide +kernel
theorem dX7_mend_43 : decode cX7_mend 43 = .ok (.iload 7, 2) := by decide +kernel
theorem dX7_mend_45 : decode cX7_mend 45 = .ok (.bipush 28, 2) := by decide +kernel
theorem dX7_mend_47 : decode cX7_mend 47 = .ok (.if_icmp .ge 40, 3) := by decide +kernel
theorem dX7_mend_50 : decode cX7_mend 50 = .ok (.aload_n 0, 1) := by decide +kernel
theorem dX7_mend_51 : decode cX7_mend 51 = .ok (.getfield 13, 3) := by decide +kernel
theorem dX7_mend_54 : decode cX7_mend 54 = .ok (.iload 5, 2) := by decide +kernel
theorem dX7_mend_56 : decode cX7_mend 56 = .ok (.iload 7, 2) := by decide +kernel
theorem dX7_mend_58 : decode cX7_mend 58 = .ok (.iastore, 1) := by decide +kernel
theorem dX7_mend_59 : decode cX7_mend 59 = .ok (.aload_n 0, 1) := by decide +kernel
theorem dX7_mend_60 : decode cX7_mend 60 = .ok (.invokevirtual 147, 3) := by decide +kernel
theorem dX7_mend_63 : decode cX7_mend 63 = .ok (.istore 8, 2) := by decide +kernel
theorem dX7_mend_65 : decode cX7_mend 65 = .ok (.iload 8, 2) := by decide +kernel
theorem dX7_mend_67 : decode cX7_mend 67 = .ok (.iload_n 2, 1) := by decide +kernel
theorem dX7_mend_68 : decode cX7_mend 68 = .ok (.if_icmp .ge 13, 3) := by decide +kernel
theorem dX7_mend_71 : decode cX7_mend 71 = .ok (.iload 8, 2) := by decide +kernel
theorem dX7_mend_73 : decode cX7_mend 73 = .ok (.istore_n 2, 1) := by decide +kernel
theorem dX7_mend_74 : decode cX7_mend 74 = .ok (.iload 5, 2) := by decide +kernel
theorem dX7_mend_76 : decode cX7_mend 76 = .ok (.istore_n 3, 1) := by decide +kernel
theorem dX7_mend_77 : decode cX7_mend 77 = .ok (.iload 7, 2) := by decide +kernel
theorem dX7_mend_79 : decode cX7_mend 79 = .ok (.istore 4, 2) := by decide +kernel
theorem dX7_mend_81 : decode cX7_mend 81 = .ok (.iinc 7 1, 3) := by decide +kernel
theorem dX7_mend_84 : decode cX7_mend 84 = .ok (.goto (-41), 3) := by decide +kernel
theorem dX7_mend_87 : decode cX7_mend 87 = .ok (.aload_n 0, 1) := by decide +kernel
theorem dX7_mend_88 : decode cX7_mend 88 = .ok (.getfield 13, 3) := by decide +kernel
theorem dX7_mend_91 : decode cX7_mend 91 = .ok (.iload 5, 2) := by decide +kernel
theorem dX7_mend_93 : decode cX7_mend 93 = .ok (.iload 6, 2) := by decide +kernel
theorem dX7_mend_95 : decode cX7_mend 95 = .ok (.iastore, 1) := by decide +kernel
theorem dX7_mend_96 : decode cX7_mend 96 = .ok (.iinc 5 1, 3) := by decide +kernel
theorem dX7_mend_99 : decode cX7_mend 99 = .ok (.goto (-84), 3) := by decide +kernel
theorem dX7_mend_102 : decode cX7_mend 102 = .ok (.aload_n 0, 1) := by decide +kernel
theorem dX7_mend_103 : decode cX7_mend 103 = .ok (.aload_n 0, 1) := by decide +kernel
theorem dX7_mend_104 : decode cX7_mend 104 = .ok (.invokevirtual 150, 3) := by decide +kernel
theorem dX7_mend_107 : decode cX7_mend 107 = .ok (.ifCond .ne 7, 3) := by decide +kernel
theorem dX7_mend_110 : decode cX7_mend 110 = .ok (.iconst 1, 1) := by decide +kernel
theorem dX7_mend_111 : decode cX7_mend 111 = .ok (.goto 13, 3) := by decide +kernel
theorem dX7_mend_114 : decode cX7_mend 114 = .ok (.iload_n 3, 1) := by decide +kernel
theorem dX7_mend_115 : decode cX7_mend 115 = .ok (.iconst (-1), 1) := by decide +kernel
theorem dX7_mend_116 : decode cX7_mend 116 = .ok (.if_icmp .ne 7, 3) := by decide +kernel
theorem dX7_mend_119 : decode cX7_mend 119 = .ok (.iconst 2, 1) := by decide +kernel
theorem dX7_mend_120 : decode cX7_mend 120 = .ok (.goto 4, 3) := by decide +kernel
theorem dX7_mend_123 : decode cX7_mend 123 = .ok (.iconst 0, 1) := by decide +kernel
theorem dX7_mend_124 : decode cX7_mend 124 = .ok (.invokevirtual 125, 3) := by decide +kernel
theorem dX7_mend_127 : decode cX7_mend 127 = .ok (.ifCond .ne 5, 3) := by decide +kernel
theorem dX7_mend_130 : decode cX7_mend 130 = .ok (.iconst 0, 1) := by decide +kernel
theorem dX7_mend_131 : decode cX7_mend 131 = .ok (.ireturn, 1) := by decide +kernel
theorem dX7_mend_132 : decode cX7_mend 132 = .ok (.aload_n 0, 1) := by decide +kernel
theorem dX7_mend_133 : decode cX7_mend 133 = .ok (.getfield 13, 3) := by decide +kernel
theorem dX7_mend_136 : decode cX7_mend 136 = .ok (.iload_n 3, 1) := by decide +kernel
theorem dX7_mend_137 : decode cX7_mend 137 = .ok (.iload 4, 2) := by decide +kernel
theorem dX7_mend_139 : decode cX7_mend 139 = .ok (.iastore, 1) := by decide +kernel
theorem dX7_mend_140 : decode cX7_mend 140 = .ok (.iload_n 3, 1) := by decide +kernel
theorem dX7_mend_141 : decode cX7_mend 141 = .ok (.ireturn, 1) := by decide +kernel
theorem dX7_range_0 : decode cX7_range 0 = .ok (.aload_n 0, 1) := by decide +kernel
theorem dX7_range_1 : decode cX7_range 1 = .ok (.iload_n 1, 1) := by decide +kernel
theorem dX7_range_2 : decode cX7_range 2 = .ok (.invokestatic 122, 3) := by decide +kernel
theorem dX7_range_5 : decode cX7_range 5 = .ok (.ifCond .eq 26, 3) := by decide +kernel
theorem dX7_range_8 : decode cX7_range 8 = .ok (.iload_n 2, 1) := by decide +kernel
theorem dX7_range_9 : decode cX7_range 9 = .ok (.invokestatic 122, 3) := by decide +kernel
theorem dX7_range_12 : decode cX7_range 12 = .ok (.ifCond .eq 19, 3) := by decide +kernel
theorem dX7_range_15 : decode cX7_range 15 = .ok (.iload_n 2, 1) := by decide +kernel
theorem dX7_range_16 : decode cX7_range 16 = .ok (.iload_n 1, 1) := by decide +kernel
theorem dX7_range_17 : decode cX7_range 17 = .ok (.isub, 1) := by decide +kernel
theorem dX7_range_18 : decode cX7_range 18 = .ok (.iconst 0, 1) := by decide +kernel
theorem dX7_range_19 : decode cX7_range 19 = .ok (.bipush 9, 2) := by decide +kernel
theorem dX7_range_21 : decode cX7_range 21 = .ok (.invokestatic 66, 3) := by decide +kernel
theorem dX7_range_24 : decode cX7_range 24 = .ok (.ifCond .eq 7, 3) := by decide +kernel
theorem dX7_range_27 : decode cX7_range 27 = .ok (.iconst 0, 1) := by decide +kernel
theorem dX7_range_28 : decode cX7_range 28 = .ok (.goto 4, 3) := by decide +kernel
theorem dX7_range_31 : decode cX7_range 31 = .ok (.iconst 1, 1) := by decide +kernel
theorem dX7_range_32 : decode cX7_range 32 = .ok (.invokevirtual 125, 3) := by decide +kernel
theorem dX7_range_35 : decode cX7_range 35 = .ok (.ifCond .ne 5, 3) := by decide +kernel
theorem dX7_range_38 : decode cX7_range 38 = .ok (.iconst 0, 1) := by decide +kernel
theorem dX7_range_39 : decode cX7_range 39 = .ok (.ireturn, 1) := by decide +kernel
theorem dX7_range_40 : decode cX7_range 40 = .ok (.aload_n 0, 1) := by decide +kernel
theorem dX7_range_41 : decode cX7_range 41 = .ok (.iload_n 1, 1) := by decide +kernel
theorem dX7_range_42 : decode cX7_range 42 = .ok (.putfield 20, 3) := by decide +kernel
theorem dX7_range_45 : decode cX7_range 45 = .ok (.aload_n 0, 1) := by decide +kernel
theorem dX7_range_46 : decode cX7_range 46 = .ok (.iload_n 2, 1) := by decide +kernel
theorem dX7_range_47 : decode cX7_range 47 = .ok (.putfield 23, 3) := by decide +kernel
theorem dX7_range_50 : decode cX7_range 50 = .ok (.aload_n 0, 1) := by decide +kernel
theorem dX7_range_51 : decode cX7_range 51 = .ok (.getfield 23, 3) := by decide +kernel
theorem dX7_range_54 : decode cX7_range 54 = .ok (.aload_n 0, 1) := by decide +kernel
theorem dX7_range_55 : decode cX7_range 55 = .ok (.getfield 20, 3) := by decide +kernel
theorem dX7_range_58 : decode cX7_range 58 = .ok (.isub, 1) := by decide +kernel
theorem dX7_range_59 : decode cX7_range 59 = .ok (.iconst 1, 1) := by decide +kernel
theorem dX7_range_60 : decode cX7_range 60 = .ok (.iadd, 1) := by decide +kernel
theorem dX7_range_61 : decode cX7_range 61 = .ok (.ireturn, 1) := by decide +kernel
theorem dX7_costAt_0 : decode cX7_costAt 0 = .ok (.iconst 0, 1) := by decide +kernel
theorem dX7_costAt_1 : decode cX7_costAt 1 = .ok (.istore 6, 2) := by decide +kernel
theorem dX7_costAt_3 : decode cX7_costAt 3 = .ok (.iload 4, 2) := by decide +kernel
theorem dX7_costAt_5 : decode cX7_costAt 5 = .ok (.istore 7, 2) := by decide +kernel
theorem dX7_costAt_7 : decode cX7_costAt 7 = .ok (.iload 7, 2) := by decide +kernel
theorem dX7_costAt_9 : decode cX7_costAt 9 = .ok (.iload 5, 2) := by decide +kernel
theorem dX7_costAt_11 : decode cX7_costAt 11 = .ok (.if_icmp .ge 68, 3) := by decide +kernel
theorem dX7_costAt_14 : decode cX7_costAt 14 = .ok (.aload_n 0, 1) := by decide +kernel
theorem dX7_costAt_15 : decode cX7_costAt 15 = .ok (.getfield 26, 3) := by decide +kernel
theorem dX7_costAt_18 : decode cX7_costAt 18 = .ok (.iload 7, 2) := by decide +kernel
theorem dX7_costAt_20 : decode cX7_costAt 20 = .ok (.iaload, 1) := by decide +kernel
theorem dX7_costAt_21 : decode cX7_costAt 21 = .ok (.ifCond .le 52, 3) := by decide +kernel
theorem dX7_costAt_24 : decode cX7_costAt 24 = .ok (.iload_n 3, 1) := by decide +kernel
theorem dX7_costAt_25 : decode cX7_costAt 25 = .ok (.iload 7, 2) := by decide +kernel
theorem dX7_costAt_27 : decode cX7_costAt 27 = .ok (.ishr, 1) := by decide +kernel
theorem dX7_costAt_28 : decode cX7_costAt 28 = .ok (.iconst 1, 1) := by decide +kernel
theorem dX7_costAt_29 : decode cX7_costAt 29 = .ok (.iand, 1) := by decide +kernel
theorem dX7_costAt_30 : decode cX7_costAt 30 = .ok (.ifCond .ne 43, 3) := by decide +kernel
theorem dX7_costAt_33 : decode cX7_costAt 33 = .ok (.aload_n 0, 1) := by decide +kernel
theorem dX7_costAt_34 : decode cX7_costAt 34 = .ok (.iload 7, 2) := by decide +kernel
theorem dX7_costAt_36 : decode cX7_costAt 36 = .ok (.iload_n 1, 1) := by decide +kernel
theorem dX7_costAt_37 : decode cX7_costAt 37 = .ok (.iload_n 2, 1) := by decide +kernel
theorem dX7_costAt_38 : decode cX7_costAt 38 = .ok (.invokevirtual 138, 3) := by decide +kernel
theorem dX7_costAt_41 : decode cX7_costAt 41 = .ok (.ifCond .eq 32, 3) := by decide +kernel
theorem dX7_costAt_44 : decode cX7_costAt 44 = .ok (.iload 6, 2) := by decide +kernel
theorem dX7_costAt_46 : decode cX7_costAt 46 = .ok (.aload_n 0, 1) := by decide +kernel
theorem dX7_costAt_47 : decode cX7_costAt 47 = .ok (.getfield 26, 3) := by decide +kernel
theorem dX7_costAt_50 : decode cX7_costAt 50 = .ok (.iload 7, 2) := by decide +kernel
theorem dX7_costAt_52 : decode cX7_costAt 52 = .ok (.iaload, 1) := by decide +kernel
theorem dX7_costAt_53 : decode cX7_costAt 53 = .ok (.bipush 10, 2) := by decide +kernel
theorem dX7_costAt_55 : decode cX7_costAt 55 = .ok (.if_icmp .ne 8, 3) := by decide +kernel
theorem dX7_costAt_58 : decode cX7_costAt 58 = .ok (.ldc 154, 2) := by decide +kernel
theorem dX7_costAt_60 : decode cX7_costAt 60 = .ok (.goto 10, 3) := by decide +kernel
theorem dX7_costAt_63 : decode cX7_costAt 63 = .ok (.aload_n 0, 1) := by decide +kernel
theorem dX7_costAt_64 : decode cX7_costAt 64 = .ok (.getfield 26, 3) := by decide +kernel
theorem dX7_costAt_67 : decode cX7_costAt 67 = .ok (.iload 7, 2) := by decide +kernel
theorem dX7_costAt_69 : decode cX7_costAt 69 = .ok (.iaload, 1) := by decide +kernel
theorem dX7_costAt_70 : decode cX7_costAt 70 = .ok (.iadd, 1) := by decide +kernel
theorem dX7_costAt_71 : decode cX7_costAt 71 = .ok (.istore 6, 2) := by decide +kernel
theorem dX7_costAt_73 : decode cX7_costAt 73 = .ok (.iinc 7 1, 3) := by decide +kernel
theorem dX7_costAt_76 : decode cX7_costAt 76 = .ok (.goto (-69), 3) := by decide +kernel
theorem dX7_costAt_79 : decode cX7_costAt 79 = .ok (.iload 6, 2) := by decide +kernel
theorem dX7_costAt_81 : decode cX7_costAt 81 = .ok (.ireturn, 1) := by decide +kernel
theorem dX7_paid_0 : decode cX7_paid 0 = .ok (.aload_n 0, 1) := by decide +kernel
theorem dX7_paid_1 : decode cX7_paid 1 = .ok (.invokevirtual 52, 3) := by decide +kernel
theorem dX7_paid_4 : decode cX7_paid 4 = .ok (.iconst 1, 1) := by decide +kernel
theorem dX7_paid_5 : decode cX7_paid 5 = .ok (.isub, 1) := by decide +kernel
theorem dX7_paid_6 : decode cX7_paid 6 = .ok (.istore_n 3, 1) := by decide +kernel
theorem dX7_paid_7 : decode cX7_paid 7 = .ok (.iload_n 1, 1) := by decide +kernel
theorem dX7_paid_8 : decode cX7_paid 8 = .ok (.iconst 1, 1) := by decide +kernel
theorem dX7_paid_9 : decode cX7_paid 9 = .ok (.iadd, 1) := by decide +kernel
theorem dX7_paid_10 : decode cX7_paid 10 = .ok (.istore 4, 2) := by decide +kernel
theorem dX7_paid_12 : decode cX7_paid 12 = .ok (.iload_n 1, 1) := by decide +kernel
theorem dX7_paid_13 : decode cX7_paid 13 = .ok (.iload_n 3, 1) := by decide +kernel
theorem dX7_paid_14 : decode cX7_paid 14 = .ok (.if_icmp .ne 29, 3) := by decide +kernel
theorem dX7_paid_17 : decode cX7_paid 17 = .ok (.aload_n 0, 1) := by decide +kernel
theorem dX7_paid_18 : decode cX7_paid 18 = .ok (.iload_n 3, 1) := by decide +kernel
theorem dX7_paid_19 : decode cX7_paid 19 = .ok (.iload 4, 2) := by decide +kernel
theorem dX7_paid_21 : decode cX7_paid 21 = .ok (.iload_n 2, 1) := by decide +kernel
theorem dX7_paid_22 : decode cX7_paid 22 = .ok (.iconst 0, 1) := by decide +kernel
theorem dX7_paid_23 : decode cX7_paid 23 = .ok (.bipush 12, 2) := by decide +kernel
theorem dX7_paid_25 : decode cX7_paid 25 = .ok (.invokevirtual 155, 3) := by decide +kernel
theorem dX7_paid_28 : decode cX7_paid 28 = .ok (.aload_n 0, 1) := by decide +kernel
theorem dX7_paid_29 : decode cX7_paid 29 = .ok (.iload_n 3, 1) := by decide +kernel
theorem dX7_paid_30 : decode cX7_paid 30 = .ok (.iconst 1, 1) := by decide +kernel
theorem dX7_paid_31 : decode cX7_paid 31 = .ok (.isub, 1) := by decide +kernel
theorem dX7_paid_32 : decode cX7_paid 32 = .ok (.iload 4, 2) := by decide +kernel
theorem dX7_paid_34 : decode cX7_paid 34 = .ok (.iload_n 2, 1) := by decide +kernel
theorem dX7_paid_35 : decode cX7_paid 35 = .ok (.iconst 0, 1) := by decide +kernel
theorem dX7_paid_36 : decode cX7_paid 36 = .ok (.bipush 11, 2) := by decide +kernel
theorem dX7_paid_38 : decode cX7_paid 38 = .ok (.invokevirtual 155, 3) := by decide +kernel
theorem dX7_paid_41 : decode cX7_paid 41 = .ok (.iadd, 1) := by decide +kernel
theorem dX7_paid_42 : decode cX7_paid 42 = .ok (.ireturn, 1) := by decide +kernel
theorem dX7_paid_43 : decode cX7_paid 43 = .ok (.aload_n 0, 1) := by decide +kernel
theorem dX7_paid_44 : decode cX7_paid 44 = .ok (.iload_n 1, 1) := by decide +kernel
theorem dX7_paid_45 : decode cX7_paid 45 = .ok (.iload 4, 2) := by decide +kernel
theorem dX7_paid_47 : decode cX7_paid 47 = .ok (.iload_n 2, 1) := by decide +kernel
theorem dX7_paid_48 : decode cX7_paid 48 = .ok (.iload_n 1, 1) := by decide +kernel
theorem dX7_paid_49 : decode cX7_paid 49 = .ok (.iload_n 3, 1) := by decide +kernel
theorem dX7_paid_50 : decode cX7_paid 50 = .ok (.iconst 1, 1) := by decide +kernel
theorem dX7_paid_51 : decode cX7_paid 51 = .ok (.isub, 1) := by decide +kernel
theorem dX7_paid_52 : decode cX7_paid 52 = .ok (.if_icmp .ne 8, 3) := by decide +kernel
theorem dX7_paid_55 : decode cX7_paid 55 = .ok (.bipush 11, 2) := by decide +kernel
theorem dX7_paid_57 : decode cX7_paid 57 = .ok (.goto 4, 3) := by decide +kernel
theorem dX7_paid_60 : decode cX7_paid 60 = .ok (.iconst 0, 1) := by decide +kernel
theorem dX7_paid_61 : decode cX7_paid 61 = .ok (.bipush 12, 2) := by decide +kernel
theorem dX7_paid_63 : decode cX7_paid 63 = .ok (.invokevirtual 155, 3) := by decide +kernel
theorem dX7_paid_66 : decode cX7_paid 66 = .ok (.ireturn, 1) := by decide +kernel
theorem dX7_reckons_0 : decode cX7_reckons 0 = .ok (.aload_n 0, 1) := by decide +kernel
theorem dX7_reckons_1 : decode cX7_reckons 1 = .ok (.getfield 23, 3) := by decide +kernel
theorem dX7_reckons_4 : decode cX7_reckons 4 = .ok (.aload_n 0, 1) := by decide +kernel
theorem dX7_reckons_5 : decode cX7_reckons 5 = .ok (.getfield 20, 3) := by decide +kernel
theorem dX7_reckons_8 : decode cX7_reckons 8 = .ok (.isub, 1) := by decide +kernel
theorem dX7_reckons_9 : decode cX7_reckons 9 = .ok (.iconst 1, 1) := by decide +kernel
theorem dX7_reckons_10 : decode cX7_reckons 10 = .ok (.iadd, 1) := by decide +kernel
theorem dX7_reckons_11 : decode cX7_reckons 11 = .ok (.istore_n 2, 1) := by decide +kernel
theorem dX7_reckons_12 : decode cX7_reckons 12 = .ok (.aload_n 0, 1) := by decide +kernel
theorem dX7_reckons_13 : decode cX7_reckons 13 = .ok (.invokevirtual 52, 3) := by decide +kernel
theorem dX7_reckons_16 : decode cX7_reckons 16 = .ok (.iconst 1, 1) := by decide +kernel
theorem dX7_reckons_17 : decode cX7_reckons 17 = .ok (.isub, 1) := by decide +kernel
theorem dX7_reckons_18 : decode cX7_reckons 18 = .ok (.istore_n 3, 1) := by decide +kernel
theorem dX7_reckons_19 : decode cX7_reckons 19 = .ok (.iload_n 3, 1) := by decide +kernel
theorem dX7_reckons_20 : decode cX7_reckons 20 = .ok (.istore 4, 2) := by decide +kernel
theorem dX7_reckons_22 : decode cX7_reckons 22 = .ok (.iload 4, 2) := by decide +kernel
theorem dX7_reckons_24 : decode cX7_reckons 24 = .ok (.ifCond .le 259, 3) := by decide +kernel
theorem dX7_reckons_27 : decode cX7_reckons 27 = .ok (.iconst 0, 1) := by decide +kernel
theorem dX7_reckons_28 : decode cX7_reckons 28 = .ok (.istore 5, 2) := by decide +kernel
theorem dX7_reckons_30 : decode cX7_reckons 30 = .ok (.iload 5, 2) := by decide +kernel
theorem dX7_reckons_32 : decode cX7_reckons 32 = .ok (.iload_n 2, 1) := by decide +kernel
theorem dX7_reckons_33 : decode cX7_reckons 33 = .ok (.iload_n 2, 1) := by decide +kernel
theorem dX7_reckons_34 : decode cX7_reckons 34 = .ok (.imul, 1) := by decide +kernel
theorem dX7_reckons_35 : decode cX7_reckons 35 = .ok (.if_icmp .ge 242, 3) := by decide +kernel
theorem dX7_reckons_38 : decode cX7_reckons 38 = .ok (.bipush 100, 2) := by decide +kernel
theorem dX7_reckons_40 : decode cX7_reckons 40 = .ok (.iload 4, 2) := by decide +kernel
theorem dX7_reckons_42 : decode cX7_reckons 42 = .ok (.imul, 1) := by decide +kernel
theorem dX7_reckons_43 : decode cX7_reckons 43 = .ok (.bipush 10, 2) := by decide +kernel
theorem dX7_reckons_45 : decode cX7_reckons 45 = .ok (.iload 5, 2) := by decide +kernel
theorem dX7_reckons_47 : decode cX7_reckons 47 = .ok (.iload_n 2, 1) := by decide +kernel
theorem dX7_reckons_48 : decode cX7_reckons 48 = .ok (.idiv, 1) := by decide +kernel
theorem dX7_reckons_49 : decode cX7_reckons 49 = .ok (.imul, 1) := by decide +kernel
theorem dX7_reckons_50 : decode cX7_reckons 50 = .ok (.iadd, 1) := by decide +kernel
theorem dX7_reckons_51 : decode cX7_reckons 51 = .ok (.iload 5, 2) := by decide +kernel
theorem dX7_reckons_53 : decode cX7_reckons 53 = .ok (.iload_n 2, 1) := by decide +kernel
theorem dX7_reckons_54 : decode cX7_reckons 54 = .ok (.irem, 1) := by decide +kernel
theorem dX7_reckons_55 : decode cX7_reckons 55 = .ok (.iadd, 1) := by decide +kernel
theorem dX7_reckons_56 : decode cX7_reckons 56 = .ok (.istore 6, 2) := by decide +kernel
theorem dX7_reckons_58 : decode cX7_reckons 58 = .ok (.aload_n 0, 1) := by decide +kernel
theorem dX7_reckons_59 : decode cX7_reckons 59 = .ok (.getfield 29, 3) := by decide +kernel
theorem dX7_reckons_62 : decode cX7_reckons 62 = .ok (.iload 6, 2) := by decide +kernel
theorem dX7_reckons_64 : decode cX7_reckons 64 = .ok (.iload 4, 2) := by decide +kernel
theorem dX7_reckons_66 : decode cX7_reckons 66 = .ok (.iload_n 3, 1) := by decide +kernel
theorem dX7_reckons_67 : decode cX7_reckons 67 = .ok (.if_icmp .ne 7, 3) := by decide +kernel
theorem dX7_reckons_70 : decode cX7_reckons 70 = .ok (.iconst 0, 1) := by decide +kernel
theorem dX7_reckons_71 : decode cX7_reckons 71 = .ok (.goto 5, 3) := by decide +kernel
theorem dX7_reckons_74 : decode cX7_reckons 74 = .ok (.ldc 154, 2) := by decide +kernel
theorem dX7_reckons_76 : decode cX7_reckons 76 = .ok (.iastore, 1) := by decide +kernel
theorem dX7_reckons_77 : decode cX7_reckons 77 = .ok (.aload_n 0, 1) := by decide +kernel
theorem dX7_reckons_78 : decode cX7_reckons 78 = .ok (.getfield 32, 3) := by decide +kernel
theorem dX7_reckons_81 : decode cX7_reckons 81 = .ok (.iload 6, 2) := by decide +kernel
theorem dX7_reckons_83 : decode cX7_reckons 83 = .ok (.iload 4, 2) := by decide +kernel
theorem dX7_reckons_85 : decode cX7_reckons 85 = .ok (.iload_n 3, 1) := by decide +kernel
theorem dX7_reckons_86 : decode cX7_reckons 86 = .ok (.if_icmp .ne 7, 3) := by decide +kernel
theorem dX7_reckons_89 : decode cX7_reckons 89 = .ok (.lconst 1, 1) := by decide +kernel
theorem dX7_reckons_90 : decode cX7_reckons 90 = .ok (.goto 4, 3) := by decide +kernel
theorem dX7_reckons_93 : decode cX7_reckons 93 = .ok (.lconst 0, 1) := by decide +kernel
theorem dX7_reckons_94 : decode cX7_reckons 94 = .ok (.lastore, 1) := by decide +kernel
theorem dX7_reckons_95 : decode cX7_reckons 95 = .ok (.aload_n 0, 1) := by decide +kernel
theorem dX7_reckons_96 : decode cX7_reckons 96 = .ok (.getfield 13, 3) := by decide +kernel
theorem dX7_reckons_99 : decode cX7_reckons 99 = .ok (.iload 4, 2) := by decide +kernel
theorem dX7_reckons_101 : decode cX7_reckons 101 = .ok (.iconst 1, 1) := by decide +kernel
theorem dX7_reckons_102 : decode cX7_reckons 102 = .ok (.isub, 1) := by decide +kernel
theorem dX7_reckons_103 : decode cX7_reckons 103 = .ok (.aload_n 0, 1) := by decide +kernel
theorem dX7_reckons_104 : decode cX7_reckons 104 = .ok (.getfield 20, 3) := by decide +kernel
theorem dX7_reckons_107 : decode cX7_reckons 107 = .ok (.iload 5, 2) := by decide +kernel
theorem dX7_reckons_109 : decode cX7_reckons 109 = .ok (.iload_n 2, 1) := by decide +kernel
theorem dX7_reckons_110 : decode cX7_reckons 110 = .ok (.idiv, 1) := by decide +kernel
theorem dX7_reckons_111 : decode cX7_reckons 111 = .ok (.iadd, 1) := by decide +kernel
theorem dX7_reckons_112 : decode cX7_reckons 112 = .ok (.iastore, 1) := by decide +kernel
theorem dX7_reckons_113 : decode cX7_reckons 113 = .ok (.aload_n 0, 1) := by decide +kernel
theorem dX7_reckons_114 : decode cX7_reckons 114 = .ok (.getfield 13, 3) := by decide +kernel
theorem dX7_reckons_117 : decode cX7_reckons 117 = .ok (.iload 4, 2) := by decide +kernel
theorem dX7_reckons_119 : decode cX7_reckons 119 = .ok (.aload_n 0, 1) := by decide +kernel
theorem dX7_reckons_120 : decode cX7_reckons 120 = .ok (.getfield 20, 3) := by decide +kernel
theorem dX7_reckons_123 : decode cX7_reckons 123 = .ok (.iload 5, 2) := by decide +kernel
theorem dX7_reckons_125 : decode cX7_reckons 125 = .ok (.iload_n 2, 1) := by decide +kernel
theorem dX7_reckons_126 : decode cX7_reckons 126 = .ok (.irem, 1) := by decide +kernel
theorem dX7_reckons_127 : decode cX7_reckons 127 = .ok (.iadd, 1) := by decide +kernel
theorem dX7_reckons_128 : decode cX7_reckons 128 = .ok (.iastore, 1) := by decide +kernel
theorem dX7_reckons_129 : decode cX7_reckons 129 = .ok (.iconst 0, 1) := by decide +kernel
theorem dX7_reckons_130 : decode cX7_reckons 130 = .ok (.istore 7, 2) := by decide +kernel
theorem dX7_reckons_132 : decode cX7_reckons 132 = .ok (.iload 7, 2) := by decide +kernel
theorem dX7_reckons_134 : decode cX7_reckons 134 = .ok (.iload_n 2, 1) := by decide +kernel
theorem dX7_reckons_135 : decode cX7_reckons 135 = .ok (.if_icmp .ge 136, 3) := by decide +kernel
theorem dX7_reckons_138 : decode cX7_reckons 138 = .ok (.iload 4, 2) := by decide +kernel
theorem dX7_reckons_140 : decode cX7_reckons 140 = .ok (.iload_n 3, 1) := by decide +kernel
theorem dX7_reckons_141 : decode cX7_reckons 141 = .ok (.if_icmp .ge 130, 3) := by decide +kernel
theorem dX7_reckons_144 : decode cX7_reckons 144 = .ok (.aload_n 0, 1) := by decide +kernel
theorem dX7_reckons_145 : decode cX7_reckons 145 = .ok (.getfield 13, 3) := by decide +kernel
theorem dX7_reckons_148 : decode cX7_reckons 148 = .ok (.iload 4, 2) := by decide +kernel
theorem dX7_reckons_150 : decode cX7_reckons 150 = .ok (.iconst 1, 1) := by decide +kernel
theorem dX7_reckons_151 : decode cX7_reckons 151 = .ok (.iadd, 1) := by decide +kernel
theorem dX7_reckons_152 : decode cX7_reckons 152 = .ok (.aload_n 0, 1) := by decide +kernel
theorem dX7_reckons_153 : decode cX7_reckons 153 = .ok (.getfield 20, 3) := by decide +kernel
theorem dX7_reckons_156 : decode cX7_reckons 156 = .ok (.iload 7, 2) := by decide +kernel
theorem dX7_reckons_158 : decode cX7_reckons 158 = .ok (.iadd, 1) := by decide +kernel
theorem dX7_reckons_159 : decode cX7_reckons 159 = .ok (.iastore, 1) := by decide +kernel
theorem dX7_reckons_160 : decode cX7_reckons 160 = .ok (.bipush 100, 2) := by decide +kernel
theorem dX7_reckons_162 : decode cX7_reckons 162 = .ok (.iload 4, 2) := by decide +kernel
theorem dX7_reckons_164 : decode cX7_reckons 164 = .ok (.iconst 1, 1) := by decide +kernel
theorem dX7_reckons_165 : decode cX7_reckons 165 = .ok (.iadd, 1) := by decide +kernel
theorem dX7_reckons_166 : decode cX7_reckons 166 = .ok (.imul, 1) := by decide +kernel
theorem dX7_reckons_167 : decode cX7_reckons 167 = .ok (.bipush 10, 2) := by decide +kernel
theorem dX7_reckons_169 : decode cX7_reckons 169 = .ok (.iload 5, 2) := by decide +kernel
theorem dX7_reckons_171 : decode cX7_reckons 171 = .ok (.iload_n 2, 1) := by decide +kernel
theorem dX7_reckons_172 : decode cX7_reckons 172 = .ok (.irem, 1) := by decide +kernel
theorem dX7_reckons_173 : decode cX7_reckons 173 = .ok (.imul, 1) := by decide +kernel
theorem dX7_reckons_174 : decode cX7_reckons 174 = .ok (.iadd, 1) := by decide +kernel
theorem dX7_reckons_175 : decode cX7_reckons 175 = .ok (.iload 7, 2) := by decide +kernel
theorem dX7_reckons_177 : decode cX7_reckons 177 = .ok (.iadd, 1) := by decide +kernel
theorem dX7_reckons_178 : decode cX7_reckons 178 = .ok (.istore 8, 2) := by decide +kernel
theorem dX7_reckons_180 : decode cX7_reckons 180 = .ok (.aload_n 0, 1) := by decide +kernel
theorem dX7_reckons_181 : decode cX7_reckons 181 = .ok (.iload 4, 2) := by decide +kernel
theorem dX7_reckons_183 : decode cX7_reckons 183 = .ok (.iconst 1, 1) := by decide +kernel
theorem dX7_reckons_184 : decode cX7_reckons 184 = .ok (.iadd, 1) := by decide +kernel
theorem dX7_reckons_185 : decode cX7_reckons 185 = .ok (.iload_n 1, 1) := by decide +kernel
theorem dX7_reckons_186 : decode cX7_reckons 186 = .ok (.invokevirtual 159, 3) := by decide +kernel
theorem dX7_reckons_189 : decode cX7_reckons 189 = .ok (.aload_n 0, 1) := by decide +kernel
theorem dX7_reckons_190 : decode cX7_reckons 190 = .ok (.getfield 29, 3) := by decide +kernel
theorem dX7_reckons_193 : decode cX7_reckons 193 = .ok (.iload 8, 2) := by decide +kernel
theorem dX7_reckons_195 : decode cX7_reckons 195 = .ok (.iaload, 1) := by decide +kernel
theorem dX7_reckons_196 : decode cX7_reckons 196 = .ok (.iadd, 1) := by decide +kernel
theorem dX7_reckons_197 : decode cX7_reckons 197 = .ok (.istore 9, 2) := by decide +kernel
theorem dX7_reckons_199 : decode cX7_reckons 199 = .ok (.aload_n 0, 1) := by decide +kernel
theorem dX7_reckons_200 : decode cX7_reckons 200 = .ok (.getfield 29, 3) := by decide +kernel
theorem dX7_reckons_203 : decode cX7_reckons 203 = .ok (.iload 6, 2) := by decide +kernel
theorem dX7_reckons_205 : decode cX7_reckons 205 = .ok (.iload 9, 2) := by decide +kernel
theorem dX7_reckons_207 : decode cX7_reckons 207 = .ok (.aload_n 0, 1) := by decide +kernel
theorem dX7_reckons_208 : decode cX7_reckons 208 = .ok (.getfield 29, 3) := by decide +kernel
theorem dX7_reckons_211 : decode cX7_reckons 211 = .ok (.iload 6, 2) := by decide +kernel
theorem dX7_reckons_213 : decode cX7_reckons 213 = .ok (.iaload, 1) := by decide +kernel
theorem dX7_reckons_214 : decode cX7_reckons 214 = .ok (.if_icmp .ge 8, 3) := by decide +kernel
theorem dX7_reckons_217 : decode cX7_reckons 217 = .ok (.iload 9, 2) := by decide +kernel
theorem dX7_reckons_219 : decode cX7_reckons 219 = .ok (.goto 10, 3) := by decide +kernel
theorem dX7_reckons_222 : decode cX7_reckons 222 = .ok (.aload_n 0, 1) := by decide +kernel
theorem dX7_reckons_223 : decode cX7_reckons 223 = .ok (.getfield 29, 3) := by decide +kernel
theorem dX7_reckons_226 : decode cX7_reckons 226 = .ok (.iload 6, 2) := by decide +kernel
theorem dX7_reckons_228 : decode cX7_reckons 228 = .ok (.iaload, 1) := by decide +kernel
theorem dX7_reckons_229 : decode cX7_reckons 229 = .ok (.iastore, 1) := by decide +kernel
theorem dX7_reckons_230 : decode cX7_reckons 230 = .ok (.aload_n 0, 1) := by decide +kernel
theorem dX7_reckons_231 : decode cX7_reckons 231 = .ok (.getfield 32, 3) := by decide +kernel
theorem dX7_reckons_234 : decode cX7_reckons 234 = .ok (.iload 6, 2) := by decide +kernel
theorem dX7_reckons_236 : decode cX7_reckons 236 = .ok (.dup2, 1) := by decide +kernel
theorem dX7_reckons_237 : decode cX7_reckons 237 = .ok (.laload, 1) := by decide +kernel
theorem dX7_reckons_238 : decode cX7_reckons 238 = .ok (.aload_n 0, 1) := by decide +kernel
theorem dX7_reckons_239 : decode cX7_reckons 239 = .ok (.iload 4, 2) := by decide +kernel
theorem dX7_reckons_241 : decode cX7_reckons 241 = .ok (.iconst 1, 1) := by decide +kernel
theorem dX7_reckons_242 : decode cX7_reckons 242 = .ok (.iadd, 1) := by decide +kernel
theorem dX7_reckons_243 : decode cX7_reckons 243 = .ok (.iload_n 1, 1) := by decide +kernel
theorem dX7_reckons_244 : decode cX7_reckons 244 = .ok (.invokevirtual 159, 3) := by decide +kernel
theorem dX7_reckons_247 : decode cX7_reckons 247 = .ok (.ldc 154, 2) := by decide +kernel
theorem dX7_reckons_249 : decode cX7_reckons 249 = .ok (.if_icmp .ge 13, 3) := by decide +kernel
theorem dX7_reckons_252 : decode cX7_reckons 252 = .ok (.aload_n 0, 1) := by decide +kernel
theorem dX7_reckons_253 : decode cX7_reckons 253 = .ok (.getfield 32, 3) := by decide +kernel
theorem dX7_reckons_256 : decode cX7_reckons 256 = .ok (.iload 8, 2) := by decide +kernel
theorem dX7_reckons_258 : decode cX7_reckons 258 = .ok (.laload, 1) := by decide +kernel
theorem dX7_reckons_259 : decode cX7_reckons 259 = .ok (.goto 4, 3) := by decide +kernel
theorem dX7_reckons_262 : decode cX7_reckons 262 = .ok (.lconst 0, 1) := by decide +kernel
theorem dX7_reckons_263 : decode cX7_reckons 263 = .ok (.ladd, 1) := by decide +kernel
theorem dX7_reckons_264 : decode cX7_reckons 264 = .ok (.lastore, 1) := by decide +kernel
theorem dX7_reckons_265 : decode cX7_reckons 265 = .ok (.iinc 7 1, 3) := by decide +kernel
theorem dX7_reckons_268 : decode cX7_reckons 268 = .ok (.goto (-136), 3) := by decide +kernel
theorem dX7_reckons_271 : decode cX7_reckons 271 = .ok (.iinc 5 1, 3) := by decide +kernel
theorem dX7_reckons_274 : decode cX7_reckons 274 = .ok (.goto (-244), 3) := by decide +kernel
theorem dX7_reckons_277 : decode cX7_reckons 277 = .ok (.iinc 4 (-1), 3) := by decide +kernel
theorem dX7_reckons_280 : decode cX7_reckons 280 = .ok (.goto (-258), 3) := by decide +kernel
theorem dX7_reckons_283 : decode cX7_reckons 283 = .ok (.return_, 1) := by decide +kernel
theorem dX7_paidFirst_0 : decode cX7_paidFirst 0 = .ok (.aload_n 0, 1) := by decide +kernel
theorem dX7_paidFirst_1 : decode cX7_paidFirst 1 = .ok (.iconst 0, 1) := by decide +kernel
theorem dX7_paidFirst_2 : decode cX7_paidFirst 2 = .ok (.iload_n 1, 1) := by decide +kernel
theorem dX7_paidFirst_3 : decode cX7_paidFirst 3 = .ok (.invokevirtual 159, 3) := by decide +kernel
theorem dX7_paidFirst_6 : decode cX7_paidFirst 6 = .ok (.aload_n 0, 1) := by decide +kernel
theorem dX7_paidFirst_7 : decode cX7_paidFirst 7 = .ok (.iconst 1, 1) := by decide +kernel
theorem dX7_paidFirst_8 : decode cX7_paidFirst 8 = .ok (.iload_n 1, 1) := by decide +kernel
theorem dX7_paidFirst_9 : decode cX7_paidFirst 9 = .ok (.invokevirtual 159, 3) := by decide +kernel
theorem dX7_paidFirst_12 : decode cX7_paidFirst 12 = .ok (.iadd, 1) := by decide +kernel
theorem dX7_paidFirst_13 : decode cX7_paidFirst 13 = .ok (.ireturn, 1) := by decide +kernel
theorem dX7_leastCost_0 : decode cX7_leastCost 0 = .ok (.aload_n 0, 1) := by decide +kernel
theorem dX7_leastCost_1 : decode cX7_leastCost 1 = .ok (.getfield 23, 3) := by decide +kernel
theorem dX7_leastCost_4 : decode cX7_leastCost 4 = .ok (.aload_n 0, 1) := by decide +kernel
theorem dX7_leastCost_5 : decode cX7_leastCost 5 = .ok (.getfield 20, 3) := by decide +kernel
theorem dX7_leastCost_8 : decode cX7_leastCost 8 = .ok (.isub, 1) := by decide +kernel
theorem dX7_leastCost_9 : decode cX7_leastCost 9 = .ok (.iconst 1, 1) := by decide +kernel
theorem dX7_leastCost_10 : decode cX7_leastCost 10 = .ok (.iadd, 1) := by decide +kernel
theorem dX7_leastCost_11 : decode cX7_leastCost 11 = .ok (.istore_n 2, 1) := by decide +kernel
theorem dX7_leastCost_12 : decode cX7_leastCost 12 = .ok (.ldc 154, 2) := by decide +kernel
theorem dX7_leastCost_14 : decode cX7_leastCost 14 = .ok (.istore_n 3, 1) := by decide +kernel
theorem dX7_leastCost_15 : decode cX7_leastCost 15 = .ok (.aload_n 0, 1) := by decide +kernel
theorem dX7_leastCost_16 : decode cX7_leastCost 16 = .ok (.iload_n 1, 1) := by decide +kernel
theorem dX7_leastCost_17 : decode cX7_leastCost 17 = .ok (.invokevirtual 162, 3) := by decide +kernel
theorem dX7_leastCost_20 : decode cX7_leastCost 20 = .ok (.iconst 0, 1) := by decide +kernel
theorem dX7_leastCost_21 : decode cX7_leastCost 21 = .ok (.istore 4, 2) := by decide +kernel
theorem dX7_leastCost_23 : decode cX7_leastCost 23 = .ok (.iload 4, 2) := by decide +kernel
theorem dX7_leastCost_25 : decode cX7_leastCost 25 = .ok (.iload_n 2, 1) := by decide +kernel
theorem dX7_leastCost_26 : decode cX7_leastCost 26 = .ok (.iload_n 2, 1) := by decide +kernel
theorem dX7_leastCost_27 : decode cX7_leastCost 27 = .ok (.imul, 1) := by decide +kernel
theorem dX7_leastCost_28 : decode cX7_leastCost 28 = .ok (.if_icmp .ge 80, 3) := by decide +kernel
theorem dX7_leastCost_31 : decode cX7_leastCost 31 = .ok (.aload_n 0, 1) := by decide +kernel
theorem dX7_leastCost_32 : decode cX7_leastCost 32 = .ok (.getfield 13, 3) := by decide +kernel
theorem dX7_leastCost_35 : decode cX7_leastCost 35 = .ok (.iconst 0, 1) := by decide +kernel
theorem dX7_leastCost_36 : decode cX7_leastCost 36 = .ok (.aload_n 0, 1) := by decide +kernel
theorem dX7_leastCost_37 : decode cX7_leastCost 37 = .ok (.getfield 20, 3) := by decide +kernel
theorem dX7_leastCost_40 : decode cX7_leastCost 40 = .ok (.iload 4, 2) := by decide +kernel
theorem dX7_leastCost_42 : decode cX7_leastCost 42 = .ok (.iload_n 2, 1) := by decide +kernel
theorem dX7_leastCost_43 : decode cX7_leastCost 43 = .ok (.idiv, 1) := by decide +kernel
theorem dX7_leastCost_44 : decode cX7_leastCost 44 = .ok (.iadd, 1) := by decide +kernel
theorem dX7_leastCost_45 : decode cX7_leastCost 45 = .ok (.iastore, 1) := by decide +kernel
theorem dX7_leastCost_46 : decode cX7_leastCost 46 = .ok (.aload_n 0, 1) := by decide +kernel
theorem dX7_leastCost_47 : decode cX7_leastCost 47 = .ok (.getfield 13, 3) := by decide +kernel
theorem dX7_leastCost_50 : decode cX7_leastCost 50 = .ok (.iconst 1, 1) := by decide +kernel
theorem dX7_leastCost_51 : decode cX7_leastCost 51 = .ok (.aload_n 0, 1) := by decide +kernel
theorem dX7_leastCost_52 : decode cX7_leastCost 52 = .ok (.getfield 20, 3) := by decide +kernel
theorem dX7_leastCost_55 : decode cX7_leastCost 55 = .ok (.iload 4, 2) := by decide +kernel
theorem dX7_leastCost_57 : decode cX7_leastCost 57 = .ok (.iload_n 2, 1) := by decide +kernel
theorem dX7_leastCost_58 : decode cX7_leastCost 58 = .ok (.irem, 1) := by decide +kernel
theorem dX7_leastCost_59 : decode cX7_leastCost 59 = .ok (.iadd, 1) := by decide +kernel
theorem dX7_leastCost_60 : decode cX7_leastCost 60 = .ok (.iastore, 1) := by decide +kernel
theorem dX7_leastCost_61 : decode cX7_leastCost 61 = .ok (.aload_n 0, 1) := by decide +kernel
theorem dX7_leastCost_62 : decode cX7_leastCost 62 = .ok (.iload_n 1, 1) := by decide +kernel
theorem dX7_leastCost_63 : decode cX7_leastCost 63 = .ok (.invokevirtual 166, 3) := by decide +kernel
theorem dX7_leastCost_66 : decode cX7_leastCost 66 = .ok (.aload_n 0, 1) := by decide +kernel
theorem dX7_leastCost_67 : decode cX7_leastCost 67 = .ok (.getfield 29, 3) := by decide +kernel
theorem dX7_leastCost_70 : decode cX7_leastCost 70 = .ok (.bipush 100, 2) := by decide +kernel
theorem dX7_leastCost_72 : decode cX7_leastCost 72 = .ok (.bipush 10, 2) := by decide +kernel
theorem dX7_leastCost_74 : decode cX7_leastCost 74 = .ok (.iload 4, 2) := by decide +kernel
theorem dX7_leastCost_76 : decode cX7_leastCost 76 = .ok (.iload_n 2, 1) := by decide +kernel
theorem dX7_leastCost_77 : decode cX7_leastCost 77 = .ok (.idiv, 1) := by decide +kernel
theorem dX7_leastCost_78 : decode cX7_leastCost 78 = .ok (.imul, 1) := by decide +kernel
theorem dX7_leastCost_79 : decode cX7_leastCost 79 = .ok (.iadd, 1) := by decide +kernel
theorem dX7_leastCost_80 : decode cX7_leastCost 80 = .ok (.iload 4, 2) := by decide +kernel
theorem dX7_leastCost_82 : decode cX7_leastCost 82 = .ok (.iload_n 2, 1) := by decide +kernel
theorem dX7_leastCost_83 : decode cX7_leastCost 83 = .ok (.irem, 1) := by decide +kernel
theorem dX7_leastCost_84 : decode cX7_leastCost 84 = .ok (.iadd, 1) := by decide +kernel
theorem dX7_leastCost_85 : decode cX7_leastCost 85 = .ok (.iaload, 1) := by decide +kernel
theorem dX7_leastCost_86 : decode cX7_leastCost 86 = .ok (.iadd, 1) := by decide +kernel
theorem dX7_leastCost_87 : decode cX7_leastCost 87 = .ok (.istore 5, 2) := by decide +kernel
theorem dX7_leastCost_89 : decode cX7_leastCost 89 = .ok (.iload 5, 2) := by decide +kernel
theorem dX7_leastCost_91 : decode cX7_leastCost 91 = .ok (.iload_n 3, 1) := by decide +kernel
theorem dX7_leastCost_92 : decode cX7_leastCost 92 = .ok (.if_icmp .ge 8, 3) := by decide +kernel
theorem dX7_leastCost_95 : decode cX7_leastCost 95 = .ok (.iload 5, 2) := by decide +kernel
theorem dX7_leastCost_97 : decode cX7_leastCost 97 = .ok (.goto 4, 3) := by decide +kernel
theorem dX7_leastCost_100 : decode cX7_leastCost 100 = .ok (.iload_n 3, 1) := by decide +kernel
theorem dX7_leastCost_101 : decode cX7_leastCost 101 = .ok (.istore_n 3, 1) := by decide +kernel
theorem dX7_leastCost_102 : decode cX7_leastCost 102 = .ok (.iinc 4 1, 3) := by decide +kernel
theorem dX7_leastCost_105 : decode cX7_leastCost 105 = .ok (.goto (-82), 3) := by decide +kernel
theorem dX7_leastCost_108 : decode cX7_leastCost 108 = .ok (.iload_n 3, 1) := by decide +kernel
theorem dX7_leastCost_109 : decode cX7_leastCost 109 = .ok (.ireturn, 1) := by decide +kernel
theorem dX7_keepsLine_0 : decode cX7_keepsLine 0 = .ok (.iconst 0, 1) := by decide +kernel
theorem dX7_keepsLine_1 : decode cX7_keepsLine 1 = .ok (.istore_n 3, 1) := by decide +kernel
theorem dX7_keepsLine_2 : decode cX7_keepsLine 2 = .ok (.iload_n 3, 1) := by decide +kernel
theorem dX7_keepsLine_3 : decode cX7_keepsLine 3 = .ok (.bipush 53, 2) := by decide +kernel
theorem dX7_keepsLine_5 : decode cX7_keepsLine 5 = .ok (.if_icmp .ge 34, 3) := by decide +kernel
theorem dX7_keepsLine_8 : decode cX7_keepsLine 8 = .ok (.iload_n 2, 1) := by decide +kernel
theorem dX7_keepsLine_9 : decode cX7_keepsLine 9 = .ok (.ifCond .eq 15, 3) := by decide +kernel
theorem dX7_keepsLine_12 : decode cX7_keepsLine 12 = .ok (.aload_n 0, 1) := by decide +kernel
theorem dX7_keepsLine_13 : decode cX7_keepsLine 13 = .ok (.getfield 13, 3) := by decide +kernel
theorem dX7_keepsLine_16 : decode cX7_keepsLine 16 = .ok (.iload_n 3, 1) := by decide +kernel
theorem dX7_keepsLine_17 : decode cX7_keepsLine 17 = .ok (.aload_n 1, 1) := by decide +kernel
theorem dX7_keepsLine_18 : decode cX7_keepsLine 18 = .ok (.iload_n 3, 1) := by decide +kernel
theorem dX7_keepsLine_19 : decode cX7_keepsLine 19 = .ok (.iaload, 1) := by decide +kernel
theorem dX7_keepsLine_20 : decode cX7_keepsLine 20 = .ok (.iastore, 1) := by decide +kernel
theorem dX7_keepsLine_21 : decode cX7_keepsLine 21 = .ok (.goto 12, 3) := by decide +kernel
theorem dX7_keepsLine_24 : decode cX7_keepsLine 24 = .ok (.aload_n 1, 1) := by decide +kernel
theorem dX7_keepsLine_25 : decode cX7_keepsLine 25 = .ok (.iload_n 3, 1) := by decide +kernel
theorem dX7_keepsLine_26 : decode cX7_keepsLine 26 = .ok (.aload_n 0, 1) := by decide +kernel
theorem dX7_keepsLine_27 : decode cX7_keepsLine 27 = .ok (.getfield 13, 3) := by decide +kernel
theorem dX7_keepsLine_30 : decode cX7_keepsLine 30 = .ok (.iload_n 3, 1) := by decide +kernel
theorem dX7_keepsLine_31 : decode cX7_keepsLine 31 = .ok (.iaload, 1) := by decide +kernel
theorem dX7_keepsLine_32 : decode cX7_keepsLine 32 = .ok (.iastore, 1) := by decide +kernel
theorem dX7_keepsLine_33 : decode cX7_keepsLine 33 = .ok (.iinc 3 1, 3) := by decide +kernel
theorem dX7_keepsLine_36 : decode cX7_keepsLine 36 = .ok (.goto (-34), 3) := by decide +kernel
theorem dX7_keepsLine_39 : decode cX7_keepsLine 39 = .ok (.iload_n 2, 1) := by decide +kernel
theorem dX7_keepsLine_40 : decode cX7_keepsLine 40 = .ok (.ireturn, 1) := by decide +kernel
theorem dX7_searchFault_0 : decode cX7_searchFault 0 = .ok (.aload_n 0, 1) := by decide +kernel
theorem dX7_searchFault_1 : decode cX7_searchFault 1 = .ok (.getfield 46, 3) := by decide +kernel
theorem dX7_searchFault_4 : decode cX7_searchFault 4 = .ok (.iconst 2, 1) := by decide +kernel
theorem dX7_searchFault_5 : decode cX7_searchFault 5 = .ok (.if_icmp .ge 7, 3) := by decide +kernel
theorem dX7_searchFault_8 : decode cX7_searchFault 8 = .ok (.iconst 1, 1) := by decide +kernel
theorem dX7_searchFault_9 : decode cX7_searchFault 9 = .ok (.goto 16, 3) := by decide +kernel
theorem dX7_searchFault_12 : decode cX7_searchFault 12 = .ok (.aload_n 0, 1) := by decide +kernel
theorem dX7_searchFault_13 : decode cX7_searchFault 13 = .ok (.getfield 16, 3) := by decide +kernel
theorem dX7_searchFault_16 : decode cX7_searchFault 16 = .ok (.iconst 4, 1) := by decide +kernel
theorem dX7_searchFault_17 : decode cX7_searchFault 17 = .ok (.if_icmp .ne 7, 3) := by decide +kernel
theorem dX7_searchFault_20 : decode cX7_searchFault 20 = .ok (.iconst 2, 1) := by decide +kernel
theorem dX7_searchFault_21 : decode cX7_searchFault 21 = .ok (.goto 4, 3) := by decide +kernel
theorem dX7_searchFault_24 : decode cX7_searchFault 24 = .ok (.iconst 0, 1) := by decide +kernel
theorem dX7_searchFault_25 : decode cX7_searchFault 25 = .ok (.ireturn, 1) := by decide +kernel
theorem dX7_find_0 : decode cX7_find 0 = .ok (.bipush 53, 2) := by decide +kernel
theorem dX7_find_2 : decode cX7_find 2 = .ok (.newarray .int, 2) := by decide +kernel
theorem dX7_find_4 : decode cX7_find 4 = .ok (.astore_n 1, 1) := by decide +kernel
theorem dX7_find_5 : decode cX7_find 5 = .ok (.aload_n 0, 1) := by decide +kernel
theorem dX7_find_6 : decode cX7_find 6 = .ok (.invokevirtual 169, 3) := by decide +kernel
theorem dX7_find_9 : decode cX7_find 9 = .ok (.istore_n 2, 1) := by decide +kernel
theorem dX7_find_10 : decode cX7_find 10 = .ok (.aload_n 0, 1) := by decide +kernel
theorem dX7_find_11 : decode cX7_find 11 = .ok (.aload_n 1, 1) := by decide +kernel
theorem dX7_find_12 : decode cX7_find 12 = .ok (.iconst 0, 1) := by decide +kernel
theorem dX7_find_13 : decode cX7_find 13 = .ok (.invokevirtual 172, 3) := by decide +kernel
theorem dX7_find_16 : decode cX7_find 16 = .ok (.istore_n 3, 1) := by decide +kernel
theorem dX7_find_17 : decode cX7_find 17 = .ok (.iload_n 2, 1) := by decide +kernel
theorem dX7_find_18 : decode cX7_find 18 = .ok (.ifCond .ne 11, 3) := by decide +kernel
theorem dX7_find_21 : decode cX7_find 21 = .ok (.aload_n 0, 1) := by decide +kernel
theorem dX7_find_22 : decode cX7_find 22 = .ok (.iconst 0, 1) := by decide +kernel
theorem dX7_find_23 : decode cX7_find 23 = .ok (.invokevirtual 176, 3) := by decide +kernel
theorem dX7_find_26 : decode cX7_find 26 = .ok (.goto 5, 3) := by decide +kernel
theorem dX7_find_29 : decode cX7_find 29 = .ok (.ldc 154, 2) := by decide +kernel
theorem dX7_find_31 : decode cX7_find 31 = .ok (.istore 4, 2) := by decide +kernel
theorem dX7_find_33 : decode cX7_find 33 = .ok (.aload_n 0, 1) := by decide +kernel
theorem dX7_find_34 : decode cX7_find 34 = .ok (.iload_n 2, 1) := by decide +kernel
theorem dX7_find_35 : decode cX7_find 35 = .ok (.ifCond .eq 7, 3) := by decide +kernel
theorem dX7_find_38 : decode cX7_find 38 = .ok (.iload_n 2, 1) := by decide +kernel
theorem dX7_find_39 : decode cX7_find 39 = .ok (.goto 15, 3) := by decide +kernel
theorem dX7_find_42 : decode cX7_find 42 = .ok (.iload 4, 2) := by decide +kernel
theorem dX7_find_44 : decode cX7_find 44 = .ok (.ldc 154, 2) := by decide +kernel
theorem dX7_find_46 : decode cX7_find 46 = .ok (.if_icmp .lt 7, 3) := by decide +kernel
theorem dX7_find_49 : decode cX7_find 49 = .ok (.iconst 3, 1) := by decide +kernel
theorem dX7_find_50 : decode cX7_find 50 = .ok (.goto 4, 3) := by decide +kernel
theorem dX7_find_53 : decode cX7_find 53 = .ok (.iconst 0, 1) := by decide +kernel
theorem dX7_find_54 : decode cX7_find 54 = .ok (.invokevirtual 125, 3) := by decide +kernel
theorem dX7_find_57 : decode cX7_find 57 = .ok (.ifCond .ne 12, 3) := by decide +kernel
theorem dX7_find_60 : decode cX7_find 60 = .ok (.aload_n 0, 1) := by decide +kernel
theorem dX7_find_61 : decode cX7_find 61 = .ok (.aload_n 1, 1) := by decide +kernel
theorem dX7_find_62 : decode cX7_find 62 = .ok (.iconst 1, 1) := by decide +kernel
theorem dX7_find_63 : decode cX7_find 63 = .ok (.invokevirtual 172, 3) := by decide +kernel
theorem dX7_find_66 : decode cX7_find 66 = .ok (.istore_n 3, 1) := by decide +kernel
theorem dX7_find_67 : decode cX7_find 67 = .ok (.iconst 0, 1) := by decide +kernel
theorem dX7_find_68 : decode cX7_find 68 = .ok (.ireturn, 1) := by decide +kernel
theorem dX7_find_69 : decode cX7_find 69 = .ok (.aload_n 0, 1) := by decide +kernel
theorem dX7_find_70 : decode cX7_find 70 = .ok (.getfield 23, 3) := by decide +kernel
theorem dX7_find_73 : decode cX7_find 73 = .ok (.aload_n 0, 1) := by decide +kernel
theorem dX7_find_74 : decode cX7_find 74 = .ok (.getfield 20, 3) := by decide +kernel
theorem dX7_find_77 : decode cX7_find 77 = .ok (.isub, 1) := by decide +kernel
theorem dX7_find_78 : decode cX7_find 78 = .ok (.iconst 1, 1) := by decide +kernel
theorem dX7_find_79 : decode cX7_find 79 = .ok (.iadd, 1) := by decide +kernel
theorem dX7_find_80 : decode cX7_find 80 = .ok (.istore 5, 2) := by decide +kernel
theorem dX7_find_82 : decode cX7_find 82 = .ok (.iload 4, 2) := by decide +kernel
theorem dX7_find_84 : decode cX7_find 84 = .ok (.istore 6, 2) := by decide +kernel
theorem dX7_find_86 : decode cX7_find 86 = .ok (.iconst 0, 1) := by decide +kernel
theorem dX7_find_87 : decode cX7_find 87 = .ok (.istore 7, 2) := by decide +kernel
theorem dX7_find_89 : decode cX7_find 89 = .ok (.iconst 0, 1) := by decide +kernel
theorem dX7_find_90 : decode cX7_find 90 = .ok (.istore 8, 2) := by decide +kernel
theorem dX7_find_92 : decode cX7_find 92 = .ok (.iload 8, 2) := by decide +kernel
theorem dX7_find_94 : decode cX7_find 94 = .ok (.iload 5, 2) := by decide +kernel
theorem dX7_find_96 : decode cX7_find 96 = .ok (.iload 5, 2) := by decide +kernel
theorem dX7_find_98 : decode cX7_find 98 = .ok (.imul, 1) := by decide +kernel
theorem dX7_find_99 : decode cX7_find 99 = .ok (.if_icmp .ge 104, 3) := by decide +kernel
theorem dX7_find_102 : decode cX7_find 102 = .ok (.iload 7, 2) := by decide +kernel
theorem dX7_find_104 : decode cX7_find 104 = .ok (.ifCond .ne 99, 3) := by decide +kernel
theorem dX7_find_107 : decode cX7_find 107 = .ok (.aload_n 0, 1) := by decide +kernel
theorem dX7_find_108 : decode cX7_find 108 = .ok (.getfield 13, 3) := by decide +kernel
theorem dX7_find_111 : decode cX7_find 111 = .ok (.iconst 0, 1) := by decide +kernel
theorem dX7_find_112 : decode cX7_find 112 = .ok (.aload_n 0, 1) := by decide +kernel
theorem dX7_find_113 : decode cX7_find 113 = .ok (.getfield 20, 3) := by decide +kernel
theorem dX7_find_116 : decode cX7_find 116 = .ok (.iload 8, 2) := by decide +kernel
theorem dX7_find_118 : decode cX7_find 118 = .ok (.iload 5, 2) := by decide +kernel
theorem dX7_find_120 : decode cX7_find 120 = .ok (.idiv, 1) := by decide +kernel
theorem dX7_find_121 : decode cX7_find 121 = .ok (.iadd, 1) := by decide +kernel
theorem dX7_find_122 : decode cX7_find 122 = .ok (.iastore, 1) := by decide +kernel
theorem dX7_find_123 : decode cX7_find 123 = .ok (.aload_n 0, 1) := by decide +kernel
theorem dX7_find_124 : decode cX7_find 124 = .ok (.getfield 13, 3) := by decide +kernel
theorem dX7_find_127 : decode cX7_find 127 = .ok (.iconst 1, 1) := by decide +kernel
theorem dX7_find_128 : decode cX7_find 128 = .ok (.aload_n 0, 1) := by decide +kernel
theorem dX7_find_129 : decode cX7_find 129 = .ok (.getfield 20, 3) := by decide +kernel
theorem dX7_find_132 : decode cX7_find 132 = .ok (.iload 8, 2) := by decide +kernel
theorem dX7_find_134 : decode cX7_find 134 = .ok (.iload 5, 2) := by decide +kernel
theorem dX7_find_136 : decode cX7_find 136 = .ok (.irem, 1) := by decide +kernel
theorem dX7_find_137 : decode cX7_find 137 = .ok (.iadd, 1) := by decide +kernel
theorem dX7_find_138 : decode cX7_find 138 = .ok (.iastore, 1) := by decide +kernel
theorem dX7_find_139 : decode cX7_find 139 = .ok (.aload_n 0, 1) := by decide +kernel
theorem dX7_find_140 : decode cX7_find 140 = .ok (.getfield 29, 3) := by decide +kernel
theorem dX7_find_143 : decode cX7_find 143 = .ok (.bipush 100, 2) := by decide +kernel
theorem dX7_find_145 : decode cX7_find 145 = .ok (.bipush 10, 2) := by decide +kernel
theorem dX7_find_147 : decode cX7_find 147 = .ok (.iload 8, 2) := by decide +kernel
theorem dX7_find_149 : decode cX7_find 149 = .ok (.iload 5, 2) := by decide +kernel
theorem dX7_find_151 : decode cX7_find 151 = .ok (.idiv, 1) := by decide +kernel
theorem dX7_find_152 : decode cX7_find 152 = .ok (.imul, 1) := by decide +kernel
theorem dX7_find_153 : decode cX7_find 153 = .ok (.iadd, 1) := by decide +kernel
theorem dX7_find_154 : decode cX7_find 154 = .ok (.iload 8, 2) := by decide +kernel
theorem dX7_find_156 : decode cX7_find 156 = .ok (.iload 5, 2) := by decide +kernel
theorem dX7_find_158 : decode cX7_find 158 = .ok (.irem, 1) := by decide +kernel
theorem dX7_find_159 : decode cX7_find 159 = .ok (.iadd, 1) := by decide +kernel
theorem dX7_find_160 : decode cX7_find 160 = .ok (.iaload, 1) := by decide +kernel
theorem dX7_find_161 : decode cX7_find 161 = .ok (.istore 9, 2) := by decide +kernel
theorem dX7_find_163 : decode cX7_find 163 = .ok (.aload_n 0, 1) := by decide +kernel
theorem dX7_find_164 : decode cX7_find 164 = .ok (.iconst 0, 1) := by decide +kernel
theorem dX7_find_165 : decode cX7_find 165 = .ok (.invokevirtual 166, 3) := by decide +kernel
theorem dX7_find_168 : decode cX7_find 168 = .ok (.iload 9, 2) := by decide +kernel
theorem dX7_find_170 : decode cX7_find 170 = .ok (.iadd, 1) := by decide +kernel
theorem dX7_find_171 : decode cX7_find 171 = .ok (.iload 4, 2) := by decide +kernel
theorem dX7_find_173 : decode cX7_find 173 = .ok (.if_icmp .ne 7, 3) := by decide +kernel
theorem dX7_find_176 : decode cX7_find 176 = .ok (.iconst 1, 1) := by decide +kernel
theorem dX7_find_177 : decode cX7_find 177 = .ok (.goto 4, 3) := by decide +kernel
theorem dX7_find_180 : decode cX7_find 180 = .ok (.iconst 0, 1) := by decide +kernel
theorem dX7_find_181 : decode cX7_find 181 = .ok (.istore 7, 2) := by decide +kernel
theorem dX7_find_183 : decode cX7_find 183 = .ok (.iload 7, 2) := by decide +kernel
theorem dX7_find_185 : decode cX7_find 185 = .ok (.ifCond .eq 8, 3) := by decide +kernel
theorem dX7_find_188 : decode cX7_find 188 = .ok (.iload 9, 2) := by decide +kernel
theorem dX7_find_190 : decode cX7_find 190 = .ok (.goto 5, 3) := by decide +kernel
theorem dX7_find_193 : decode cX7_find 193 = .ok (.iload 6, 2) := by decide +kernel
theorem dX7_find_195 : decode cX7_find 195 = .ok (.istore 6, 2) := by decide +kernel
theorem dX7_find_197 : decode cX7_find 197 = .ok (.iinc 8 1, 3) := by decide +kernel
theorem dX7_find_200 : decode cX7_find 200 = .ok (.goto (-108), 3) := by decide +kernel
theorem dX7_find_203 : decode cX7_find 203 = .ok (.aload_n 0, 1) := by decide +kernel
theorem dX7_find_204 : decode cX7_find 204 = .ok (.aload_n 0, 1) := by decide +kernel
theorem dX7_find_205 : decode cX7_find 205 = .ok (.invokevirtual 52, 3) := by decide +kernel
theorem dX7_find_208 : decode cX7_find 208 = .ok (.putfield 49, 3) := by decide +kernel
theorem dX7_find_211 : decode cX7_find 211 = .ok (.iconst 2, 1) := by decide +kernel
theorem dX7_find_212 : decode cX7_find 212 = .ok (.istore 8, 2) := by decide +kernel
theorem dX7_find_214 : decode cX7_find 214 = .ok (.iload 8, 2) := by decide +kernel
theorem dX7_find_216 : decode cX7_find 216 = .ok (.aload_n 0, 1) := by decide +kernel
theorem dX7_find_217 : decode cX7_find 217 = .ok (.getfield 49, 3) := by decide +kernel
theorem dX7_find_220 : decode cX7_find 220 = .ok (.if_icmp .ge 116, 3) := by decide +kernel
theorem dX7_find_223 : decode cX7_find 223 = .ok (.iconst 0, 1) := by decide +kernel
theorem dX7_find_224 : decode cX7_find 224 = .ok (.istore 9, 2) := by decide +kernel
theorem dX7_find_226 : decode cX7_find 226 = .ok (.iconst 0, 1) := by decide +kernel
theorem dX7_find_227 : decode cX7_find 227 = .ok (.istore 10, 2) := by decide +kernel
theorem dX7_find_229 : decode cX7_find 229 = .ok (.iload 10, 2) := by decide +kernel
theorem dX7_find_231 : decode cX7_find 231 = .ok (.iload 5, 2) := by decide +kernel
theorem dX7_find_233 : decode cX7_find 233 = .ok (.if_icmp .ge 97, 3) := by decide +kernel
theorem dX7_find_236 : decode cX7_find 236 = .ok (.iload 9, 2) := by decide +kernel
theorem dX7_find_238 : decode cX7_find 238 = .ok (.ifCond .ne 92, 3) := by decide +kernel
theorem dX7_find_241 : decode cX7_find 241 = .ok (.aload_n 0, 1) := by decide +kernel
theorem dX7_find_242 : decode cX7_find 242 = .ok (.getfield 13, 3) := by decide +kernel
theorem dX7_find_245 : decode cX7_find 245 = .ok (.iload 8, 2) := by decide +kernel
theorem dX7_find_247 : decode cX7_find 247 = .ok (.aload_n 0, 1) := by decide +kernel
theorem dX7_find_248 : decode cX7_find 248 = .ok (.getfield 20, 3) := by decide +kernel
theorem dX7_find_251 : decode cX7_find 251 = .ok (.iload 10, 2) := by decide +kernel
theorem dX7_find_253 : decode cX7_find 253 = .ok (.iadd, 1) := by decide +kernel
theorem dX7_find_254 : decode cX7_find 254 = .ok (.iastore, 1) := by decide +kernel
theorem dX7_find_255 : decode cX7_find 255 = .ok (.aload_n 0, 1) := by decide +kernel
theorem dX7_find_256 : decode cX7_find 256 = .ok (.getfield 29, 3) := by decide +kernel
theorem dX7_find_259 : decode cX7_find 259 = .ok (.bipush 100, 2) := by decide +kernel
theorem dX7_find_261 : decode cX7_find 261 = .ok (.iload 8, 2) := by decide +kernel
theorem dX7_find_263 : decode cX7_find 263 = .ok (.imul, 1) := by decide +kernel
theorem dX7_find_264 : decode cX7_find 264 = .ok (.bipush 10, 2) := by decide +kernel
theorem dX7_find_266 : decode cX7_find 266 = .ok (.aload_n 0, 1) := by decide +kernel
theorem dX7_find_267 : decode cX7_find 267 = .ok (.getfield 13, 3) := by decide +kernel
theorem dX7_find_270 : decode cX7_find 270 = .ok (.iload 8, 2) := by decide +kernel
theorem dX7_find_272 : decode cX7_find 272 = .ok (.iconst 1, 1) := by decide +kernel
theorem dX7_find_273 : decode cX7_find 273 = .ok (.isub, 1) := by decide +kernel
theorem dX7_find_274 : decode cX7_find 274 = .ok (.iaload, 1) := by decide +kernel
theorem dX7_find_275 : decode cX7_find 275 = .ok (.aload_n 0, 1) := by decide +kernel
theorem dX7_find_276 : decode cX7_find 276 = .ok (.getfield 20, 3) := by decide +kernel
theorem dX7_find_279 : decode cX7_find 279 = .ok (.isub, 1) := by decide +kernel
theorem dX7_find_280 : decode cX7_find 280 = .ok (.imul, 1) := by decide +kernel
theorem dX7_find_281 : decode cX7_find 281 = .ok (.iadd, 1) := by decide +kernel
theorem dX7_find_282 : decode cX7_find 282 = .ok (.iload 10, 2) := by decide +kernel
theorem dX7_find_284 : decode cX7_find 284 = .ok (.iadd, 1) := by decide +kernel
theorem dX7_find_285 : decode cX7_find 285 = .ok (.iaload, 1) := by decide +kernel
theorem dX7_find_286 : decode cX7_find 286 = .ok (.istore 11, 2) := by decide +kernel
theorem dX7_find_288 : decode cX7_find 288 = .ok (.aload_n 0, 1) := by decide +kernel
theorem dX7_find_289 : decode cX7_find 289 = .ok (.iload 8, 2) := by decide +kernel
theorem dX7_find_291 : decode cX7_find 291 = .ok (.iconst 0, 1) := by decide +kernel
theorem dX7_find_292 : decode cX7_find 292 = .ok (.invokevirtual 159, 3) := by decide +kernel
theorem dX7_find_295 : decode cX7_find 295 = .ok (.iload 11, 2) := by decide +kernel
theorem dX7_find_297 : decode cX7_find 297 = .ok (.iadd, 1) := by decide +kernel
theorem dX7_find_298 : decode cX7_find 298 = .ok (.iload 6, 2) := by decide +kernel
theorem dX7_find_300 : decode cX7_find 300 = .ok (.if_icmp .ne 7, 3) := by decide +kernel
theorem dX7_find_303 : decode cX7_find 303 = .ok (.iconst 1, 1) := by decide +kernel
theorem dX7_find_304 : decode cX7_find 304 = .ok (.goto 4, 3) := by decide +kernel
theorem dX7_find_307 : decode cX7_find 307 = .ok (.iconst 0, 1) := by decide +kernel
theorem dX7_find_308 : decode cX7_find 308 = .ok (.istore 9, 2) := by decide +kernel
theorem dX7_find_310 : decode cX7_find 310 = .ok (.iload 9, 2) := by decide +kernel
theorem dX7_find_312 : decode cX7_find 312 = .ok (.ifCond .eq 8, 3) := by decide +kernel
theorem dX7_find_315 : decode cX7_find 315 = .ok (.iload 11, 2) := by decide +kernel
theorem dX7_find_317 : decode cX7_find 317 = .ok (.goto 5, 3) := by decide +kernel
theorem dX7_find_320 : decode cX7_find 320 = .ok (.iload 6, 2) := by decide +kernel
theorem dX7_find_322 : decode cX7_find 322 = .ok (.istore 6, 2) := by decide +kernel
theorem dX7_find_324 : decode cX7_find 324 = .ok (.iinc 10 1, 3) := by decide +kernel
theorem dX7_find_327 : decode cX7_find 327 = .ok (.goto (-98), 3) := by decide +kernel
theorem dX7_find_330 : decode cX7_find 330 = .ok (.iinc 8 1, 3) := by decide +kernel
theorem dX7_find_333 : decode cX7_find 333 = .ok (.goto (-119), 3) := by decide +kernel
theorem dX7_find_336 : decode cX7_find 336 = .ok (.iload 4, 2) := by decide +kernel
theorem dX7_find_338 : decode cX7_find 338 = .ok (.ireturn, 1) := by decide +kernel
theorem dX7_goodWith_0 : decode cX7_goodWith 0 = .ok (.aload_n 0, 1) := by decide +kernel
theorem dX7_goodWith_1 : decode cX7_goodWith 1 = .ok (.getfield 23, 3) := by decide +kernel
theorem dX7_goodWith_4 : decode cX7_goodWith 4 = .ok (.aload_n 0, 1) := by decide +kernel
theorem dX7_goodWith_5 : decode cX7_goodWith 5 = .ok (.getfield 20, 3) := by decide +kernel
theorem dX7_goodWith_8 : decode cX7_goodWith 8 = .ok (.isub, 1) := by decide +kernel
theorem dX7_goodWith_9 : decode cX7_goodWith 9 = .ok (.iconst 1, 1) := by decide +kernel
theorem dX7_goodWith_10 : decode cX7_goodWith 10 = .ok (.iadd, 1) := by decide +kernel
theorem dX7_goodWith_11 : decode cX7_goodWith 11 = .ok (.istore_n 2, 1) := by decide +kernel
theorem dX7_goodWith_12 : decode cX7_goodWith 12 = .ok (.lconst 0, 1) := by decide +kernel
theorem dX7_goodWith_13 : decode cX7_goodWith 13 = .ok (.lstore_n 3, 1) := by decide +kernel
theorem dX7_goodWith_14 : decode cX7_goodWith 14 = .ok (.aload_n 0, 1) := by decide +kernel
theorem dX7_goodWith_15 : decode cX7_goodWith 15 = .ok (.iload_n 1, 1) := by decide +kernel
theorem dX7_goodWith_16 : decode cX7_goodWith 16 = .ok (.invokevirtual 162, 3) := by decide +kernel
theorem dX7_goodWith_19 : decode cX7_goodWith 19 = .ok (.iconst 0, 1) := by decide +kernel
theorem dX7_goodWith_20 : decode cX7_goodWith 20 = .ok (.istore 5, 2) := by decide +kernel
theorem dX7_goodWith_22 : decode cX7_goodWith 22 = .ok (.iload 5, 2) := by decide +kernel
theorem dX7_goodWith_24 : decode cX7_goodWith 24 = .ok (.iload_n 2, 1) := by decide +kernel
theorem dX7_goodWith_25 : decode cX7_goodWith 25 = .ok (.iload_n 2, 1) := by decide +kernel
theorem dX7_goodWith_26 : decode cX7_goodWith 26 = .ok (.imul, 1) := by decide +kernel
theorem dX7_goodWith_27 : decode cX7_goodWith 27 = .ok (.if_icmp .ge 76, 3) := by decide +kernel
theorem dX7_goodWith_30 : decode cX7_goodWith 30 = .ok (.aload_n 0, 1) := by decide +kernel
theorem dX7_goodWith_31 : decode cX7_goodWith 31 = .ok (.getfield 13, 3) := by decide +kernel
theorem dX7_goodWith_34 : decode cX7_goodWith 34 = .ok (.iconst 0, 1) := by decide +kernel
theorem dX7_goodWith_35 : decode cX7_goodWith 35 = .ok (.aload_n 0, 1) := by decide +kernel
theorem dX7_goodWith_36 : decode cX7_goodWith 36 = .ok (.getfield 20, 3) := by decide +kernel
theorem dX7_goodWith_39 : decode cX7_goodWith 39 = .ok (.iload 5, 2) := by decide +kernel
theorem dX7_goodWith_41 : decode cX7_goodWith 41 = .ok (.iload_n 2, 1) := by decide +kernel
theorem dX7_goodWith_42 : decode cX7_goodWith 42 = .ok (.idiv, 1) := by decide +kernel
theorem dX7_goodWith_43 : decode cX7_goodWith 43 = .ok (.iadd, 1) := by decide +kernel
theorem dX7_goodWith_44 : decode cX7_goodWith 44 = .ok (.iastore, 1) := by decide +kernel
theorem dX7_goodWith_45 : decode cX7_goodWith 45 = .ok (.aload_n 0, 1) := by decide +kernel
theorem dX7_goodWith_46 : decode cX7_goodWith 46 = .ok (.getfield 13, 3) := by decide +kernel
theorem dX7_goodWith_49 : decode cX7_goodWith 49 = .ok (.iconst 1, 1) := by decide +kernel
theorem dX7_goodWith_50 : decode cX7_goodWith 50 = .ok (.aload_n 0, 1) := by decide +kernel
theorem dX7_goodWith_51 : decode cX7_goodWith 51 = .ok (.getfield 20, 3) := by decide +kernel
theorem dX7_goodWith_54 : decode cX7_goodWith 54 = .ok (.iload 5, 2) := by decide +kernel
theorem dX7_goodWith_56 : decode cX7_goodWith 56 = .ok (.iload_n 2, 1) := by decide +kernel
theorem dX7_goodWith_57 : decode cX7_goodWith 57 = .ok (.irem, 1) := by decide +kernel
theorem dX7_goodWith_58 : decode cX7_goodWith 58 = .ok (.iadd, 1) := by decide +kernel
theorem dX7_goodWith_59 : decode cX7_goodWith 59 = .ok (.iastore, 1) := by decide +kernel
theorem dX7_goodWith_60 : decode cX7_goodWith 60 = .ok (.lload_n 3, 1) := by decide +kernel
theorem dX7_goodWith_61 : decode cX7_goodWith 61 = .ok (.aload_n 0, 1) := by decide +kernel
theorem dX7_goodWith_62 : decode cX7_goodWith 62 = .ok (.iload_n 1, 1) := by decide +kernel
theorem dX7_goodWith_63 : decode cX7_goodWith 63 = .ok (.invokevirtual 166, 3) := by decide +kernel
theorem dX7_goodWith_66 : decode cX7_goodWith 66 = .ok (.ldc 154, 2) := by decide +kernel
theorem dX7_goodWith_68 : decode cX7_goodWith 68 = .ok (.if_icmp .ge 26, 3) := by decide +kernel
theorem dX7_goodWith_71 : decode cX7_goodWith 71 = .ok (.aload_n 0, 1) := by decide +kernel
theorem dX7_goodWith_72 : decode cX7_goodWith 72 = .ok (.getfield 32, 3) := by decide +kernel
theorem dX7_goodWith_75 : decode cX7_goodWith 75 = .ok (.bipush 100, 2) := by decide +kernel
theorem dX7_goodWith_77 : decode cX7_goodWith 77 = .ok (.bipush 10, 2) := by decide +kernel
theorem dX7_goodWith_79 : decode cX7_goodWith 79 = .ok (.iload 5, 2) := by decide +kernel
theorem dX7_goodWith_81 : decode cX7_goodWith 81 = .ok (.iload_n 2, 1) := by decide +kernel
theorem dX7_goodWith_82 : decode cX7_goodWith 82 = .ok (.idiv, 1) := by decide +kernel
theorem dX7_goodWith_83 : decode cX7_goodWith 83 = .ok (.imul, 1) := by decide +kernel
theorem dX7_goodWith_84 : decode cX7_goodWith 84 = .ok (.iadd, 1) := by decide +kernel
theorem dX7_goodWith_85 : decode cX7_goodWith 85 = .ok (.iload 5, 2) := by decide +kernel
theorem dX7_goodWith_87 : decode cX7_goodWith 87 = .ok (.iload_n 2, 1) := by decide +kernel
theorem dX7_goodWith_88 : decode cX7_goodWith 88 = .ok (.irem, 1) := by decide +kernel
theorem dX7_goodWith_89 : decode cX7_goodWith 89 = .ok (.iadd, 1) := by decide +kernel
theorem dX7_goodWith_90 : decode cX7_goodWith 90 = .ok (.laload, 1) := by decide +kernel
theorem dX7_goodWith_91 : decode cX7_goodWith 91 = .ok (.goto 4, 3) := by decide +kernel
theorem dX7_goodWith_94 : decode cX7_goodWith 94 = .ok (.lconst 0, 1) := by decide +kernel
theorem dX7_goodWith_95 : decode cX7_goodWith 95 = .ok (.ladd, 1) := by decide +kernel
theorem dX7_goodWith_96 : decode cX7_goodWith 96 = .ok (.lstore_n 3, 1) := by decide +kernel
theorem dX7_goodWith_97 : decode cX7_goodWith 97 = .ok (.iinc 5 1, 3) := by decide +kernel
theorem dX7_goodWith_100 : decode cX7_goodWith 100 = .ok (.goto (-78), 3) := by decide +kernel
theorem dX7_goodWith_103 : decode cX7_goodWith 103 = .ok (.lload_n 3, 1) := by decide +kernel
theorem dX7_goodWith_104 : decode cX7_goodWith 104 = .ok (.lreturn, 1) := by decide +kernel
theorem dX7_goodLines_0 : decode cX7_goodLines 0 = .ok (.aload_n 0, 1) := by decide +kernel
theorem dX7_goodLines_1 : decode cX7_goodLines 1 = .ok (.invokevirtual 169, 3) := by decide +kernel
theorem dX7_goodLines_4 : decode cX7_goodLines 4 = .ok (.istore_n 1, 1) := by decide +kernel
theorem dX7_goodLines_5 : decode cX7_goodLines 5 = .ok (.aload_n 0, 1) := by decide +kernel
theorem dX7_goodLines_6 : decode cX7_goodLines 6 = .ok (.iload_n 1, 1) := by decide +kernel
theorem dX7_goodLines_7 : decode cX7_goodLines 7 = .ok (.invokevirtual 125, 3) := by decide +kernel
theorem dX7_goodLines_10 : decode cX7_goodLines 10 = .ok (.ifCond .ne 5, 3) := by decide +kernel
theorem dX7_goodLines_13 : decode cX7_goodLines 13 = .ok (.lconst 0, 1) := by decide +kernel
theorem dX7_goodLines_14 : decode cX7_goodLines 14 = .ok (.lreturn, 1) := by decide +kernel
theorem dX7_goodLines_15 : decode cX7_goodLines 15 = .ok (.bipush 53, 2) := by decide +kernel
theorem dX7_goodLines_17 : decode cX7_goodLines 17 = .ok (.newarray .int, 2) := by decide +kernel
theorem dX7_goodLines_19 : decode cX7_goodLines 19 = .ok (.astore_n 2, 1) := by decide +kernel
theorem dX7_goodLines_20 : decode cX7_goodLines 20 = .ok (.aload_n 0, 1) := by decide +kernel
theorem dX7_goodLines_21 : decode cX7_goodLines 21 = .ok (.aload_n 2, 1) := by decide +kernel
theorem dX7_goodLines_22 : decode cX7_goodLines 22 = .ok (.iconst 0, 1) := by decide +kernel
theorem dX7_goodLines_23 : decode cX7_goodLines 23 = .ok (.invokevirtual 172, 3) := by decide +kernel
theorem dX7_goodLines_26 : decode cX7_goodLines 26 = .ok (.istore_n 3, 1) := by decide +kernel
theorem dX7_goodLines_27 : decode cX7_goodLines 27 = .ok (.aload_n 0, 1) := by decide +kernel
theorem dX7_goodLines_28 : decode cX7_goodLines 28 = .ok (.iconst 0, 1) := by decide +kernel
theorem dX7_goodLines_29 : decode cX7_goodLines 29 = .ok (.invokevirtual 179, 3) := by decide +kernel
theorem dX7_goodLines_32 : decode cX7_goodLines 32 = .ok (.lstore 4, 2) := by decide +kernel
theorem dX7_goodLines_34 : decode cX7_goodLines 34 = .ok (.aload_n 0, 1) := by decide +kernel
theorem dX7_goodLines_35 : decode cX7_goodLines 35 = .ok (.aload_n 2, 1) := by decide +kernel
theorem dX7_goodLines_36 : decode cX7_goodLines 36 = .ok (.iconst 1, 1) := by decide +kernel
theorem dX7_goodLines_37 : decode cX7_goodLines 37 = .ok (.invokevirtual 172, 3) := by decide +kernel
theorem dX7_goodLines_40 : decode cX7_goodLines 40 = .ok (.istore_n 3, 1) := by decide +kernel
theorem dX7_goodLines_41 : decode cX7_goodLines 41 = .ok (.lload 4, 2) := by decide +kernel
theorem dX7_goodLines_43 : decode cX7_goodLines 43 = .ok (.lreturn, 1) := by decide +kernel
theorem dX7_bar_0 : decode cX7_bar 0 = .ok (.bipush 53, 2) := by decide +kernel
theorem dX7_bar_2 : decode cX7_bar 2 = .ok (.newarray .int, 2) := by decide +kernel
theorem dX7_bar_4 : decode cX7_bar 4 = .ok (.astore_n 1, 1) := by decide +kernel
theorem dX7_bar_5 : decode cX7_bar 5 = .ok (.aload_n 0, 1) := by decide +kernel
theorem dX7_bar_6 : decode cX7_bar 6 = .ok (.aload_n 1, 1) := by decide +kernel
theorem dX7_bar_7 : decode cX7_bar 7 = .ok (.iconst 0, 1) := by decide +kernel
theorem dX7_bar_8 : decode cX7_bar 8 = .ok (.invokevirtual 172, 3) := by decide +kernel
theorem dX7_bar_11 : decode cX7_bar 11 = .ok (.istore_n 2, 1) := by decide +kernel
theorem dX7_bar_12 : decode cX7_bar 12 = .ok (.iconst 0, 1) := by decide +kernel
theorem dX7_bar_13 : decode cX7_bar 13 = .ok (.istore_n 3, 1) := by decide +kernel
theorem dX7_bar_14 : decode cX7_bar 14 = .ok (.aload_n 0, 1) := by decide +kernel
theorem dX7_bar_15 : decode cX7_bar 15 = .ok (.iconst 0, 1) := by decide +kernel
theorem dX7_bar_16 : decode cX7_bar 16 = .ok (.invokevirtual 176, 3) := by decide +kernel
theorem dX7_bar_19 : decode cX7_bar 19 = .ok (.ldc 154, 2) := by decide +kernel
theorem dX7_bar_21 : decode cX7_bar 21 = .ok (.if_icmp .ge 12, 3) := by decide +kernel
theorem dX7_bar_24 : decode cX7_bar 24 = .ok (.aload_n 0, 1) := by decide +kernel
theorem dX7_bar_25 : decode cX7_bar 25 = .ok (.aload_n 1, 1) := by decide +kernel
theorem dX7_bar_26 : decode cX7_bar 26 = .ok (.iconst 1, 1) := by decide +kernel
theorem dX7_bar_27 : decode cX7_bar 27 = .ok (.invokevirtual 172, 3) := by decide +kernel
theorem dX7_bar_30 : decode cX7_bar 30 = .ok (.istore_n 2, 1) := by decide +kernel
theorem dX7_bar_31 : decode cX7_bar 31 = .ok (.iconst 0, 1) := by decide +kernel
theorem dX7_bar_32 : decode cX7_bar 32 = .ok (.ireturn, 1) := by decide +kernel
theorem dX7_bar_33 : decode cX7_bar 33 = .ok (.iconst 0, 1) := by decide +kernel
theorem dX7_bar_34 : decode cX7_bar 34 = .ok (.istore 4, 2) := by decide +kernel
theorem dX7_bar_36 : decode cX7_bar 36 = .ok (.iconst 0, 1) := by decide +kernel
theorem dX7_bar_37 : decode cX7_bar 37 = .ok (.istore 5, 2) := by decide +kernel
theorem dX7_bar_39 : decode cX7_bar 39 = .ok (.iload 5, 2) := by decide +kernel
theorem dX7_bar_41 : decode cX7_bar 41 = .ok (.bipush 12, 2) := by decide +kernel
theorem dX7_bar_43 : decode cX7_bar 43 = .ok (.if_icmp .ge 56, 3) := by decide +kernel
theorem dX7_bar_46 : decode cX7_bar 46 = .ok (.aload_n 0, 1) := by decide +kernel
theorem dX7_bar_47 : decode cX7_bar 47 = .ok (.getfield 26, 3) := by decide +kernel
theorem dX7_bar_50 : decode cX7_bar 50 = .ok (.iload 5, 2) := by decide +kernel
theorem dX7_bar_52 : decode cX7_bar 52 = .ok (.iaload, 1) := by decide +kernel
theorem dX7_bar_53 : decode cX7_bar 53 = .ok (.bipush 10, 2) := by decide +kernel
theorem dX7_bar_55 : decode cX7_bar 55 = .ok (.if_icmp .ne 38, 3) := by decide +kernel
theorem dX7_bar_58 : decode cX7_bar 58 = .ok (.iload_n 3, 1) := by decide +kernel
theorem dX7_bar_59 : decode cX7_bar 59 = .ok (.aload_n 0, 1) := by decide +kernel
theorem dX7_bar_60 : decode cX7_bar 60 = .ok (.iload_n 3, 1) := by decide +kernel
theorem dX7_bar_61 : decode cX7_bar 61 = .ok (.iconst 1, 1) := by decide +kernel
theorem dX7_bar_62 : decode cX7_bar 62 = .ok (.iload 5, 2) := by decide +kernel
theorem dX7_bar_64 : decode cX7_bar 64 = .ok (.ishl, 1) := by decide +kernel
theorem dX7_bar_65 : decode cX7_bar 65 = .ok (.ior, 1) := by decide +kernel
theorem dX7_bar_66 : decode cX7_bar 66 = .ok (.invokevirtual 176, 3) := by decide +kernel
theorem dX7_bar_69 : decode cX7_bar 69 = .ok (.ldc 154, 2) := by decide +kernel
theorem dX7_bar_71 : decode cX7_bar 71 = .ok (.if_icmp .lt 10, 3) := by decide +kernel
theorem dX7_bar_74 : decode cX7_bar 74 = .ok (.iconst 1, 1) := by decide +kernel
theorem dX7_bar_75 : decode cX7_bar 75 = .ok (.iload 5, 2) := by decide +kernel
theorem dX7_bar_77 : decode cX7_bar 77 = .ok (.ishl, 1) := by decide +kernel
theorem dX7_bar_78 : decode cX7_bar 78 = .ok (.goto 4, 3) := by decide +kernel
theorem dX7_bar_81 : decode cX7_bar 81 = .ok (.iconst 0, 1) := by decide +kernel
theorem dX7_bar_82 : decode cX7_bar 82 = .ok (.ior, 1) := by decide +kernel
theorem dX7_bar_83 : decode cX7_bar 83 = .ok (.istore_n 3, 1) := by decide +kernel
theorem dX7_bar_84 : decode cX7_bar 84 = .ok (.iload 4, 2) := by decide +kernel
theorem dX7_bar_86 : decode cX7_bar 86 = .ok (.iconst 1, 1) := by decide +kernel
theorem dX7_bar_87 : decode cX7_bar 87 = .ok (.iload 5, 2) := by decide +kernel
theorem dX7_bar_89 : decode cX7_bar 89 = .ok (.ishl, 1) := by decide +kernel
theorem dX7_bar_90 : decode cX7_bar 90 = .ok (.ior, 1) := by decide +kernel
theorem dX7_bar_91 : decode cX7_bar 91 = .ok (.istore 4, 2) := by decide +kernel
theorem dX7_bar_93 : decode cX7_bar 93 = .ok (.iinc 5 1, 3) := by decide +kernel
theorem dX7_bar_96 : decode cX7_bar 96 = .ok (.goto (-57), 3) := by decide +kernel
theorem dX7_bar_99 : decode cX7_bar 99 = .ok (.aload_n 0, 1) := by decide +kernel
theorem dX7_bar_100 : decode cX7_bar 100 = .ok (.aload_n 1, 1) := by decide +kernel
theorem dX7_bar_101 : decode cX7_bar 101 = .ok (.iconst 1, 1) := by decide +kernel
theorem dX7_bar_102 : decode cX7_bar 102 = .ok (.invokevirtual 172, 3) := by decide +kernel
theorem dX7_bar_105 : decode cX7_bar 105 = .ok (.istore_n 2, 1) := by decide +kernel
theorem dX7_bar_106 : decode cX7_bar 106 = .ok (.iload 4, 2) := by decide +kernel
theorem dX7_bar_108 : decode cX7_bar 108 = .ok (.iload_n 3, 1) := by decide +kernel
theorem dX7_bar_109 : decode cX7_bar 109 = .ok (.iconst (-1), 1) := by decide +kernel
theorem dX7_bar_110 : decode cX7_bar 110 = .ok (.ixor, 1) := by decide +kernel
theorem dX7_bar_111 : decode cX7_bar 111 = .ok (.iand, 1) := by decide +kernel
theorem dX7_bar_112 : decode cX7_bar 112 = .ok (.ireturn, 1) := by decide +kernel
theorem dX7_bars_0 : decode cX7_bars 0 = .ok (.aload_n 0, 1) := by decide +kernel
theorem dX7_bars_1 : decode cX7_bars 1 = .ok (.invokevirtual 169, 3) := by decide +kernel
theorem dX7_bars_4 : decode cX7_bars 4 = .ok (.istore_n 1, 1) := by decide +kernel
theorem dX7_bars_5 : decode cX7_bars 5 = .ok (.aload_n 0, 1) := by decide +kernel
theorem dX7_bars_6 : decode cX7_bars 6 = .ok (.iload_n 1, 1) := by decide +kernel
theorem dX7_bars_7 : decode cX7_bars 7 = .ok (.invokevirtual 125, 3) := by decide +kernel
theorem dX7_bars_10 : decode cX7_bars 10 = .ok (.ifCond .ne 5, 3) := by decide +kernel
theorem dX7_bars_13 : decode cX7_bars 13 = .ok (.iconst 0, 1) := by decide +kernel
theorem dX7_bars_14 : decode cX7_bars 14 = .ok (.ireturn, 1) := by decide +kernel
theorem dX7_bars_15 : decode cX7_bars 15 = .ok (.aload_n 0, 1) := by decide +kernel
theorem dX7_bars_16 : decode cX7_bars 16 = .ok (.aload_n 0, 1) := by decide +kernel
theorem dX7_bars_17 : decode cX7_bars 17 = .ok (.invokevirtual 183, 3) := by decide +kernel
theorem dX7_bars_20 : decode cX7_bars 20 = .ok (.putfield 186, 3) := by decide +kernel
theorem dX7_bars_23 : decode cX7_bars 23 = .ok (.iconst 0, 1) := by decide +kernel
theorem dX7_bars_24 : decode cX7_bars 24 = .ok (.istore_n 2, 1) := by decide +kernel
theorem dX7_bars_25 : decode cX7_bars 25 = .ok (.iconst 0, 1) := by decide +kernel
theorem dX7_bars_26 : decode cX7_bars 26 = .ok (.istore_n 3, 1) := by decide +kernel
theorem dX7_bars_27 : decode cX7_bars 27 = .ok (.iload_n 3, 1) := by decide +kernel
theorem dX7_bars_28 : decode cX7_bars 28 = .ok (.bipush 12, 2) := by decide +kernel
theorem dX7_bars_30 : decode cX7_bars 30 = .ok (.if_icmp .ge 20, 3) := by decide +kernel
theorem dX7_bars_33 : decode cX7_bars 33 = .ok (.iload_n 2, 1) := by decide +kernel
theorem dX7_bars_34 : decode cX7_bars 34 = .ok (.aload_n 0, 1) := by decide +kernel
theorem dX7_bars_35 : decode cX7_bars 35 = .ok (.getfield 186, 3) := by decide +kernel
theorem dX7_bars_38 : decode cX7_bars 38 = .ok (.iload_n 3, 1) := by decide +kernel
theorem dX7_bars_39 : decode cX7_bars 39 = .ok (.ishr, 1) := by decide +kernel
theorem dX7_bars_40 : decode cX7_bars 40 = .ok (.iconst 1, 1) := by decide +kernel
theorem dX7_bars_41 : decode cX7_bars 41 = .ok (.iand, 1) := by decide +kernel
theorem dX7_bars_42 : decode cX7_bars 42 = .ok (.iadd, 1) := by decide +kernel
theorem dX7_bars_43 : decode cX7_bars 43 = .ok (.istore_n 2, 1) := by decide +kernel
theorem dX7_bars_44 : decode cX7_bars 44 = .ok (.iinc 3 1, 3) := by decide +kernel
theorem dX7_bars_47 : decode cX7_bars 47 = .ok (.goto (-20), 3) := by decide +kernel
theorem dX7_bars_50 : decode cX7_bars 50 = .ok (.iload_n 2, 1) := by decide +kernel
theorem dX7_bars_51 : decode cX7_bars 51 = .ok (.ireturn, 1) := by decide +kernel
theorem dX7_barAt_0 : decode cX7_barAt 0 = .ok (.aload_n 0, 1) := by decide +kernel
theorem dX7_barAt_1 : decode cX7_barAt 1 = .ok (.invokevirtual 169, 3) := by decide +kernel
theorem dX7_barAt_4 : decode cX7_barAt 4 = .ok (.istore_n 2, 1) := by decide +kernel
theorem dX7_barAt_5 : decode cX7_barAt 5 = .ok (.aload_n 0, 1) := by decide +kernel
theorem dX7_barAt_6 : decode cX7_barAt 6 = .ok (.iload_n 2, 1) := by decide +kernel
theorem dX7_barAt_7 : decode cX7_barAt 7 = .ok (.ifCond .ne 10, 3) := by decide +kernel
theorem dX7_barAt_10 : decode cX7_barAt 10 = .ok (.aload_n 0, 1) := by decide +kernel
theorem dX7_barAt_11 : decode cX7_barAt 11 = .ok (.invokevirtual 183, 3) := by decide +kernel
theorem dX7_barAt_14 : decode cX7_barAt 14 = .ok (.goto 4, 3) := by decide +kernel
theorem dX7_barAt_17 : decode cX7_barAt 17 = .ok (.iconst 0, 1) := by decide +kernel
theorem dX7_barAt_18 : decode cX7_barAt 18 = .ok (.putfield 186, 3) := by decide +kernel
theorem dX7_barAt_21 : decode cX7_barAt 21 = .ok (.iload_n 1, 1) := by decide +kernel
theorem dX7_barAt_22 : decode cX7_barAt 22 = .ok (.istore_n 3, 1) := by decide +kernel
theorem dX7_barAt_23 : decode cX7_barAt 23 = .ok (.iconst (-1), 1) := by decide +kernel
theorem dX7_barAt_24 : decode cX7_barAt 24 = .ok (.istore 4, 2) := by decide +kernel
theorem dX7_barAt_26 : decode cX7_barAt 26 = .ok (.iconst 0, 1) := by decide +kernel
theorem dX7_barAt_27 : decode cX7_barAt 27 = .ok (.istore 5, 2) := by decide +kernel
theorem dX7_barAt_29 : decode cX7_barAt 29 = .ok (.iload 5, 2) := by decide +kernel
theorem dX7_barAt_31 : decode cX7_barAt 31 = .ok (.bipush 12, 2) := by decide +kernel
theorem dX7_barAt_33 : decode cX7_barAt 33 = .ok (.if_icmp .ge 38, 3) := by decide +kernel
theorem dX7_barAt_36 : decode cX7_barAt 36 = .ok (.aload_n 0, 1) := by decide +kernel
theorem dX7_barAt_37 : decode cX7_barAt 37 = .ok (.getfield 186, 3) := by decide +kernel
theorem dX7_barAt_40 : decode cX7_barAt 40 = .ok (.iload 5, 2) := by decide +kernel
theorem dX7_barAt_42 : decode cX7_barAt 42 = .ok (.ishr, 1) := by decide +kernel
theorem dX7_barAt_43 : decode cX7_barAt 43 = .ok (.iconst 1, 1) := by decide +kernel
theorem dX7_barAt_44 : decode cX7_barAt 44 = .ok (.iand, 1) := by decide +kernel
theorem dX7_barAt_45 : decode cX7_barAt 45 = .ok (.iconst 1, 1) := by decide +kernel
theorem dX7_barAt_46 : decode cX7_barAt 46 = .ok (.if_icmp .ne 19, 3) := by decide +kernel
theorem dX7_barAt_49 : decode cX7_barAt 49 = .ok (.iload_n 3, 1) := by decide +kernel
theorem dX7_barAt_50 : decode cX7_barAt 50 = .ok (.ifCond .ne 8, 3) := by decide +kernel
theorem dX7_barAt_53 : decode cX7_barAt 53 = .ok (.iload 5, 2) := by decide +kernel
theorem dX7_barAt_55 : decode cX7_barAt 55 = .ok (.goto 5, 3) := by decide +kernel
theorem dX7_barAt_58 : decode cX7_barAt 58 = .ok (.iload 4, 2) := by decide +kernel
theorem dX7_barAt_60 : decode cX7_barAt 60 = .ok (.istore 4, 2) := by decide +kernel
theorem dX7_barAt_62 : decode cX7_barAt 62 = .ok (.iinc 3 (-1), 3) := by decide +kernel
theorem dX7_barAt_65 : decode cX7_barAt 65 = .ok (.iinc 5 1, 3) := by decide +kernel
theorem dX7_barAt_68 : decode cX7_barAt 68 = .ok (.goto (-39), 3) := by decide +kernel
theorem dX7_barAt_71 : decode cX7_barAt 71 = .ok (.aload_n 0, 1) := by decide +kernel
theorem dX7_barAt_72 : decode cX7_barAt 72 = .ok (.iload_n 2, 1) := by decide +kernel
theorem dX7_barAt_73 : decode cX7_barAt 73 = .ok (.ifCond .eq 7, 3) := by decide +kernel
theorem dX7_barAt_76 : decode cX7_barAt 76 = .ok (.iload_n 2, 1) := by decide +kernel
theorem dX7_barAt_77 : decode cX7_barAt 77 = .ok (.goto 14, 3) := by decide +kernel
theorem dX7_barAt_80 : decode cX7_barAt 80 = .ok (.iload 4, 2) := by decide +kernel
theorem dX7_barAt_82 : decode cX7_barAt 82 = .ok (.iconst (-1), 1) := by decide +kernel
theorem dX7_barAt_83 : decode cX7_barAt 83 = .ok (.if_icmp .ne 7, 3) := by decide +kernel
theorem dX7_barAt_86 : decode cX7_barAt 86 = .ok (.iconst 3, 1) := by decide +kernel
theorem dX7_barAt_87 : decode cX7_barAt 87 = .ok (.goto 4, 3) := by decide +kernel
theorem dX7_barAt_90 : decode cX7_barAt 90 = .ok (.iconst 0, 1) := by decide +kernel
theorem dX7_barAt_91 : decode cX7_barAt 91 = .ok (.invokevirtual 125, 3) := by decide +kernel
theorem dX7_barAt_94 : decode cX7_barAt 94 = .ok (.ifCond .eq 11, 3) := by decide +kernel
theorem dX7_barAt_97 : decode cX7_barAt 97 = .ok (.iload 4, 2) := by decide +kernel
theorem dX7_barAt_99 : decode cX7_barAt 99 = .ok (.invokestatic 80, 3) := by decide +kernel
theorem dX7_barAt_102 : decode cX7_barAt 102 = .ok (.goto 4, 3) := by decide +kernel
theorem dX7_barAt_105 : decode cX7_barAt 105 = .ok (.iconst 0, 1) := by decide +kernel
theorem dX7_barAt_106 : decode cX7_barAt 106 = .ok (.ireturn, 1) := by decide +kernel
theorem dX7_exchanged_0 : decode cX7_exchanged 0 = .ok (.aload_n 0, 1) := by decide +kernel
theorem dX7_exchanged_1 : decode cX7_exchanged 1 = .ok (.iload_n 1, 1) := by decide +kernel
theorem dX7_exchanged_2 : decode cX7_exchanged 2 = .ok (.bipush 7, 2) := by decide +kernel
theorem dX7_exchanged_4 : decode cX7_exchanged 4 = .ok (.bipush 14, 2) := by decide +kernel
theorem dX7_exchanged_6 : decode cX7_exchanged 6 = .ok (.invokestatic 66, 3) := by decide +kernel
theorem dX7_exchanged_9 : decode cX7_exchanged 9 = .ok (.ifCond .ne 7, 3) := by decide +kernel
theorem dX7_exchanged_12 : decode cX7_exchanged 12 = .ok (.iconst 1, 1) := by decide +kernel
theorem dX7_exchanged_13 : decode cX7_exchanged 13 = .ok (.goto 15, 3) := by decide +kernel
theorem dX7_exchanged_16 : decode cX7_exchanged 16 = .ok (.aload_n 0, 1) := by decide +kernel
theorem dX7_exchanged_17 : decode cX7_exchanged 17 = .ok (.invokevirtual 150, 3) := by decide +kernel
theorem dX7_exchanged_20 : decode cX7_exchanged 20 = .ok (.ifCond .ne 7, 3) := by decide +kernel
theorem dX7_exchanged_23 : decode cX7_exchanged 23 = .ok (.iconst 2, 1) := by decide +kernel
theorem dX7_exchanged_24 : decode cX7_exchanged 24 = .ok (.goto 4, 3) := by decide +kernel
theorem dX7_exchanged_27 : decode cX7_exchanged 27 = .ok (.iconst 0, 1) := by decide +kernel
theorem dX7_exchanged_28 : decode cX7_exchanged 28 = .ok (.invokevirtual 125, 3) := by decide +kernel
theorem dX7_exchanged_31 : decode cX7_exchanged 31 = .ok (.ifCond .ne 5, 3) := by decide +kernel
theorem dX7_exchanged_34 : decode cX7_exchanged 34 = .ok (.iconst 0, 1) := by decide +kernel
theorem dX7_exchanged_35 : decode cX7_exchanged 35 = .ok (.ireturn, 1) := by decide +kernel
theorem dX7_exchanged_36 : decode cX7_exchanged 36 = .ok (.iconst 0, 1) := by decide +kernel
theorem dX7_exchanged_37 : decode cX7_exchanged 37 = .ok (.istore_n 2, 1) := by decide +kernel
theorem dX7_exchanged_38 : decode cX7_exchanged 38 = .ok (.iconst 0, 1) := by decide +kernel
theorem dX7_exchanged_39 : decode cX7_exchanged 39 = .ok (.istore_n 3, 1) := by decide +kernel
theorem dX7_exchanged_40 : decode cX7_exchanged 40 = .ok (.iload_n 3, 1) := by decide +kernel
theorem dX7_exchanged_41 : decode cX7_exchanged 41 = .ok (.aload_n 0, 1) := by decide +kernel
theorem dX7_exchanged_42 : decode cX7_exchanged 42 = .ok (.getfield 49, 3) := by decide +kernel
theorem dX7_exchanged_45 : decode cX7_exchanged 45 = .ok (.if_icmp .ge 60, 3) := by decide +kernel
theorem dX7_exchanged_48 : decode cX7_exchanged 48 = .ok (.aload_n 0, 1) := by decide +kernel
theorem dX7_exchanged_49 : decode cX7_exchanged 49 = .ok (.getfield 13, 3) := by decide +kernel
theorem dX7_exchanged_52 : decode cX7_exchanged 52 = .ok (.iload_n 3, 1) := by decide +kernel
theorem dX7_exchanged_53 : decode cX7_exchanged 53 = .ok (.iaload, 1) := by decide +kernel
theorem dX7_exchanged_54 : decode cX7_exchanged 54 = .ok (.iload_n 1, 1) := by decide +kernel
theorem dX7_exchanged_55 : decode cX7_exchanged 55 = .ok (.isub, 1) := by decide +kernel
theorem dX7_exchanged_56 : decode cX7_exchanged 56 = .ok (.istore 4, 2) := by decide +kernel
theorem dX7_exchanged_58 : decode cX7_exchanged 58 = .ok (.iload_n 2, 1) := by decide +kernel
theorem dX7_exchanged_59 : decode cX7_exchanged 59 = .ok (.iload 4, 2) := by decide +kernel
theorem dX7_exchanged_61 : decode cX7_exchanged 61 = .ok (.aload_n 0, 1) := by decide +kernel
theorem dX7_exchanged_62 : decode cX7_exchanged 62 = .ok (.iload_n 3, 1) := by decide +kernel
theorem dX7_exchanged_63 : decode cX7_exchanged 63 = .ok (.invokevirtual 70, 3) := by decide +kernel
theorem dX7_exchanged_66 : decode cX7_exchanged 66 = .ok (.isub, 1) := by decide +kernel
theorem dX7_exchanged_67 : decode cX7_exchanged 67 = .ok (.iload 4, 2) := by decide +kernel
theorem dX7_exchanged_69 : decode cX7_exchanged 69 = .ok (.invokestatic 60, 3) := by decide +kernel
theorem dX7_exchanged_72 : decode cX7_exchanged 72 = .ok (.aload_n 0, 1) := by decide +kernel
theorem dX7_exchanged_73 : decode cX7_exchanged 73 = .ok (.iload_n 3, 1) := by decide +kernel
theorem dX7_exchanged_74 : decode cX7_exchanged 74 = .ok (.invokevirtual 70, 3) := by decide +kernel
theorem dX7_exchanged_77 : decode cX7_exchanged 77 = .ok (.invokestatic 60, 3) := by decide +kernel
theorem dX7_exchanged_80 : decode cX7_exchanged 80 = .ok (.isub, 1) := by decide +kernel
theorem dX7_exchanged_81 : decode cX7_exchanged 81 = .ok (.invokestatic 77, 3) := by decide +kernel
theorem dX7_exchanged_84 : decode cX7_exchanged 84 = .ok (.iconst 3, 1) := by decide +kernel
theorem dX7_exchanged_85 : decode cX7_exchanged 85 = .ok (.if_icmp .ne 7, 3) := by decide +kernel
theorem dX7_exchanged_88 : decode cX7_exchanged 88 = .ok (.iconst 1, 1) := by decide +kernel
theorem dX7_exchanged_89 : decode cX7_exchanged 89 = .ok (.goto 4, 3) := by decide +kernel
theorem dX7_exchanged_92 : decode cX7_exchanged 92 = .ok (.iconst 0, 1) := by decide +kernel
theorem dX7_exchanged_93 : decode cX7_exchanged 93 = .ok (.iadd, 1) := by decide +kernel
theorem dX7_exchanged_94 : decode cX7_exchanged 94 = .ok (.istore_n 2, 1) := by decide +kernel
theorem dX7_exchanged_95 : decode cX7_exchanged 95 = .ok (.iload_n 3, 1) := by decide +kernel
theorem dX7_exchanged_96 : decode cX7_exchanged 96 = .ok (.aload_n 0, 1) := by decide +kernel
theorem dX7_exchanged_97 : decode cX7_exchanged 97 = .ok (.getfield 16, 3) := by decide +kernel
theorem dX7_exchanged_100 : decode cX7_exchanged 100 = .ok (.iadd, 1) := by decide +kernel
theorem dX7_exchanged_101 : decode cX7_exchanged 101 = .ok (.istore_n 3, 1) := by decide +kernel
theorem dX7_exchanged_102 : decode cX7_exchanged 102 = .ok (.goto (-62), 3) := by decide +kernel
theorem dX7_exchanged_105 : decode cX7_exchanged 105 = .ok (.iload_n 2, 1) := by decide +kernel
theorem dX7_exchanged_106 : decode cX7_exchanged 106 = .ok (.ireturn, 1) := by decide +kernel
theorem dX7_together_0 : decode cX7_together 0 = .ok (.aload_n 0, 1) := by decide +kernel
theorem dX7_together_1 : decode cX7_together 1 = .ok (.getfield 13, 3) := by decide +kernel
theorem dX7_together_4 : decode cX7_together 4 = .ok (.iload_n 1, 1) := by decide +kernel
theorem dX7_together_5 : decode cX7_together 5 = .ok (.iload_n 2, 1) := by decide +kernel
theorem dX7_together_6 : decode cX7_together 6 = .ok (.isub, 1) := by decide +kernel
theorem dX7_together_7 : decode cX7_together 7 = .ok (.iaload, 1) := by decide +kernel
theorem dX7_together_8 : decode cX7_together 8 = .ok (.iload_n 3, 1) := by decide +kernel
theorem dX7_together_9 : decode cX7_together 9 = .ok (.iadd, 1) := by decide +kernel
theorem dX7_together_10 : decode cX7_together 10 = .ok (.istore 4, 2) := by decide +kernel
theorem dX7_together_12 : decode cX7_together 12 = .ok (.aload_n 0, 1) := by decide +kernel
theorem dX7_together_13 : decode cX7_together 13 = .ok (.getfield 13, 3) := by decide +kernel
theorem dX7_together_16 : decode cX7_together 16 = .ok (.iload_n 1, 1) := by decide +kernel
theorem dX7_together_17 : decode cX7_together 17 = .ok (.iaload, 1) := by decide +kernel
theorem dX7_together_18 : decode cX7_together 18 = .ok (.iload 4, 2) := by decide +kernel
theorem dX7_together_20 : decode cX7_together 20 = .ok (.isub, 1) := by decide +kernel
theorem dX7_together_21 : decode cX7_together 21 = .ok (.aload_n 0, 1) := by decide +kernel
theorem dX7_together_22 : decode cX7_together 22 = .ok (.getfield 13, 3) := by decide +kernel
theorem dX7_together_25 : decode cX7_together 25 = .ok (.iload_n 1, 1) := by decide +kernel
theorem dX7_together_26 : decode cX7_together 26 = .ok (.iaload, 1) := by decide +kernel
theorem dX7_together_27 : decode cX7_together 27 = .ok (.invokestatic 60, 3) := by decide +kernel
theorem dX7_together_30 : decode cX7_together 30 = .ok (.iload 4, 2) := by decide +kernel
theorem dX7_together_32 : decode cX7_together 32 = .ok (.invokestatic 60, 3) := by decide +kernel
theorem dX7_together_35 : decode cX7_together 35 = .ok (.isub, 1) := by decide +kernel
theorem dX7_together_36 : decode cX7_together 36 = .ok (.invokestatic 77, 3) := by decide +kernel
theorem dX7_together_39 : decode cX7_together 39 = .ok (.ireturn, 1) := by decide +kernel
theorem dX7_canonFaults_0 : decode cX7_canonFaults 0 = .ok (.iconst 0, 1) := by decide +kernel
theorem dX7_canonFaults_1 : decode cX7_canonFaults 1 = .ok (.istore_n 3, 1) := by decide +kernel
theorem dX7_canonFaults_2 : decode cX7_canonFaults 2 = .ok (.iload_n 1, 1) := by decide +kernel
theorem dX7_canonFaults_3 : decode cX7_canonFaults 3 = .ok (.istore 4, 2) := by decide +kernel
theorem dX7_canonFaults_5 : decode cX7_canonFaults 5 = .ok (.iload 4, 2) := by decide +kernel
theorem dX7_canonFaults_7 : decode cX7_canonFaults 7 = .ok (.aload_n 0, 1) := by decide +kernel
theorem dX7_canonFaults_8 : decode cX7_canonFaults 8 = .ok (.getfield 49, 3) := by decide +kernel
theorem dX7_canonFaults_11 : decode cX7_canonFaults 11 = .ok (.if_icmp .ge 110, 3) := by decide +kernel
theorem dX7_canonFaults_14 : decode cX7_canonFaults 14 = .ok (.aload_n 0, 1) := by decide +kernel
theorem dX7_canonFaults_15 : decode cX7_canonFaults 15 = .ok (.iload 4, 2) := by decide +kernel
theorem dX7_canonFaults_17 : decode cX7_canonFaults 17 = .ok (.iload_n 1, 1) := by decide +kernel
theorem dX7_canonFaults_18 : decode cX7_canonFaults 18 = .ok (.iload_n 2, 1) := by decide +kernel
theorem dX7_canonFaults_19 : decode cX7_canonFaults 19 = .ok (.invokevirtual 189, 3) := by decide +kernel
theorem dX7_canonFaults_22 : decode cX7_canonFaults 22 = .ok (.istore 5, 2) := by decide +kernel
theorem dX7_canonFaults_24 : decode cX7_canonFaults 24 = .ok (.iload_n 3, 1) := by decide +kernel
theorem dX7_canonFaults_25 : decode cX7_canonFaults 25 = .ok (.iload 5, 2) := by decide +kernel
theorem dX7_canonFaults_27 : decode cX7_canonFaults 27 = .ok (.iconst 3, 1) := by decide +kernel
theorem dX7_canonFaults_28 : decode cX7_canonFaults 28 = .ok (.if_icmp .ne 7, 3) := by decide +kernel
theorem dX7_canonFaults_31 : decode cX7_canonFaults 31 = .ok (.iconst 1, 1) := by decide +kernel
theorem dX7_canonFaults_32 : decode cX7_canonFaults 32 = .ok (.goto 4, 3) := by decide +kernel
theorem dX7_canonFaults_35 : decode cX7_canonFaults 35 = .ok (.iconst 0, 1) := by decide +kernel
theorem dX7_canonFaults_36 : decode cX7_canonFaults 36 = .ok (.iadd, 1) := by decide +kernel
theorem dX7_canonFaults_37 : decode cX7_canonFaults 37 = .ok (.istore_n 3, 1) := by decide +kernel
theorem dX7_canonFaults_38 : decode cX7_canonFaults 38 = .ok (.iload 4, 2) := by decide +kernel
theorem dX7_canonFaults_40 : decode cX7_canonFaults 40 = .ok (.iload_n 1, 1) := by decide +kernel
theorem dX7_canonFaults_41 : decode cX7_canonFaults 41 = .ok (.if_icmp .le 74, 3) := by decide +kernel
theorem dX7_canonFaults_44 : decode cX7_canonFaults 44 = .ok (.iload 5, 2) := by decide +kernel
theorem dX7_canonFaults_46 : decode cX7_canonFaults 46 = .ok (.iconst 2, 1) := by decide +kernel
theorem dX7_canonFaults_47 : decode cX7_canonFaults 47 = .ok (.if_icmp .ge 68, 3) := by decide +kernel
theorem dX7_canonFaults_50 : decode cX7_canonFaults 50 = .ok (.aload_n 0, 1) := by decide +kernel
theorem dX7_canonFaults_51 : decode cX7_canonFaults 51 = .ok (.iload 4, 2) := by decide +kernel
theorem dX7_canonFaults_53 : decode cX7_canonFaults 53 = .ok (.iconst 1, 1) := by decide +kernel
theorem dX7_canonFaults_54 : decode cX7_canonFaults 54 = .ok (.isub, 1) := by decide +kernel
theorem dX7_canonFaults_55 : decode cX7_canonFaults 55 = .ok (.iload_n 1, 1) := by decide +kernel
theorem dX7_canonFaults_56 : decode cX7_canonFaults 56 = .ok (.iload_n 2, 1) := by decide +kernel
theorem dX7_canonFaults_57 : decode cX7_canonFaults 57 = .ok (.invokevirtual 189, 3) := by decide +kernel
theorem dX7_canonFaults_60 : decode cX7_canonFaults 60 = .ok (.iload 5, 2) := by decide +kernel
theorem dX7_canonFaults_62 : decode cX7_canonFaults 62 = .ok (.if_icmp .ne 53, 3) := by decide +kernel
theorem dX7_canonFaults_65 : decode cX7_canonFaults 65 = .ok (.iload_n 3, 1) := by decide +kernel
theorem dX7_canonFaults_66 : decode cX7_canonFaults 66 = .ok (.aload_n 0, 1) := by decide +kernel
theorem dX7_canonFaults_67 : decode cX7_canonFaults 67 = .ok (.getfield 13, 3) := by decide +kernel
theorem dX7_canonFaults_70 : decode cX7_canonFaults 70 = .ok (.iload 4, 2) := by decide +kernel
theorem dX7_canonFaults_72 : decode cX7_canonFaults 72 = .ok (.iaload, 1) := by decide +kernel
theorem dX7_canonFaults_73 : decode cX7_canonFaults 73 = .ok (.aload_n 0, 1) := by decide +kernel
theorem dX7_canonFaults_74 : decode cX7_canonFaults 74 = .ok (.getfield 13, 3) := by decide +kernel
theorem dX7_canonFaults_77 : decode cX7_canonFaults 77 = .ok (.iload 4, 2) := by decide +kernel
theorem dX7_canonFaults_79 : decode cX7_canonFaults 79 = .ok (.iconst 1, 1) := by decide +kernel
theorem dX7_canonFaults_80 : decode cX7_canonFaults 80 = .ok (.isub, 1) := by decide +kernel
theorem dX7_canonFaults_81 : decode cX7_canonFaults 81 = .ok (.iaload, 1) := by decide +kernel
theorem dX7_canonFaults_82 : decode cX7_canonFaults 82 = .ok (.if_icmp .eq 30, 3) := by decide +kernel
theorem dX7_canonFaults_85 : decode cX7_canonFaults 85 = .ok (.aload_n 0, 1) := by decide +kernel
theorem dX7_canonFaults_86 : decode cX7_canonFaults 86 = .ok (.getfield 13, 3) := by decide +kernel
theorem dX7_canonFaults_89 : decode cX7_canonFaults 89 = .ok (.iload 4, 2) := by decide +kernel
theorem dX7_canonFaults_91 : decode cX7_canonFaults 91 = .ok (.iload_n 1, 1) := by decide +kernel
theorem dX7_canonFaults_92 : decode cX7_canonFaults 92 = .ok (.isub, 1) := by decide +kernel
theorem dX7_canonFaults_93 : decode cX7_canonFaults 93 = .ok (.iaload, 1) := by decide +kernel
theorem dX7_canonFaults_94 : decode cX7_canonFaults 94 = .ok (.aload_n 0, 1) := by decide +kernel
theorem dX7_canonFaults_95 : decode cX7_canonFaults 95 = .ok (.getfield 13, 3) := by decide +kernel
theorem dX7_canonFaults_98 : decode cX7_canonFaults 98 = .ok (.iload 4, 2) := by decide +kernel
theorem dX7_canonFaults_100 : decode cX7_canonFaults 100 = .ok (.iload_n 1, 1) := by decide +kernel
theorem dX7_canonFaults_101 : decode cX7_canonFaults 101 = .ok (.isub, 1) := by decide +kernel
theorem dX7_canonFaults_102 : decode cX7_canonFaults 102 = .ok (.iconst 1, 1) := by decide +kernel
theorem dX7_canonFaults_103 : decode cX7_canonFaults 103 = .ok (.isub, 1) := by decide +kernel
theorem dX7_canonFaults_104 : decode cX7_canonFaults 104 = .ok (.iaload, 1) := by decide +kernel
theorem dX7_canonFaults_105 : decode cX7_canonFaults 105 = .ok (.if_icmp .eq 7, 3) := by decide +kernel
theorem dX7_canonFaults_108 : decode cX7_canonFaults 108 = .ok (.iconst 1, 1) := by decide +kernel
theorem dX7_canonFaults_109 : decode cX7_canonFaults 109 = .ok (.goto 4, 3) := by decide +kernel
theorem dX7_canonFaults_112 : decode cX7_canonFaults 112 = .ok (.iconst 0, 1) := by decide +kernel
theorem dX7_canonFaults_113 : decode cX7_canonFaults 113 = .ok (.iadd, 1) := by decide +kernel
theorem dX7_canonFaults_114 : decode cX7_canonFaults 114 = .ok (.istore_n 3, 1) := by decide +kernel
theorem dX7_canonFaults_115 : decode cX7_canonFaults 115 = .ok (.iinc 4 1, 3) := by decide +kernel
theorem dX7_canonFaults_118 : decode cX7_canonFaults 118 = .ok (.goto (-113), 3) := by decide +kernel
theorem dX7_canonFaults_121 : decode cX7_canonFaults 121 = .ok (.iload_n 3, 1) := by decide +kernel
theorem dX7_canonFaults_122 : decode cX7_canonFaults 122 = .ok (.ireturn, 1) := by decide +kernel
theorem dX7_canon_0 : decode cX7_canon 0 = .ok (.iload_n 1, 1) := by decide +kernel
theorem dX7_canon_1 : decode cX7_canon 1 = .ok (.iconst 1, 1) := by decide +kernel
theorem dX7_canon_2 : decode cX7_canon 2 = .ok (.bipush 12, 2) := by decide +kernel
theorem dX7_canon_4 : decode cX7_canon 4 = .ok (.invokestatic 66, 3) := by decide +kernel
theorem dX7_canon_7 : decode cX7_canon 7 = .ok (.ifCond .eq 18, 3) := by decide +kernel
theorem dX7_canon_10 : decode cX7_canon 10 = .ok (.iload_n 2, 1) := by decide +kernel
theorem dX7_canon_11 : decode cX7_canon 11 = .ok (.bipush (-7), 2) := by decide +kernel
theorem dX7_canon_13 : decode cX7_canon 13 = .ok (.bipush 7, 2) := by decide +kernel
theorem dX7_canon_15 : decode cX7_canon 15 = .ok (.invokestatic 66, 3) := by decide +kernel
theorem dX7_canon_18 : decode cX7_canon 18 = .ok (.ifCond .eq 7, 3) := by decide +kernel
theorem dX7_canon_21 : decode cX7_canon 21 = .ok (.iconst 1, 1) := by decide +kernel
theorem dX7_canon_22 : decode cX7_canon 22 = .ok (.goto 4, 3) := by decide +kernel
theorem dX7_canon_25 : decode cX7_canon 25 = .ok (.iconst 0, 1) := by decide +kernel
theorem dX7_canon_26 : decode cX7_canon 26 = .ok (.istore_n 3, 1) := by decide +kernel
theorem dX7_canon_27 : decode cX7_canon 27 = .ok (.aload_n 0, 1) := by decide +kernel
theorem dX7_canon_28 : decode cX7_canon 28 = .ok (.iload_n 3, 1) := by decide +kernel
theorem dX7_canon_29 : decode cX7_canon 29 = .ok (.ifCond .ne 7, 3) := by decide +kernel
theorem dX7_canon_32 : decode cX7_canon 32 = .ok (.iconst 1, 1) := by decide +kernel
theorem dX7_canon_33 : decode cX7_canon 33 = .ok (.goto 16, 3) := by decide +kernel
theorem dX7_canon_36 : decode cX7_canon 36 = .ok (.aload_n 0, 1) := by decide +kernel
theorem dX7_canon_37 : decode cX7_canon 37 = .ok (.getfield 49, 3) := by decide +kernel
theorem dX7_canon_40 : decode cX7_canon 40 = .ok (.iload_n 1, 1) := by decide +kernel
theorem dX7_canon_41 : decode cX7_canon 41 = .ok (.if_icmp .gt 7, 3) := by decide +kernel
theorem dX7_canon_44 : decode cX7_canon 44 = .ok (.iconst 2, 1) := by decide +kernel
theorem dX7_canon_45 : decode cX7_canon 45 = .ok (.goto 4, 3) := by decide +kernel
theorem dX7_canon_48 : decode cX7_canon 48 = .ok (.iconst 0, 1) := by decide +kernel
theorem dX7_canon_49 : decode cX7_canon 49 = .ok (.invokevirtual 125, 3) := by decide +kernel
theorem dX7_canon_52 : decode cX7_canon 52 = .ok (.ifCond .eq 12, 3) := by decide +kernel
theorem dX7_canon_55 : decode cX7_canon 55 = .ok (.aload_n 0, 1) := by decide +kernel
theorem dX7_canon_56 : decode cX7_canon 56 = .ok (.iload_n 1, 1) := by decide +kernel
theorem dX7_canon_57 : decode cX7_canon 57 = .ok (.iload_n 2, 1) := by decide +kernel
theorem dX7_canon_58 : decode cX7_canon 58 = .ok (.invokevirtual 193, 3) := by decide +kernel
theorem dX7_canon_61 : decode cX7_canon 61 = .ok (.goto 4, 3) := by decide +kernel
theorem dX7_canon_64 : decode cX7_canon 64 = .ok (.iconst 0, 1) := by decide +kernel
theorem dX7_canon_65 : decode cX7_canon 65 = .ok (.ireturn, 1) := by decide +kernel
theorem dX7_canonsUpTo_0 : decode cX7_canonsUpTo 0 = .ok (.iconst 0, 1) := by decide +kernel
theorem dX7_canonsUpTo_1 : decode cX7_canonsUpTo 1 = .ok (.istore_n 2, 1) := by decide +kernel
theorem dX7_canonsUpTo_2 : decode cX7_canonsUpTo 2 = .ok (.iconst 1, 1) := by decide +kernel
theorem dX7_canonsUpTo_3 : decode cX7_canonsUpTo 3 = .ok (.istore_n 3, 1) := by decide +kernel
theorem dX7_canonsUpTo_4 : decode cX7_canonsUpTo 4 = .ok (.iload_n 3, 1) := by decide +kernel
theorem dX7_canonsUpTo_5 : decode cX7_canonsUpTo 5 = .ok (.aload_n 0, 1) := by decide +kernel
theorem dX7_canonsUpTo_6 : decode cX7_canonsUpTo 6 = .ok (.getfield 49, 3) := by decide +kernel
theorem dX7_canonsUpTo_9 : decode cX7_canonsUpTo 9 = .ok (.if_icmp .ge 61, 3) := by decide +kernel
theorem dX7_canonsUpTo_12 : decode cX7_canonsUpTo 12 = .ok (.iload_n 3, 1) := by decide +kernel
theorem dX7_canonsUpTo_13 : decode cX7_canonsUpTo 13 = .ok (.bipush 12, 2) := by decide +kernel
theorem dX7_canonsUpTo_15 : decode cX7_canonsUpTo 15 = .ok (.if_icmp .gt 55, 3) := by decide +kernel
theorem dX7_canonsUpTo_18 : decode cX7_canonsUpTo 18 = .ok (.bipush (-7), 2) := by decide +kernel
theorem dX7_canonsUpTo_20 : decode cX7_canonsUpTo 20 = .ok (.istore 4, 2) := by decide +kernel
theorem dX7_canonsUpTo_22 : decode cX7_canonsUpTo 22 = .ok (.iload 4, 2) := by decide +kernel
theorem dX7_canonsUpTo_24 : decode cX7_canonsUpTo 24 = .ok (.bipush 8, 2) := by decide +kernel
theorem dX7_canonsUpTo_26 : decode cX7_canonsUpTo 26 = .ok (.if_icmp .ge 38, 3) := by decide +kernel
theorem dX7_canonsUpTo_29 : decode cX7_canonsUpTo 29 = .ok (.aload_n 0, 1) := by decide +kernel
theorem dX7_canonsUpTo_30 : decode cX7_canonsUpTo 30 = .ok (.iload_n 3, 1) := by decide +kernel
theorem dX7_canonsUpTo_31 : decode cX7_canonsUpTo 31 = .ok (.iload 4, 2) := by decide +kernel
theorem dX7_canonsUpTo_33 : decode cX7_canonsUpTo 33 = .ok (.invokevirtual 193, 3) := by decide +kernel
theorem dX7_canonsUpTo_36 : decode cX7_canonsUpTo 36 = .ok (.ifCond .ne 22, 3) := by decide +kernel
theorem dX7_canonsUpTo_39 : decode cX7_canonsUpTo 39 = .ok (.iload_n 2, 1) := by decide +kernel
theorem dX7_canonsUpTo_40 : decode cX7_canonsUpTo 40 = .ok (.iload_n 1, 1) := by decide +kernel
theorem dX7_canonsUpTo_41 : decode cX7_canonsUpTo 41 = .ok (.if_icmp .ne 14, 3) := by decide +kernel
theorem dX7_canonsUpTo_44 : decode cX7_canonsUpTo 44 = .ok (.bipush 100, 2) := by decide +kernel
theorem dX7_canonsUpTo_46 : decode cX7_canonsUpTo 46 = .ok (.iload_n 3, 1) := by decide +kernel
theorem dX7_canonsUpTo_47 : decode cX7_canonsUpTo 47 = .ok (.imul, 1) := by decide +kernel
theorem dX7_canonsUpTo_48 : decode cX7_canonsUpTo 48 = .ok (.bipush 50, 2) := by decide +kernel
theorem dX7_canonsUpTo_50 : decode cX7_canonsUpTo 50 = .ok (.iadd, 1) := by decide +kernel
theorem dX7_canonsUpTo_51 : decode cX7_canonsUpTo 51 = .ok (.iload 4, 2) := by decide +kernel
theorem dX7_canonsUpTo_53 : decode cX7_canonsUpTo 53 = .ok (.iadd, 1) := by decide +kernel
theorem dX7_canonsUpTo_54 : decode cX7_canonsUpTo 54 = .ok (.ireturn, 1) := by decide +kernel
theorem dX7_canonsUpTo_55 : decode cX7_canonsUpTo 55 = .ok (.iinc 2 1, 3) := by decide +kernel
theorem dX7_canonsUpTo_58 : decode cX7_canonsUpTo 58 = .ok (.iinc 4 1, 3) := by decide +kernel
theorem dX7_canonsUpTo_61 : decode cX7_canonsUpTo 61 = .ok (.goto (-39), 3) := by decide +kernel
theorem dX7_canonsUpTo_64 : decode cX7_canonsUpTo 64 = .ok (.iinc 3 1, 3) := by decide +kernel
theorem dX7_canonsUpTo_67 : decode cX7_canonsUpTo 67 = .ok (.goto (-63), 3) := by decide +kernel
theorem dX7_canonsUpTo_70 : decode cX7_canonsUpTo 70 = .ok (.iload_n 1, 1) := by decide +kernel
theorem dX7_canonsUpTo_71 : decode cX7_canonsUpTo 71 = .ok (.iconst (-1), 1) := by decide +kernel
theorem dX7_canonsUpTo_72 : decode cX7_canonsUpTo 72 = .ok (.if_icmp .ne 7, 3) := by decide +kernel
theorem dX7_canonsUpTo_75 : decode cX7_canonsUpTo 75 = .ok (.iload_n 2, 1) := by decide +kernel
theorem dX7_canonsUpTo_76 : decode cX7_canonsUpTo 76 = .ok (.goto 4, 3) := by decide +kernel
theorem dX7_canonsUpTo_79 : decode cX7_canonsUpTo 79 = .ok (.iconst (-1), 1) := by decide +kernel
theorem dX7_canonsUpTo_80 : decode cX7_canonsUpTo 80 = .ok (.ireturn, 1) := by decide +kernel
theorem dX7_canons_0 : decode cX7_canons 0 = .ok (.aload_n 0, 1) := by decide +kernel
theorem dX7_canons_1 : decode cX7_canons 1 = .ok (.aload_n 0, 1) := by decide +kernel
theorem dX7_canons_2 : decode cX7_canons 2 = .ok (.getfield 49, 3) := by decide +kernel
theorem dX7_canons_5 : decode cX7_canons 5 = .ok (.iconst 2, 1) := by decide +kernel
theorem dX7_canons_6 : decode cX7_canons 6 = .ok (.if_icmp .ge 7, 3) := by decide +kernel
theorem dX7_canons_9 : decode cX7_canons 9 = .ok (.iconst 1, 1) := by decide +kernel
theorem dX7_canons_10 : decode cX7_canons 10 = .ok (.goto 4, 3) := by decide +kernel
theorem dX7_canons_13 : decode cX7_canons 13 = .ok (.iconst 0, 1) := by decide +kernel
theorem dX7_canons_14 : decode cX7_canons 14 = .ok (.invokevirtual 125, 3) := by decide +kernel
theorem dX7_canons_17 : decode cX7_canons 17 = .ok (.ifCond .eq 11, 3) := by decide +kernel
theorem dX7_canons_20 : decode cX7_canons 20 = .ok (.aload_n 0, 1) := by decide +kernel
theorem dX7_canons_21 : decode cX7_canons 21 = .ok (.iconst (-1), 1) := by decide +kernel
theorem dX7_canons_22 : decode cX7_canons 22 = .ok (.invokevirtual 196, 3) := by decide +kernel
theorem dX7_canons_25 : decode cX7_canons 25 = .ok (.goto 4, 3) := by decide +kernel
theorem dX7_canons_28 : decode cX7_canons 28 = .ok (.iconst 0, 1) := by decide +kernel
theorem dX7_canons_29 : decode cX7_canons 29 = .ok (.ireturn, 1) := by decide +kernel
theorem dX7_canonAt_0 : decode cX7_canonAt 0 = .ok (.iload_n 1, 1) := by decide +kernel
theorem dX7_canonAt_1 : decode cX7_canonAt 1 = .ok (.ifCond .lt 11, 3) := by decide +kernel
theorem dX7_canonAt_4 : decode cX7_canonAt 4 = .ok (.aload_n 0, 1) := by decide +kernel
theorem dX7_canonAt_5 : decode cX7_canonAt 5 = .ok (.getfield 49, 3) := by decide +kernel
theorem dX7_canonAt_8 : decode cX7_canonAt 8 = .ok (.iconst 2, 1) := by decide +kernel
theorem dX7_canonAt_9 : decode cX7_canonAt 9 = .ok (.if_icmp .ge 7, 3) := by decide +kernel
theorem dX7_canonAt_12 : decode cX7_canonAt 12 = .ok (.iconst (-1), 1) := by decide +kernel
theorem dX7_canonAt_13 : decode cX7_canonAt 13 = .ok (.goto 8, 3) := by decide +kernel
theorem dX7_canonAt_16 : decode cX7_canonAt 16 = .ok (.aload_n 0, 1) := by decide +kernel
theorem dX7_canonAt_17 : decode cX7_canonAt 17 = .ok (.iload_n 1, 1) := by decide +kernel
theorem dX7_canonAt_18 : decode cX7_canonAt 18 = .ok (.invokevirtual 196, 3) := by decide +kernel
theorem dX7_canonAt_21 : decode cX7_canonAt 21 = .ok (.istore_n 2, 1) := by decide +kernel
theorem dX7_canonAt_22 : decode cX7_canonAt 22 = .ok (.aload_n 0, 1) := by decide +kernel
theorem dX7_canonAt_23 : decode cX7_canonAt 23 = .ok (.aload_n 0, 1) := by decide +kernel
theorem dX7_canonAt_24 : decode cX7_canonAt 24 = .ok (.getfield 49, 3) := by decide +kernel
theorem dX7_canonAt_27 : decode cX7_canonAt 27 = .ok (.iconst 2, 1) := by decide +kernel
theorem dX7_canonAt_28 : decode cX7_canonAt 28 = .ok (.if_icmp .ge 7, 3) := by decide +kernel
theorem dX7_canonAt_31 : decode cX7_canonAt 31 = .ok (.iconst 1, 1) := by decide +kernel
theorem dX7_canonAt_32 : decode cX7_canonAt 32 = .ok (.goto 13, 3) := by decide +kernel
theorem dX7_canonAt_35 : decode cX7_canonAt 35 = .ok (.iload_n 2, 1) := by decide +kernel
theorem dX7_canonAt_36 : decode cX7_canonAt 36 = .ok (.iconst (-1), 1) := by decide +kernel
theorem dX7_canonAt_37 : decode cX7_canonAt 37 = .ok (.if_icmp .ne 7, 3) := by decide +kernel
theorem dX7_canonAt_40 : decode cX7_canonAt 40 = .ok (.iconst 2, 1) := by decide +kernel
theorem dX7_canonAt_41 : decode cX7_canonAt 41 = .ok (.goto 4, 3) := by decide +kernel
theorem dX7_canonAt_44 : decode cX7_canonAt 44 = .ok (.iconst 0, 1) := by decide +kernel
theorem dX7_canonAt_45 : decode cX7_canonAt 45 = .ok (.invokevirtual 125, 3) := by decide +kernel
theorem dX7_canonAt_48 : decode cX7_canonAt 48 = .ok (.ifCond .eq 7, 3) := by decide +kernel
theorem dX7_canonAt_51 : decode cX7_canonAt 51 = .ok (.iload_n 2, 1) := by decide +kernel
theorem dX7_canonAt_52 : decode cX7_canonAt 52 = .ok (.goto 4, 3) := by decide +kernel
theorem dX7_canonAt_55 : decode cX7_canonAt 55 = .ok (.iconst 0, 1) := by decide +kernel
theorem dX7_canonAt_56 : decode cX7_canonAt 56 = .ok (.ireturn, 1) := by decide +kernel
theorem dX7_stepShare_0 : decode cX7_stepShare 0 = .ok (.iconst 0, 1) := by decide +kernel
theorem dX7_stepShare_1 : decode cX7_stepShare 1 = .ok (.istore_n 1, 1) := by decide +kernel
theorem dX7_stepShare_2 : decode cX7_stepShare 2 = .ok (.iconst 1, 1) := by decide +kernel
theorem dX7_stepShare_3 : decode cX7_stepShare 3 = .ok (.istore_n 2, 1) := by decide +kernel
theorem dX7_stepShare_4 : decode cX7_stepShare 4 = .ok (.iload_n 2, 1) := by decide +kernel
theorem dX7_stepShare_5 : decode cX7_stepShare 5 = .ok (.aload_n 0, 1) := by decide +kernel
theorem dX7_stepShare_6 : decode cX7_stepShare 6 = .ok (.getfield 49, 3) := by decide +kernel
theorem dX7_stepShare_9 : decode cX7_stepShare 9 = .ok (.if_icmp .ge 29, 3) := by decide +kernel
theorem dX7_stepShare_12 : decode cX7_stepShare 12 = .ok (.iload_n 1, 1) := by decide +kernel
theorem dX7_stepShare_13 : decode cX7_stepShare 13 = .ok (.aload_n 0, 1) := by decide +kernel
theorem dX7_stepShare_14 : decode cX7_stepShare 14 = .ok (.iload_n 2, 1) := by decide +kernel
theorem dX7_stepShare_15 : decode cX7_stepShare 15 = .ok (.invokevirtual 87, 3) := by decide +kernel
theorem dX7_stepShare_18 : decode cX7_stepShare 18 = .ok (.invokestatic 63, 3) := by decide +kernel
theorem dX7_stepShare_21 : decode cX7_stepShare 21 = .ok (.iconst 1, 1) := by decide +kernel
theorem dX7_stepShare_22 : decode cX7_stepShare 22 = .ok (.if_icmp .ne 7, 3) := by decide +kernel
theorem dX7_stepShare_25 : decode cX7_stepShare 25 = .ok (.iconst 1, 1) := by decide +kernel
theorem dX7_stepShare_26 : decode cX7_stepShare 26 = .ok (.goto 4, 3) := by decide +kernel
theorem dX7_stepShare_29 : decode cX7_stepShare 29 = .ok (.iconst 0, 1) := by decide +kernel
theorem dX7_stepShare_30 : decode cX7_stepShare 30 = .ok (.iadd, 1) := by decide +kernel
theorem dX7_stepShare_31 : decode cX7_stepShare 31 = .ok (.istore_n 1, 1) := by decide +kernel
theorem dX7_stepShare_32 : decode cX7_stepShare 32 = .ok (.iinc 2 1, 3) := by decide +kernel
theorem dX7_stepShare_35 : decode cX7_stepShare 35 = .ok (.goto (-31), 3) := by decide +kernel
theorem dX7_stepShare_38 : decode cX7_stepShare 38 = .ok (.aload_n 0, 1) := by decide +kernel
theorem dX7_stepShare_39 : decode cX7_stepShare 39 = .ok (.aload_n 0, 1) := by decide +kernel
theorem dX7_stepShare_40 : decode cX7_stepShare 40 = .ok (.getfield 49, 3) := by decide +kernel
theorem dX7_stepShare_43 : decode cX7_stepShare 43 = .ok (.iconst 2, 1) := by decide +kernel
theorem dX7_stepShare_44 : decode cX7_stepShare 44 = .ok (.if_icmp .ge 7, 3) := by decide +kernel
theorem dX7_stepShare_47 : decode cX7_stepShare 47 = .ok (.iconst 1, 1) := by decide +kernel
theorem dX7_stepShare_48 : decode cX7_stepShare 48 = .ok (.goto 4, 3) := by decide +kernel
theorem dX7_stepShare_51 : decode cX7_stepShare 51 = .ok (.iconst 0, 1) := by decide +kernel
theorem dX7_stepShare_52 : decode cX7_stepShare 52 = .ok (.invokevirtual 125, 3) := by decide +kernel
theorem dX7_stepShare_55 : decode cX7_stepShare 55 = .ok (.ifCond .eq 16, 3) := by decide +kernel
theorem dX7_stepShare_58 : decode cX7_stepShare 58 = .ok (.iload_n 1, 1) := by decide +kernel
theorem dX7_stepShare_59 : decode cX7_stepShare 59 = .ok (.i2f, 1) := by decide +kernel
theorem dX7_stepShare_60 : decode cX7_stepShare 60 = .ok (.aload_n 0, 1) := by decide +kernel
theorem dX7_stepShare_61 : decode cX7_stepShare 61 = .ok (.getfield 49, 3) := by decide +kernel
theorem dX7_stepShare_64 : decode cX7_stepShare 64 = .ok (.iconst 1, 1) := by decide +kernel
theorem dX7_stepShare_65 : decode cX7_stepShare 65 = .ok (.isub, 1) := by decide +kernel
theorem dX7_stepShare_66 : decode cX7_stepShare 66 = .ok (.i2f, 1) := by decide +kernel
theorem dX7_stepShare_67 : decode cX7_stepShare 67 = .ok (.fdiv, 1) := by decide +kernel
theorem dX7_stepShare_68 : decode cX7_stepShare 68 = .ok (.goto 4, 3) := by decide +kernel
theorem dX7_stepShare_71 : decode cX7_stepShare 71 = .ok (.fconst 0, 1) := by decide +kernel
theorem dX7_stepShare_72 : decode cX7_stepShare 72 = .ok (.freturn, 1) := by decide +kernel
theorem dX7_meanPitch_0 : decode cX7_meanPitch 0 = .ok (.iconst 0, 1) := by decide +kernel
theorem dX7_meanPitch_1 : decode cX7_meanPitch 1 = .ok (.istore_n 1, 1) := by decide +kernel
theorem dX7_meanPitch_2 : decode cX7_meanPitch 2 = .ok (.iconst 0, 1) := by decide +kernel
theorem dX7_meanPitch_3 : decode cX7_meanPitch 3 = .ok (.istore_n 2, 1) := by decide +kernel
theorem dX7_meanPitch_4 : decode cX7_meanPitch 4 = .ok (.iload_n 2, 1) := by decide +kernel
theorem dX7_meanPitch_5 : decode cX7_meanPitch 5 = .ok (.aload_n 0, 1) := by decide +kernel
theorem dX7_meanPitch_6 : decode cX7_meanPitch 6 = .ok (.getfield 49, 3) := by decide +kernel
theorem dX7_meanPitch_9 : decode cX7_meanPitch 9 = .ok (.if_icmp .ge 21, 3) := by decide +kernel
theorem dX7_meanPitch_12 : decode cX7_meanPitch 12 = .ok (.iload_n 1, 1) := by decide +kernel
theorem dX7_meanPitch_13 : decode cX7_meanPitch 13 = .ok (.aload_n 0, 1) := by decide +kernel
theorem dX7_meanPitch_14 : decode cX7_meanPitch 14 = .ok (.iload_n 2, 1) := by decide +kernel
theorem dX7_meanPitch_15 : decode cX7_meanPitch 15 = .ok (.aload_n 0, 1) := by decide +kernel
theorem dX7_meanPitch_16 : decode cX7_meanPitch 16 = .ok (.getfield 49, 3) := by decide +kernel
theorem dX7_meanPitch_19 : decode cX7_meanPitch 19 = .ok (.invokevirtual 73, 3) := by decide +kernel
theorem dX7_meanPitch_22 : decode cX7_meanPitch 22 = .ok (.iadd, 1) := by decide +kernel
theorem dX7_meanPitch_23 : decode cX7_meanPitch 23 = .ok (.istore_n 1, 1) := by decide +kernel
theorem dX7_meanPitch_24 : decode cX7_meanPitch 24 = .ok (.iinc 2 1, 3) := by decide +kernel
theorem dX7_meanPitch_27 : decode cX7_meanPitch 27 = .ok (.goto (-23), 3) := by decide +kernel
theorem dX7_meanPitch_30 : decode cX7_meanPitch 30 = .ok (.aload_n 0, 1) := by decide +kernel
theorem dX7_meanPitch_31 : decode cX7_meanPitch 31 = .ok (.aload_n 0, 1) := by decide +kernel
theorem dX7_meanPitch_32 : decode cX7_meanPitch 32 = .ok (.getfield 49, 3) := by decide +kernel
theorem dX7_meanPitch_35 : decode cX7_meanPitch 35 = .ok (.ifCond .ne 7, 3) := by decide +kernel
theorem dX7_meanPitch_38 : decode cX7_meanPitch 38 = .ok (.iconst 1, 1) := by decide +kernel
theorem dX7_meanPitch_39 : decode cX7_meanPitch 39 = .ok (.goto 4, 3) := by decide +kernel
theorem dX7_meanPitch_42 : decode cX7_meanPitch 42 = .ok (.iconst 0, 1) := by decide +kernel
theorem dX7_meanPitch_43 : decode cX7_meanPitch 43 = .ok (.invokevirtual 125, 3) := by decide +kernel
theorem dX7_meanPitch_46 : decode cX7_meanPitch 46 = .ok (.ifCond .eq 14, 3) := by decide +kernel
theorem dX7_meanPitch_49 : decode cX7_meanPitch 49 = .ok (.iload_n 1, 1) := by decide +kernel
theorem dX7_meanPitch_50 : decode cX7_meanPitch 50 = .ok (.i2d, 1) := by decide +kernel
theorem dX7_meanPitch_51 : decode cX7_meanPitch 51 = .ok (.aload_n 0, 1) := by decide +kernel
theorem dX7_meanPitch_52 : decode cX7_meanPitch 52 = .ok (.getfield 49, 3) := by decide +kernel
theorem dX7_meanPitch_55 : decode cX7_meanPitch 55 = .ok (.i2d, 1) := by decide +kernel
theorem dX7_meanPitch_56 : decode cX7_meanPitch 56 = .ok (.ddiv, 1) := by decide +kernel
theorem dX7_meanPitch_57 : decode cX7_meanPitch 57 = .ok (.goto 4, 3) := by decide +kernel
theorem dX7_meanPitch_60 : decode cX7_meanPitch 60 = .ok (.dconst 0, 1) := by decide +kernel
theorem dX7_meanPitch_61 : decode cX7_meanPitch 61 = .ok (.dreturn, 1) := by decide +kernel
theorem dX7_isConsistent_0 : decode cX7_isConsistent 0 = .ok (.aload_n 0, 1) := by decide +kernel
theorem dX7_isConsistent_1 : decode cX7_isConsistent 1 = .ok (.iconst 0, 1) := by decide +kernel
theorem dX7_isConsistent_2 : decode cX7_isConsistent 2 = .ok (.putfield 40, 3) := by decide +kernel
theorem dX7_isConsistent_5 : decode cX7_isConsistent 5 = .ok (.iconst 1, 1) := by decide +kernel
theorem dX7_isConsistent_6 : decode cX7_isConsistent 6 = .ok (.ireturn, 1) := by decide +kernel
