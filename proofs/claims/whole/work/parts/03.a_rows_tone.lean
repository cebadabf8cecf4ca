theorem dX5_isNote_0 : decode cX5_isNote 0 = .ok (.iload_n 0, 1) := by decide +kernel
theorem dX5_isNote_1 : decode cX5_isNote 1 = .ok (.ifCond .lt 13, 3) := by decide +kernel
theorem dX5_isNote_4 : decode cX5_isNote 4 = .ok (.iload_n 0, 1) := by decide +kernel
theorem dX5_isNote_5 : decode cX5_isNote 5 = .ok (.bipush 28, 2) := by decide +kernel
theorem dX5_isNote_7 : decode cX5_isNote 7 = .ok (.if_icmp .ge 7, 3) := by decide +kernel
theorem dX5_isNote_10 : decode cX5_isNote 10 = .ok (.iconst 1, 1) := by decide +kernel
theorem dX5_isNote_11 : decode cX5_isNote 11 = .ok (.goto 4, 3) := by decide +kernel
theorem dX5_isNote_14 : decode cX5_isNote 14 = .ok (.iconst 0, 1) := by decide +kernel
theorem dX5_isNote_15 : decode cX5_isNote 15 = .ok (.ireturn, 1) := by decide +kernel
theorem dX5_heightOf_0 : decode cX5_heightOf 0 = .ok (.iload_n 0, 1) := by decide +kernel
theorem dX5_heightOf_1 : decode cX5_heightOf 1 = .ok (.bipush 7, 2) := by decide +kernel
theorem dX5_heightOf_3 : decode cX5_heightOf 3 = .ok (.irem, 1) := by decide +kernel
theorem dX5_heightOf_4 : decode cX5_heightOf 4 = .ok (.istore_n 1, 1) := by decide +kernel
theorem dX5_heightOf_5 : decode cX5_heightOf 5 = .ok (.iload_n 1, 1) := by decide +kernel
theorem dX5_heightOf_6 : decode cX5_heightOf 6 = .ok (.ifCond .ge 6, 3) := by decide +kernel
theorem dX5_heightOf_9 : decode cX5_heightOf 9 = .ok (.iinc 1 7, 3) := by decide +kernel
theorem dX5_heightOf_12 : decode cX5_heightOf 12 = .ok (.iload_n 0, 1) := by decide +kernel
theorem dX5_heightOf_13 : decode cX5_heightOf 13 = .ok (.iload_n 1, 1) := by decide +kernel
theorem dX5_heightOf_14 : decode cX5_heightOf 14 = .ok (.isub, 1) := by decide +kernel
theorem dX5_heightOf_15 : decode cX5_heightOf 15 = .ok (.bipush 7, 2) := by decide +kernel
theorem dX5_heightOf_17 : decode cX5_heightOf 17 = .ok (.idiv, 1) := by decide +kernel
theorem dX5_heightOf_18 : decode cX5_heightOf 18 = .ok (.istore_n 2, 1) := by decide +kernel
theorem dX5_heightOf_19 : decode cX5_heightOf 19 = .ok (.bipush 12, 2) := by decide +kernel
theorem dX5_heightOf_21 : decode cX5_heightOf 21 = .ok (.iload_n 2, 1) := by decide +kernel
theorem dX5_heightOf_22 : decode cX5_heightOf 22 = .ok (.imul, 1) := by decide +kernel
theorem dX5_heightOf_23 : decode cX5_heightOf 23 = .ok (.iconst 2, 1) := by decide +kernel
theorem dX5_heightOf_24 : decode cX5_heightOf 24 = .ok (.iload_n 1, 1) := by decide +kernel
theorem dX5_heightOf_25 : decode cX5_heightOf 25 = .ok (.imul, 1) := by decide +kernel
theorem dX5_heightOf_26 : decode cX5_heightOf 26 = .ok (.iadd, 1) := by decide +kernel
theorem dX5_heightOf_27 : decode cX5_heightOf 27 = .ok (.iload_n 1, 1) := by decide +kernel
theorem dX5_heightOf_28 : decode cX5_heightOf 28 = .ok (.iconst 3, 1) := by decide +kernel
theorem dX5_heightOf_29 : decode cX5_heightOf 29 = .ok (.if_icmp .lt 7, 3) := by decide +kernel
theorem dX5_heightOf_32 : decode cX5_heightOf 32 = .ok (.iconst 1, 1) := by decide +kernel
theorem dX5_heightOf_33 : decode cX5_heightOf 33 = .ok (.goto 4, 3) := by decide +kernel
theorem dX5_heightOf_36 : decode cX5_heightOf 36 = .ok (.iconst 0, 1) := by decide +kernel
theorem dX5_heightOf_37 : decode cX5_heightOf 37 = .ok (.isub, 1) := by decide +kernel
theorem dX5_heightOf_38 : decode cX5_heightOf 38 = .ok (.ireturn, 1) := by decide +kernel
theorem dX5_gap_0 : decode cX5_gap 0 = .ok (.iload_n 0, 1) := by decide +kernel
theorem dX5_gap_1 : decode cX5_gap 1 = .ok (.invokestatic 9, 3) := by decide +kernel
theorem dX5_gap_4 : decode cX5_gap 4 = .ok (.bipush 7, 2) := by decide +kernel
theorem dX5_gap_6 : decode cX5_gap 6 = .ok (.irem, 1) := by decide +kernel
theorem dX5_gap_7 : decode cX5_gap 7 = .ok (.bipush 12, 2) := by decide +kernel
theorem dX5_gap_9 : decode cX5_gap 9 = .ok (.imul, 1) := by decide +kernel
theorem dX5_gap_10 : decode cX5_gap 10 = .ok (.iload_n 1, 1) := by decide +kernel
theorem dX5_gap_11 : decode cX5_gap 11 = .ok (.invokestatic 9, 3) := by decide +kernel
theorem dX5_gap_14 : decode cX5_gap 14 = .ok (.bipush 12, 2) := by decide +kernel
theorem dX5_gap_16 : decode cX5_gap 16 = .ok (.irem, 1) := by decide +kernel
theorem dX5_gap_17 : decode cX5_gap 17 = .ok (.iadd, 1) := by decide +kernel
theorem dX5_gap_18 : decode cX5_gap 18 = .ok (.ireturn, 1) := by decide +kernel
theorem dX5_plainGap_0 : decode cX5_plainGap 0 = .ok (.iload_n 0, 1) := by decide +kernel
theorem dX5_plainGap_1 : decode cX5_plainGap 1 = .ok (.iload_n 1, 1) := by decide +kernel
theorem dX5_plainGap_2 : decode cX5_plainGap 2 = .ok (.isub, 1) := by decide +kernel
theorem dX5_plainGap_3 : decode cX5_plainGap 3 = .ok (.iload_n 0, 1) := by decide +kernel
theorem dX5_plainGap_4 : decode cX5_plainGap 4 = .ok (.invokestatic 15, 3) := by decide +kernel
theorem dX5_plainGap_7 : decode cX5_plainGap 7 = .ok (.iload_n 1, 1) := by decide +kernel
theorem dX5_plainGap_8 : decode cX5_plainGap 8 = .ok (.invokestatic 15, 3) := by decide +kernel
theorem dX5_plainGap_11 : decode cX5_plainGap 11 = .ok (.isub, 1) := by decide +kernel
theorem dX5_plainGap_12 : decode cX5_plainGap 12 = .ok (.invokestatic 18, 3) := by decide +kernel
theorem dX5_plainGap_15 : decode cX5_plainGap 15 = .ok (.ireturn, 1) := by decide +kernel
theorem dX5_isFifth_0 : decode cX5_isFifth 0 = .ok (.iload_n 0, 1) := by decide +kernel
theorem dX5_isFifth_1 : decode cX5_isFifth 1 = .ok (.bipush 55, 2) := by decide +kernel
theorem dX5_isFifth_3 : decode cX5_isFifth 3 = .ok (.if_icmp .ne 7, 3) := by decide +kernel
theorem dX5_isFifth_6 : decode cX5_isFifth 6 = .ok (.iconst 1, 1) := by decide +kernel
theorem dX5_isFifth_7 : decode cX5_isFifth 7 = .ok (.goto 4, 3) := by decide +kernel
theorem dX5_isFifth_10 : decode cX5_isFifth 10 = .ok (.iconst 0, 1) := by decide +kernel
theorem dX5_isFifth_11 : decode cX5_isFifth 11 = .ok (.ireturn, 1) := by decide +kernel
theorem dX5_isUnison_0 : decode cX5_isUnison 0 = .ok (.iload_n 0, 1) := by decide +kernel
theorem dX5_isUnison_1 : decode cX5_isUnison 1 = .ok (.ifCond .ne 7, 3) := by decide +kernel
theorem dX5_isUnison_4 : decode cX5_isUnison 4 = .ok (.iconst 1, 1) := by decide +kernel
theorem dX5_isUnison_5 : decode cX5_isUnison 5 = .ok (.goto 4, 3) := by decide +kernel
theorem dX5_isUnison_8 : decode cX5_isUnison 8 = .ok (.iconst 0, 1) := by decide +kernel
theorem dX5_isUnison_9 : decode cX5_isUnison 9 = .ok (.ireturn, 1) := by decide +kernel
theorem dX5_isPerfect_0 : decode cX5_isPerfect 0 = .ok (.iload_n 0, 1) := by decide +kernel
theorem dX5_isPerfect_1 : decode cX5_isPerfect 1 = .ok (.ifCond .eq 9, 3) := by decide +kernel
theorem dX5_isPerfect_4 : decode cX5_isPerfect 4 = .ok (.iload_n 0, 1) := by decide +kernel
theorem dX5_isPerfect_5 : decode cX5_isPerfect 5 = .ok (.bipush 55, 2) := by decide +kernel
theorem dX5_isPerfect_7 : decode cX5_isPerfect 7 = .ok (.if_icmp .ne 7, 3) := by decide +kernel
theorem dX5_isPerfect_10 : decode cX5_isPerfect 10 = .ok (.iconst 1, 1) := by decide +kernel
theorem dX5_isPerfect_11 : decode cX5_isPerfect 11 = .ok (.goto 4, 3) := by decide +kernel
theorem dX5_isPerfect_14 : decode cX5_isPerfect 14 = .ok (.iconst 0, 1) := by decide +kernel
theorem dX5_isPerfect_15 : decode cX5_isPerfect 15 = .ok (.ireturn, 1) := by decide +kernel
theorem dX5_isImperfect_0 : decode cX5_isImperfect 0 = .ok (.iload_n 0, 1) := by decide +kernel
theorem dX5_isImperfect_1 : decode cX5_isImperfect 1 = .ok (.bipush 27, 2) := by decide +kernel
theorem dX5_isImperfect_3 : decode cX5_isImperfect 3 = .ok (.if_icmp .eq 21, 3) := by decide +kernel
theorem dX5_isImperfect_6 : decode cX5_isImperfect 6 = .ok (.iload_n 0, 1) := by decide +kernel
theorem dX5_isImperfect_7 : decode cX5_isImperfect 7 = .ok (.bipush 28, 2) := by decide +kernel
theorem dX5_isImperfect_9 : decode cX5_isImperfect 9 = .ok (.if_icmp .eq 15, 3) := by decide +kernel
theorem dX5_isImperfect_12 : decode cX5_isImperfect 12 = .ok (.iload_n 0, 1) := by decide +kernel
theorem dX5_isImperfect_13 : decode cX5_isImperfect 13 = .ok (.bipush 68, 2) := by decide +kernel
theorem dX5_isImperfect_15 : decode cX5_isImperfect 15 = .ok (.if_icmp .eq 9, 3) := by decide +kernel
theorem dX5_isImperfect_18 : decode cX5_isImperfect 18 = .ok (.iload_n 0, 1) := by decide +kernel
theorem dX5_isImperfect_19 : decode cX5_isImperfect 19 = .ok (.bipush 69, 2) := by decide +kernel
theorem dX5_isImperfect_21 : decode cX5_isImperfect 21 = .ok (.if_icmp .ne 7, 3) := by decide +kernel
theorem dX5_isImperfect_24 : decode cX5_isImperfect 24 = .ok (.iconst 1, 1) := by decide +kernel
theorem dX5_isImperfect_25 : decode cX5_isImperfect 25 = .ok (.goto 4, 3) := by decide +kernel
theorem dX5_isImperfect_28 : decode cX5_isImperfect 28 = .ok (.iconst 0, 1) := by decide +kernel
theorem dX5_isImperfect_29 : decode cX5_isImperfect 29 = .ok (.ireturn, 1) := by decide +kernel
theorem dX5_isDissonant_0 : decode cX5_isDissonant 0 = .ok (.iload_n 0, 1) := by decide +kernel
theorem dX5_isDissonant_1 : decode cX5_isDissonant 1 = .ok (.invokestatic 22, 3) := by decide +kernel
theorem dX5_isDissonant_4 : decode cX5_isDissonant 4 = .ok (.ifCond .ne 14, 3) := by decide +kernel
theorem dX5_isDissonant_7 : decode cX5_isDissonant 7 = .ok (.iload_n 0, 1) := by decide +kernel
theorem dX5_isDissonant_8 : decode cX5_isDissonant 8 = .ok (.invokestatic 26, 3) := by decide +kernel
theorem dX5_isDissonant_11 : decode cX5_isDissonant 11 = .ok (.ifCond .ne 7, 3) := by decide +kernel
theorem dX5_isDissonant_14 : decode cX5_isDissonant 14 = .ok (.iconst 1, 1) := by decide +kernel
theorem dX5_isDissonant_15 : decode cX5_isDissonant 15 = .ok (.goto 4, 3) := by decide +kernel
theorem dX5_isDissonant_18 : decode cX5_isDissonant 18 = .ok (.iconst 0, 1) := by decide +kernel
theorem dX5_isDissonant_19 : decode cX5_isDissonant 19 = .ok (.ireturn, 1) := by decide +kernel
theorem dX5_signOf_0 : decode cX5_signOf 0 = .ok (.iload_n 0, 1) := by decide +kernel
theorem dX5_signOf_1 : decode cX5_signOf 1 = .ok (.ifCond .ne 6, 3) := by decide +kernel
theorem dX5_signOf_4 : decode cX5_signOf 4 = .ok (.bipush 117, 2) := by decide +kernel
theorem dX5_signOf_6 : decode cX5_signOf 6 = .ok (.ireturn, 1) := by decide +kernel
theorem dX5_signOf_7 : decode cX5_signOf 7 = .ok (.iload_n 0, 1) := by decide +kernel
theorem dX5_signOf_8 : decode cX5_signOf 8 = .ok (.bipush 55, 2) := by decide +kernel
theorem dX5_signOf_10 : decode cX5_signOf 10 = .ok (.if_icmp .ne 6, 3) := by decide +kernel
theorem dX5_signOf_13 : decode cX5_signOf 13 = .ok (.bipush 102, 2) := by decide +kernel
theorem dX5_signOf_15 : decode cX5_signOf 15 = .ok (.ireturn, 1) := by decide +kernel
theorem dX5_signOf_16 : decode cX5_signOf 16 = .ok (.iload_n 0, 1) := by decide +kernel
theorem dX5_signOf_17 : decode cX5_signOf 17 = .ok (.invokestatic 26, 3) := by decide +kernel
theorem dX5_signOf_20 : decode cX5_signOf 20 = .ok (.ifCond .eq 8, 3) := by decide +kernel
theorem dX5_signOf_23 : decode cX5_signOf 23 = .ok (.bipush 105, 2) := by decide +kernel
theorem dX5_signOf_25 : decode cX5_signOf 25 = .ok (.goto 5, 3) := by decide +kernel
theorem dX5_signOf_28 : decode cX5_signOf 28 = .ok (.bipush 100, 2) := by decide +kernel
theorem dX5_signOf_30 : decode cX5_signOf 30 = .ok (.ireturn, 1) := by decide +kernel
