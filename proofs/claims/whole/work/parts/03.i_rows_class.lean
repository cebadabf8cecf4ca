theorem dX6_init_0 : decode cX6_init 0 = .ok (.aload_n 0, 1) := by decide +kernel
theorem dX6_init_1 : decode cX6_init 1 = .ok (.invokespecial 1, 3) := by decide +kernel
theorem dX6_init_4 : decode cX6_init 4 = .ok (.aload_n 0, 1) := by decide +kernel
theorem dX6_init_5 : decode cX6_init 5 = .ok (.new 7, 3) := by decide +kernel
theorem dX6_init_8 : decode cX6_init 8 = .ok (.dup, 1) := by decide +kernel
theorem dX6_init_9 : decode cX6_init 9 = .ok (.invokespecial 9, 3) := by decide +kernel
theorem dX6_init_12 : decode cX6_init 12 = .ok (.putfield 10, 3) := by decide +kernel
theorem dX6_init_15 : decode cX6_init 15 = .ok (.aload_n 0, 1) := by decide +kernel
theorem dX6_init_16 : decode cX6_init 16 = .ok (.new 16, 3) := by decide +kernel
theorem dX6_init_19 : decode cX6_init 19 = .ok (.dup, 1) := by decide +kernel
theorem dX6_init_20 : decode cX6_init 20 = .ok (.aload_n 0, 1) := by decide +kernel
theorem dX6_init_21 : decode cX6_init 21 = .ok (.getfield 10, 3) := by decide +kernel
theorem dX6_init_24 : decode cX6_init 24 = .ok (.invokespecial 18, 3) := by decide +kernel
theorem dX6_init_27 : decode cX6_init 27 = .ok (.putfield 21, 3) := by decide +kernel
theorem dX6_init_30 : decode cX6_init 30 = .ok (.aload_n 0, 1) := by decide +kernel
theorem dX6_init_31 : decode cX6_init 31 = .ok (.new 25, 3) := by decide +kernel
theorem dX6_init_34 : decode cX6_init 34 = .ok (.dup, 1) := by decide +kernel
theorem dX6_init_35 : decode cX6_init 35 = .ok (.invokespecial 27, 3) := by decide +kernel
theorem dX6_init_38 : decode cX6_init 38 = .ok (.putfield 28, 3) := by decide +kernel
theorem dX6_init_41 : decode cX6_init 41 = .ok (.return_, 1) := by decide +kernel
theorem dX6_given_0 : decode cX6_given 0 = .ok (.aload_n 0, 1) := by decide +kernel
theorem dX6_given_1 : decode cX6_given 1 = .ok (.iload_n 1, 1) := by decide +kernel
theorem dX6_given_2 : decode cX6_given 2 = .ok (.invokevirtual 32, 3) := by decide +kernel
theorem dX6_given_5 : decode cX6_given 5 = .ok (.aload_n 0, 1) := by decide +kernel
theorem dX6_given_6 : decode cX6_given 6 = .ok (.getfield 10, 3) := by decide +kernel
theorem dX6_given_9 : decode cX6_given 9 = .ok (.invokevirtual 36, 3) := by decide +kernel
theorem dX6_given_12 : decode cX6_given 12 = .ok (.bipush 14, 2) := by decide +kernel
theorem dX6_given_14 : decode cX6_given 14 = .ok (.if_icmp .lt 13, 3) := by decide +kernel
theorem dX6_given_17 : decode cX6_given 17 = .ok (.new 40, 3) := by decide +kernel
theorem dX6_given_20 : decode cX6_given 20 = .ok (.dup, 1) := by decide +kernel
theorem dX6_given_21 : decode cX6_given 21 = .ok (.ldc 42, 2) := by decide +kernel
theorem dX6_given_23 : decode cX6_given 23 = .ok (.invokespecial 44, 3) := by decide +kernel
theorem dX6_given_26 : decode cX6_given 26 = .ok (.athrow, 1) := by decide +kernel
theorem dX6_given_27 : decode cX6_given 27 = .ok (.aload_n 0, 1) := by decide +kernel
theorem dX6_given_28 : decode cX6_given 28 = .ok (.getfield 10, 3) := by decide +kernel
theorem dX6_given_31 : decode cX6_given 31 = .ok (.iload_n 1, 1) := by decide +kernel
theorem dX6_given_32 : decode cX6_given 32 = .ok (.invokevirtual 47, 3) := by decide +kernel
theorem dX6_given_35 : decode cX6_given 35 = .ok (.aload_n 0, 1) := by decide +kernel
theorem dX6_given_36 : decode cX6_given 36 = .ok (.getfield 21, 3) := by decide +kernel
theorem dX6_given_39 : decode cX6_given 39 = .ok (.iconst 0, 1) := by decide +kernel
theorem dX6_given_40 : decode cX6_given 40 = .ok (.invokevirtual 50, 3) := by decide +kernel
theorem dX6_given_43 : decode cX6_given 43 = .ok (.aload_n 0, 1) := by decide +kernel
theorem dX6_given_44 : decode cX6_given 44 = .ok (.getfield 10, 3) := by decide +kernel
theorem dX6_given_47 : decode cX6_given 47 = .ok (.invokevirtual 36, 3) := by decide +kernel
theorem dX6_given_50 : decode cX6_given 50 = .ok (.ireturn, 1) := by decide +kernel
theorem dX6_other_0 : decode cX6_other 0 = .ok (.aload_n 0, 1) := by decide +kernel
theorem dX6_other_1 : decode cX6_other 1 = .ok (.iload_n 1, 1) := by decide +kernel
theorem dX6_other_2 : decode cX6_other 2 = .ok (.invokevirtual 32, 3) := by decide +kernel
theorem dX6_other_5 : decode cX6_other 5 = .ok (.aload_n 0, 1) := by decide +kernel
theorem dX6_other_6 : decode cX6_other 6 = .ok (.getfield 21, 3) := by decide +kernel
theorem dX6_other_9 : decode cX6_other 9 = .ok (.invokevirtual 53, 3) := by decide +kernel
theorem dX6_other_12 : decode cX6_other 12 = .ok (.ifCond .eq 13, 3) := by decide +kernel
theorem dX6_other_15 : decode cX6_other 15 = .ok (.new 40, 3) := by decide +kernel
theorem dX6_other_18 : decode cX6_other 18 = .ok (.dup, 1) := by decide +kernel
theorem dX6_other_19 : decode cX6_other 19 = .ok (.ldc 57, 2) := by decide +kernel
theorem dX6_other_21 : decode cX6_other 21 = .ok (.invokespecial 44, 3) := by decide +kernel
theorem dX6_other_24 : decode cX6_other 24 = .ok (.athrow, 1) := by decide +kernel
theorem dX6_other_25 : decode cX6_other 25 = .ok (.aload_n 0, 1) := by decide +kernel
theorem dX6_other_26 : decode cX6_other 26 = .ok (.getfield 21, 3) := by decide +kernel
theorem dX6_other_29 : decode cX6_other 29 = .ok (.iload_n 1, 1) := by decide +kernel
theorem dX6_other_30 : decode cX6_other 30 = .ok (.invokevirtual 59, 3) := by decide +kernel
theorem dX6_other_33 : decode cX6_other 33 = .ok (.aload_n 0, 1) := by decide +kernel
theorem dX6_other_34 : decode cX6_other 34 = .ok (.getfield 21, 3) := by decide +kernel
theorem dX6_other_37 : decode cX6_other 37 = .ok (.invokevirtual 60, 3) := by decide +kernel
theorem dX6_other_40 : decode cX6_other 40 = .ok (.ireturn, 1) := by decide +kernel
theorem dX6_change_0 : decode cX6_change 0 = .ok (.aload_n 0, 1) := by decide +kernel
theorem dX6_change_1 : decode cX6_change 1 = .ok (.iload_n 1, 1) := by decide +kernel
theorem dX6_change_2 : decode cX6_change 2 = .ok (.invokevirtual 63, 3) := by decide +kernel
theorem dX6_change_5 : decode cX6_change 5 = .ok (.aload_n 0, 1) := by decide +kernel
theorem dX6_change_6 : decode cX6_change 6 = .ok (.iload_n 2, 1) := by decide +kernel
theorem dX6_change_7 : decode cX6_change 7 = .ok (.invokevirtual 32, 3) := by decide +kernel
theorem dX6_change_10 : decode cX6_change 10 = .ok (.aload_n 0, 1) := by decide +kernel
theorem dX6_change_11 : decode cX6_change 11 = .ok (.getfield 21, 3) := by decide +kernel
theorem dX6_change_14 : decode cX6_change 14 = .ok (.iload_n 1, 1) := by decide +kernel
theorem dX6_change_15 : decode cX6_change 15 = .ok (.invokevirtual 66, 3) := by decide +kernel
theorem dX6_change_18 : decode cX6_change 18 = .ok (.istore_n 3, 1) := by decide +kernel
theorem dX6_change_19 : decode cX6_change 19 = .ok (.aload_n 0, 1) := by decide +kernel
theorem dX6_change_20 : decode cX6_change 20 = .ok (.getfield 21, 3) := by decide +kernel
theorem dX6_change_23 : decode cX6_change 23 = .ok (.iload_n 1, 1) := by decide +kernel
theorem dX6_change_24 : decode cX6_change 24 = .ok (.iload_n 2, 1) := by decide +kernel
theorem dX6_change_25 : decode cX6_change 25 = .ok (.invokevirtual 70, 3) := by decide +kernel
theorem dX6_change_28 : decode cX6_change 28 = .ok (.iload_n 3, 1) := by decide +kernel
theorem dX6_change_29 : decode cX6_change 29 = .ok (.ireturn, 1) := by decide +kernel
theorem dX6_clear_0 : decode cX6_clear 0 = .ok (.aload_n 0, 1) := by decide +kernel
theorem dX6_clear_1 : decode cX6_clear 1 = .ok (.getfield 21, 3) := by decide +kernel
theorem dX6_clear_4 : decode cX6_clear 4 = .ok (.invokevirtual 60, 3) := by decide +kernel
theorem dX6_clear_7 : decode cX6_clear 7 = .ok (.istore_n 2, 1) := by decide +kernel
theorem dX6_clear_8 : decode cX6_clear 8 = .ok (.aload_n 0, 1) := by decide +kernel
theorem dX6_clear_9 : decode cX6_clear 9 = .ok (.getfield 21, 3) := by decide +kernel
theorem dX6_clear_12 : decode cX6_clear 12 = .ok (.iconst 0, 1) := by decide +kernel
theorem dX6_clear_13 : decode cX6_clear 13 = .ok (.invokevirtual 50, 3) := by decide +kernel
theorem dX6_clear_16 : decode cX6_clear 16 = .ok (.iload_n 1, 1) := by decide +kernel
theorem dX6_clear_17 : decode cX6_clear 17 = .ok (.ifCond .eq 10, 3) := by decide +kernel
theorem dX6_clear_20 : decode cX6_clear 20 = .ok (.aload_n 0, 1) := by decide +kernel
theorem dX6_clear_21 : decode cX6_clear 21 = .ok (.getfield 10, 3) := by decide +kernel
theorem dX6_clear_24 : decode cX6_clear 24 = .ok (.invokevirtual 74, 3) := by decide +kernel
theorem dX6_clear_27 : decode cX6_clear 27 = .ok (.iload_n 2, 1) := by decide +kernel
theorem dX6_clear_28 : decode cX6_clear 28 = .ok (.ireturn, 1) := by decide +kernel
theorem dX6_ratio_0 : decode cX6_ratio 0 = .ok (.iload_n 1, 1) := by decide +kernel
theorem dX6_ratio_1 : decode cX6_ratio 1 = .ok (.iconst 1, 1) := by decide +kernel
theorem dX6_ratio_2 : decode cX6_ratio 2 = .ok (.if_icmp .eq 23, 3) := by decide +kernel
theorem dX6_ratio_5 : decode cX6_ratio 5 = .ok (.iload_n 1, 1) := by decide +kernel
theorem dX6_ratio_6 : decode cX6_ratio 6 = .ok (.iconst 2, 1) := by decide +kernel
theorem dX6_ratio_7 : decode cX6_ratio 7 = .ok (.if_icmp .eq 18, 3) := by decide +kernel
theorem dX6_ratio_10 : decode cX6_ratio 10 = .ok (.iload_n 1, 1) := by decide +kernel
theorem dX6_ratio_11 : decode cX6_ratio 11 = .ok (.iconst 4, 1) := by decide +kernel
theorem dX6_ratio_12 : decode cX6_ratio 12 = .ok (.if_icmp .eq 13, 3) := by decide +kernel
theorem dX6_ratio_15 : decode cX6_ratio 15 = .ok (.new 77, 3) := by decide +kernel
theorem dX6_ratio_18 : decode cX6_ratio 18 = .ok (.dup, 1) := by decide +kernel
theorem dX6_ratio_19 : decode cX6_ratio 19 = .ok (.ldc 79, 2) := by decide +kernel
theorem dX6_ratio_21 : decode cX6_ratio 21 = .ok (.invokespecial 81, 3) := by decide +kernel
theorem dX6_ratio_24 : decode cX6_ratio 24 = .ok (.athrow, 1) := by decide +kernel
theorem dX6_ratio_25 : decode cX6_ratio 25 = .ok (.aload_n 0, 1) := by decide +kernel
theorem dX6_ratio_26 : decode cX6_ratio 26 = .ok (.getfield 10, 3) := by decide +kernel
theorem dX6_ratio_29 : decode cX6_ratio 29 = .ok (.invokevirtual 82, 3) := by decide +kernel
theorem dX6_ratio_32 : decode cX6_ratio 32 = .ok (.istore_n 2, 1) := by decide +kernel
theorem dX6_ratio_33 : decode cX6_ratio 33 = .ok (.aload_n 0, 1) := by decide +kernel
theorem dX6_ratio_34 : decode cX6_ratio 34 = .ok (.getfield 10, 3) := by decide +kernel
theorem dX6_ratio_37 : decode cX6_ratio 37 = .ok (.iload_n 1, 1) := by decide +kernel
theorem dX6_ratio_38 : decode cX6_ratio 38 = .ok (.invokevirtual 85, 3) := by decide +kernel
theorem dX6_ratio_41 : decode cX6_ratio 41 = .ok (.aload_n 0, 1) := by decide +kernel
theorem dX6_ratio_42 : decode cX6_ratio 42 = .ok (.getfield 21, 3) := by decide +kernel
theorem dX6_ratio_45 : decode cX6_ratio 45 = .ok (.iconst 0, 1) := by decide +kernel
theorem dX6_ratio_46 : decode cX6_ratio 46 = .ok (.invokevirtual 50, 3) := by decide +kernel
theorem dX6_ratio_49 : decode cX6_ratio 49 = .ok (.iload_n 2, 1) := by decide +kernel
theorem dX6_ratio_50 : decode cX6_ratio 50 = .ok (.ireturn, 1) := by decide +kernel
theorem dX6_lower_0 : decode cX6_lower 0 = .ok (.aload_n 0, 1) := by decide +kernel
theorem dX6_lower_1 : decode cX6_lower 1 = .ok (.getfield 10, 3) := by decide +kernel
theorem dX6_lower_4 : decode cX6_lower 4 = .ok (.invokevirtual 88, 3) := by decide +kernel
theorem dX6_lower_7 : decode cX6_lower 7 = .ok (.istore_n 2, 1) := by decide +kernel
theorem dX6_lower_8 : decode cX6_lower 8 = .ok (.aload_n 0, 1) := by decide +kernel
theorem dX6_lower_9 : decode cX6_lower 9 = .ok (.getfield 10, 3) := by decide +kernel
theorem dX6_lower_12 : decode cX6_lower 12 = .ok (.iload_n 1, 1) := by decide +kernel
theorem dX6_lower_13 : decode cX6_lower 13 = .ok (.invokevirtual 91, 3) := by decide +kernel
theorem dX6_lower_16 : decode cX6_lower 16 = .ok (.iload_n 2, 1) := by decide +kernel
theorem dX6_lower_17 : decode cX6_lower 17 = .ok (.ireturn, 1) := by decide +kernel
theorem dX6_feign_0 : decode cX6_feign 0 = .ok (.aload_n 0, 1) := by decide +kernel
theorem dX6_feign_1 : decode cX6_feign 1 = .ok (.getfield 10, 3) := by decide +kernel
theorem dX6_feign_4 : decode cX6_feign 4 = .ok (.invokevirtual 95, 3) := by decide +kernel
theorem dX6_feign_7 : decode cX6_feign 7 = .ok (.istore_n 2, 1) := by decide +kernel
theorem dX6_feign_8 : decode cX6_feign 8 = .ok (.aload_n 0, 1) := by decide +kernel
theorem dX6_feign_9 : decode cX6_feign 9 = .ok (.getfield 10, 3) := by decide +kernel
theorem dX6_feign_12 : decode cX6_feign 12 = .ok (.iload_n 1, 1) := by decide +kernel
theorem dX6_feign_13 : decode cX6_feign 13 = .ok (.invokevirtual 98, 3) := by decide +kernel
theorem dX6_feign_16 : decode cX6_feign 16 = .ok (.iload_n 2, 1) := by decide +kernel
theorem dX6_feign_17 : decode cX6_feign 17 = .ok (.ireturn, 1) := by decide +kernel
theorem dX6_notes_0 : decode cX6_notes 0 = .ok (.aload_n 0, 1) := by decide +kernel
theorem dX6_notes_1 : decode cX6_notes 1 = .ok (.getfield 21, 3) := by decide +kernel
theorem dX6_notes_4 : decode cX6_notes 4 = .ok (.invokevirtual 60, 3) := by decide +kernel
theorem dX6_notes_7 : decode cX6_notes 7 = .ok (.ireturn, 1) := by decide +kernel
theorem dX6_noteAt_0 : decode cX6_noteAt 0 = .ok (.aload_n 0, 1) := by decide +kernel
theorem dX6_noteAt_1 : decode cX6_noteAt 1 = .ok (.iload_n 1, 1) := by decide +kernel
theorem dX6_noteAt_2 : decode cX6_noteAt 2 = .ok (.invokevirtual 63, 3) := by decide +kernel
theorem dX6_noteAt_5 : decode cX6_noteAt 5 = .ok (.aload_n 0, 1) := by decide +kernel
theorem dX6_noteAt_6 : decode cX6_noteAt 6 = .ok (.getfield 21, 3) := by decide +kernel
theorem dX6_noteAt_9 : decode cX6_noteAt 9 = .ok (.iload_n 1, 1) := by decide +kernel
theorem dX6_noteAt_10 : decode cX6_noteAt 10 = .ok (.invokevirtual 66, 3) := by decide +kernel
theorem dX6_noteAt_13 : decode cX6_noteAt 13 = .ok (.ireturn, 1) := by decide +kernel
theorem dX6_pitch_0 : decode cX6_pitch 0 = .ok (.aload_n 0, 1) := by decide +kernel
theorem dX6_pitch_1 : decode cX6_pitch 1 = .ok (.iload_n 1, 1) := by decide +kernel
theorem dX6_pitch_2 : decode cX6_pitch 2 = .ok (.invokevirtual 63, 3) := by decide +kernel
theorem dX6_pitch_5 : decode cX6_pitch 5 = .ok (.aload_n 0, 1) := by decide +kernel
theorem dX6_pitch_6 : decode cX6_pitch 6 = .ok (.getfield 21, 3) := by decide +kernel
theorem dX6_pitch_9 : decode cX6_pitch 9 = .ok (.iload_n 1, 1) := by decide +kernel
theorem dX6_pitch_10 : decode cX6_pitch 10 = .ok (.invokevirtual 101, 3) := by decide +kernel
theorem dX6_pitch_13 : decode cX6_pitch 13 = .ok (.ireturn, 1) := by decide +kernel
theorem dX6_interval_0 : decode cX6_interval 0 = .ok (.aload_n 0, 1) := by decide +kernel
theorem dX6_interval_1 : decode cX6_interval 1 = .ok (.iload_n 1, 1) := by decide +kernel
theorem dX6_interval_2 : decode cX6_interval 2 = .ok (.invokevirtual 63, 3) := by decide +kernel
theorem dX6_interval_5 : decode cX6_interval 5 = .ok (.aload_n 0, 1) := by decide +kernel
theorem dX6_interval_6 : decode cX6_interval 6 = .ok (.getfield 21, 3) := by decide +kernel
theorem dX6_interval_9 : decode cX6_interval 9 = .ok (.iload_n 1, 1) := by decide +kernel
theorem dX6_interval_10 : decode cX6_interval 10 = .ok (.invokevirtual 104, 3) := by decide +kernel
theorem dX6_interval_13 : decode cX6_interval 13 = .ok (.invokestatic 107, 3) := by decide +kernel
theorem dX6_interval_16 : decode cX6_interval 16 = .ok (.ireturn, 1) := by decide +kernel
theorem dX6_setLaw_0 : decode cX6_setLaw 0 = .ok (.aload_n 0, 1) := by decide +kernel
theorem dX6_setLaw_1 : decode cX6_setLaw 1 = .ok (.iload_n 1, 1) := by decide +kernel
theorem dX6_setLaw_2 : decode cX6_setLaw 2 = .ok (.invokevirtual 113, 3) := by decide +kernel
theorem dX6_setLaw_5 : decode cX6_setLaw 5 = .ok (.istore_n 3, 1) := by decide +kernel
theorem dX6_setLaw_6 : decode cX6_setLaw 6 = .ok (.iload_n 2, 1) := by decide +kernel
theorem dX6_setLaw_7 : decode cX6_setLaw 7 = .ok (.ifCond .lt 9, 3) := by decide +kernel
theorem dX6_setLaw_10 : decode cX6_setLaw 10 = .ok (.iload_n 2, 1) := by decide +kernel
theorem dX6_setLaw_11 : decode cX6_setLaw 11 = .ok (.bipush 10, 2) := by decide +kernel
theorem dX6_setLaw_13 : decode cX6_setLaw 13 = .ok (.if_icmp .le 13, 3) := by decide +kernel
theorem dX6_setLaw_16 : decode cX6_setLaw 16 = .ok (.new 77, 3) := by decide +kernel
theorem dX6_setLaw_19 : decode cX6_setLaw 19 = .ok (.dup, 1) := by decide +kernel
theorem dX6_setLaw_20 : decode cX6_setLaw 20 = .ok (.ldc 117, 2) := by decide +kernel
theorem dX6_setLaw_22 : decode cX6_setLaw 22 = .ok (.invokespecial 81, 3) := by decide +kernel
theorem dX6_setLaw_25 : decode cX6_setLaw 25 = .ok (.athrow, 1) := by decide +kernel
theorem dX6_setLaw_26 : decode cX6_setLaw 26 = .ok (.aload_n 0, 1) := by decide +kernel
theorem dX6_setLaw_27 : decode cX6_setLaw 27 = .ok (.getfield 28, 3) := by decide +kernel
theorem dX6_setLaw_30 : decode cX6_setLaw 30 = .ok (.iload_n 3, 1) := by decide +kernel
theorem dX6_setLaw_31 : decode cX6_setLaw 31 = .ok (.invokevirtual 119, 3) := by decide +kernel
theorem dX6_setLaw_34 : decode cX6_setLaw 34 = .ok (.istore 4, 2) := by decide +kernel
theorem dX6_setLaw_36 : decode cX6_setLaw 36 = .ok (.aload_n 0, 1) := by decide +kernel
theorem dX6_setLaw_37 : decode cX6_setLaw 37 = .ok (.getfield 28, 3) := by decide +kernel
theorem dX6_setLaw_40 : decode cX6_setLaw 40 = .ok (.iload_n 3, 1) := by decide +kernel
theorem dX6_setLaw_41 : decode cX6_setLaw 41 = .ok (.iload_n 2, 1) := by decide +kernel
theorem dX6_setLaw_42 : decode cX6_setLaw 42 = .ok (.invokevirtual 122, 3) := by decide +kernel
theorem dX6_setLaw_45 : decode cX6_setLaw 45 = .ok (.iload 4, 2) := by decide +kernel
theorem dX6_setLaw_47 : decode cX6_setLaw 47 = .ok (.ireturn, 1) := by decide +kernel
theorem dX6_weight_0 : decode cX6_weight 0 = .ok (.aload_n 0, 1) := by decide +kernel
theorem dX6_weight_1 : decode cX6_weight 1 = .ok (.iload_n 1, 1) := by decide +kernel
theorem dX6_weight_2 : decode cX6_weight 2 = .ok (.invokevirtual 113, 3) := by decide +kernel
theorem dX6_weight_5 : decode cX6_weight 5 = .ok (.istore_n 2, 1) := by decide +kernel
theorem dX6_weight_6 : decode cX6_weight 6 = .ok (.aload_n 0, 1) := by decide +kernel
theorem dX6_weight_7 : decode cX6_weight 7 = .ok (.getfield 28, 3) := by decide +kernel
theorem dX6_weight_10 : decode cX6_weight 10 = .ok (.iload_n 2, 1) := by decide +kernel
theorem dX6_weight_11 : decode cX6_weight 11 = .ok (.invokevirtual 119, 3) := by decide +kernel
theorem dX6_weight_14 : decode cX6_weight 14 = .ok (.ireturn, 1) := by decide +kernel
theorem dX6_style_0 : decode cX6_style 0 = .ok (.iload_n 1, 1) := by decide +kernel
theorem dX6_style_1 : decode cX6_style 1 = .ok (.ifCond .lt 8, 3) := by decide +kernel
theorem dX6_style_4 : decode cX6_style 4 = .ok (.iload_n 1, 1) := by decide +kernel
theorem dX6_style_5 : decode cX6_style 5 = .ok (.iconst 3, 1) := by decide +kernel
theorem dX6_style_6 : decode cX6_style 6 = .ok (.if_icmp .lt 13, 3) := by decide +kernel
theorem dX6_style_9 : decode cX6_style 9 = .ok (.new 77, 3) := by decide +kernel
theorem dX6_style_12 : decode cX6_style 12 = .ok (.dup, 1) := by decide +kernel
theorem dX6_style_13 : decode cX6_style 13 = .ok (.ldc 125, 2) := by decide +kernel
theorem dX6_style_15 : decode cX6_style 15 = .ok (.invokespecial 81, 3) := by decide +kernel
theorem dX6_style_18 : decode cX6_style 18 = .ok (.athrow, 1) := by decide +kernel
theorem dX6_style_19 : decode cX6_style 19 = .ok (.aload_n 0, 1) := by decide +kernel
theorem dX6_style_20 : decode cX6_style 20 = .ok (.getfield 28, 3) := by decide +kernel
theorem dX6_style_23 : decode cX6_style 23 = .ok (.iload_n 1, 1) := by decide +kernel
theorem dX6_style_24 : decode cX6_style 24 = .ok (.invokevirtual 127, 3) := by decide +kernel
theorem dX6_style_27 : decode cX6_style 27 = .ok (.ireturn, 1) := by decide +kernel
theorem dX6_faults_0 : decode cX6_faults 0 = .ok (.aload_n 0, 1) := by decide +kernel
theorem dX6_faults_1 : decode cX6_faults 1 = .ok (.getfield 28, 3) := by decide +kernel
theorem dX6_faults_4 : decode cX6_faults 4 = .ok (.iconst 1, 1) := by decide +kernel
theorem dX6_faults_5 : decode cX6_faults 5 = .ok (.invokevirtual 130, 3) := by decide +kernel
theorem dX6_faults_8 : decode cX6_faults 8 = .ok (.istore_n 1, 1) := by decide +kernel
theorem dX6_faults_9 : decode cX6_faults 9 = .ok (.iconst 0, 1) := by decide +kernel
theorem dX6_faults_10 : decode cX6_faults 10 = .ok (.istore_n 2, 1) := by decide +kernel
theorem dX6_faults_11 : decode cX6_faults 11 = .ok (.iconst 0, 1) := by decide +kernel
theorem dX6_faults_12 : decode cX6_faults 12 = .ok (.istore_n 3, 1) := by decide +kernel
theorem dX6_faults_13 : decode cX6_faults 13 = .ok (.iload_n 3, 1) := by decide +kernel
theorem dX6_faults_14 : decode cX6_faults 14 = .ok (.aload_n 0, 1) := by decide +kernel
theorem dX6_faults_15 : decode cX6_faults 15 = .ok (.getfield 21, 3) := by decide +kernel
theorem dX6_faults_18 : decode cX6_faults 18 = .ok (.invokevirtual 60, 3) := by decide +kernel
theorem dX6_faults_21 : decode cX6_faults 21 = .ok (.if_icmp .ge 25, 3) := by decide +kernel
theorem dX6_faults_24 : decode cX6_faults 24 = .ok (.iload_n 2, 1) := by decide +kernel
theorem dX6_faults_25 : decode cX6_faults 25 = .ok (.aload_n 0, 1) := by decide +kernel
theorem dX6_faults_26 : decode cX6_faults 26 = .ok (.getfield 21, 3) := by decide +kernel
theorem dX6_faults_29 : decode cX6_faults 29 = .ok (.iload_n 3, 1) := by decide +kernel
theorem dX6_faults_30 : decode cX6_faults 30 = .ok (.invokevirtual 133, 3) := by decide +kernel
theorem dX6_faults_33 : decode cX6_faults 33 = .ok (.iload_n 1, 1) := by decide +kernel
theorem dX6_faults_34 : decode cX6_faults 34 = .ok (.iand, 1) := by decide +kernel
theorem dX6_faults_35 : decode cX6_faults 35 = .ok (.invokestatic 136, 3) := by decide +kernel
theorem dX6_faults_38 : decode cX6_faults 38 = .ok (.iadd, 1) := by decide +kernel
theorem dX6_faults_39 : decode cX6_faults 39 = .ok (.istore_n 2, 1) := by decide +kernel
theorem dX6_faults_40 : decode cX6_faults 40 = .ok (.iinc 3 1, 3) := by decide +kernel
theorem dX6_faults_43 : decode cX6_faults 43 = .ok (.goto (-30), 3) := by decide +kernel
theorem dX6_faults_46 : decode cX6_faults 46 = .ok (.iload_n 2, 1) := by decide +kernel
theorem dX6_faults_47 : decode cX6_faults 47 = .ok (.ireturn, 1) := by decide +kernel
theorem dX6_faultAt_0 : decode cX6_faultAt 0 = .ok (.aload_n 0, 1) := by decide +kernel
theorem dX6_faultAt_1 : decode cX6_faultAt 1 = .ok (.iload_n 1, 1) := by decide +kernel
theorem dX6_faultAt_2 : decode cX6_faultAt 2 = .ok (.invokevirtual 141, 3) := by decide +kernel
theorem dX6_faultAt_5 : decode cX6_faultAt 5 = .ok (.bipush 12, 2) := by decide +kernel
theorem dX6_faultAt_7 : decode cX6_faultAt 7 = .ok (.idiv, 1) := by decide +kernel
theorem dX6_faultAt_8 : decode cX6_faultAt 8 = .ok (.ireturn, 1) := by decide +kernel
theorem dX6_faultOf_0 : decode cX6_faultOf 0 = .ok (.aload_n 0, 1) := by decide +kernel
theorem dX6_faultOf_1 : decode cX6_faultOf 1 = .ok (.iload_n 1, 1) := by decide +kernel
theorem dX6_faultOf_2 : decode cX6_faultOf 2 = .ok (.invokevirtual 141, 3) := by decide +kernel
theorem dX6_faultOf_5 : decode cX6_faultOf 5 = .ok (.bipush 12, 2) := by decide +kernel
theorem dX6_faultOf_7 : decode cX6_faultOf 7 = .ok (.irem, 1) := by decide +kernel
theorem dX6_faultOf_8 : decode cX6_faultOf 8 = .ok (.invokestatic 144, 3) := by decide +kernel
theorem dX6_faultOf_11 : decode cX6_faultOf 11 = .ok (.ireturn, 1) := by decide +kernel
theorem dX6_cost_0 : decode cX6_cost 0 = .ok (.aload_n 0, 1) := by decide +kernel
theorem dX6_cost_1 : decode cX6_cost 1 = .ok (.getfield 21, 3) := by decide +kernel
theorem dX6_cost_4 : decode cX6_cost 4 = .ok (.aload_n 0, 1) := by decide +kernel
theorem dX6_cost_5 : decode cX6_cost 5 = .ok (.getfield 28, 3) := by decide +kernel
theorem dX6_cost_8 : decode cX6_cost 8 = .ok (.iconst 0, 1) := by decide +kernel
theorem dX6_cost_9 : decode cX6_cost 9 = .ok (.aload_n 0, 1) := by decide +kernel
theorem dX6_cost_10 : decode cX6_cost 10 = .ok (.getfield 21, 3) := by decide +kernel
theorem dX6_cost_13 : decode cX6_cost 13 = .ok (.invokevirtual 60, 3) := by decide +kernel
theorem dX6_cost_16 : decode cX6_cost 16 = .ok (.iconst 1, 1) := by decide +kernel
theorem dX6_cost_17 : decode cX6_cost 17 = .ok (.isub, 1) := by decide +kernel
theorem dX6_cost_18 : decode cX6_cost 18 = .ok (.invokevirtual 145, 3) := by decide +kernel
theorem dX6_cost_21 : decode cX6_cost 21 = .ok (.ireturn, 1) := by decide +kernel
theorem dX6_isGood_0 : decode cX6_isGood 0 = .ok (.aload_n 0, 1) := by decide +kernel
theorem dX6_isGood_1 : decode cX6_isGood 1 = .ok (.getfield 21, 3) := by decide +kernel
theorem dX6_isGood_4 : decode cX6_isGood 4 = .ok (.invokevirtual 149, 3) := by decide +kernel
theorem dX6_isGood_7 : decode cX6_isGood 7 = .ok (.ifCond .eq 26, 3) := by decide +kernel
theorem dX6_isGood_10 : decode cX6_isGood 10 = .ok (.aload_n 0, 1) := by decide +kernel
theorem dX6_isGood_11 : decode cX6_isGood 11 = .ok (.getfield 21, 3) := by decide +kernel
theorem dX6_isGood_14 : decode cX6_isGood 14 = .ok (.aload_n 0, 1) := by decide +kernel
theorem dX6_isGood_15 : decode cX6_isGood 15 = .ok (.getfield 28, 3) := by decide +kernel
theorem dX6_isGood_18 : decode cX6_isGood 18 = .ok (.bipush 10, 2) := by decide +kernel
theorem dX6_isGood_20 : decode cX6_isGood 20 = .ok (.invokevirtual 130, 3) := by decide +kernel
theorem dX6_isGood_23 : decode cX6_isGood 23 = .ok (.invokevirtual 152, 3) := by decide +kernel
theorem dX6_isGood_26 : decode cX6_isGood 26 = .ok (.ifCond .eq 7, 3) := by decide +kernel
theorem dX6_isGood_29 : decode cX6_isGood 29 = .ok (.iconst 1, 1) := by decide +kernel
theorem dX6_isGood_30 : decode cX6_isGood 30 = .ok (.goto 4, 3) := by decide +kernel
theorem dX6_isGood_33 : decode cX6_isGood 33 = .ok (.iconst 0, 1) := by decide +kernel
theorem dX6_isGood_34 : decode cX6_isGood 34 = .ok (.ireturn, 1) := by decide +kernel
theorem dX6_mend_0 : decode cX6_mend 0 = .ok (.aload_n 0, 1) := by decide +kernel
theorem dX6_mend_1 : decode cX6_mend 1 = .ok (.invokevirtual 156, 3) := by decide +kernel
theorem dX6_mend_4 : decode cX6_mend 4 = .ok (.iconst (-1), 1) := by decide +kernel
theorem dX6_mend_5 : decode cX6_mend 5 = .ok (.istore_n 1, 1) := by decide +kernel
theorem dX6_mend_6 : decode cX6_mend 6 = .ok (.iconst 0, 1) := by decide +kernel
theorem dX6_mend_7 : decode cX6_mend 7 = .ok (.istore_n 2, 1) := by decide +kernel
theorem dX6_mend_8 : decode cX6_mend 8 = .ok (.iconst 0, 1) := by decide +kernel
theorem dX6_mend_9 : decode cX6_mend 9 = .ok (.istore_n 3, 1) := by decide +kernel
theorem dX6_mend_10 : decode cX6_mend 10 = .ok (.iconst 0, 1) := by decide +kernel
theorem dX6_mend_11 : decode cX6_mend 11 = .ok (.istore 4, 2) := by decide +kernel
theorem dX6_mend_13 : decode cX6_mend 13 = .ok (.iload 4, 2) := by decide +kernel
theorem dX6_mend_15 : decode cX6_mend 15 = .ok (.aload_n 0, 1) := by decide +kernel
theorem dX6_mend_16 : decode cX6_mend 16 = .ok (.getfield 21, 3) := by decide +kernel
theorem dX6_mend_19 : decode cX6_mend 19 = .ok (.invokevirtual 60, 3) := by decide +kernel
theorem dX6_mend_22 : decode cX6_mend 22 = .ok (.if_icmp .ge 106, 3) := by decide +kernel
theorem dX6_mend_25 : decode cX6_mend 25 = .ok (.aload_n 0, 1) := by decide +kernel
theorem dX6_mend_26 : decode cX6_mend 26 = .ok (.getfield 21, 3) := by decide +kernel
theorem dX6_mend_29 : decode cX6_mend 29 = .ok (.iload 4, 2) := by decide +kernel
theorem dX6_mend_31 : decode cX6_mend 31 = .ok (.invokevirtual 66, 3) := by decide +kernel
theorem dX6_mend_34 : decode cX6_mend 34 = .ok (.istore 5, 2) := by decide +kernel
theorem dX6_mend_36 : decode cX6_mend 36 = .ok (.aload_n 0, 1) := by decide +kernel
theorem dX6_mend_37 : decode cX6_mend 37 = .ok (.getfield 21, 3) := by decide +kernel
theorem dX6_mend_40 : decode cX6_mend 40 = .ok (.aload_n 0, 1) := by decide +kernel
theorem dX6_mend_41 : decode cX6_mend 41 = .ok (.getfield 28, 3) := by decide +kernel
theorem dX6_mend_44 : decode cX6_mend 44 = .ok (.iload 4, 2) := by decide +kernel
theorem dX6_mend_46 : decode cX6_mend 46 = .ok (.invokevirtual 159, 3) := by decide +kernel
theorem dX6_mend_49 : decode cX6_mend 49 = .ok (.istore 6, 2) := by decide +kernel
theorem dX6_mend_51 : decode cX6_mend 51 = .ok (.iconst 0, 1) := by decide +kernel
theorem dX6_mend_52 : decode cX6_mend 52 = .ok (.istore 7, 2) := by decide +kernel
theorem dX6_mend_54 : decode cX6_mend 54 = .ok (.iload 7, 2) := by decide +kernel
theorem dX6_mend_56 : decode cX6_mend 56 = .ok (.bipush 28, 2) := by decide +kernel
theorem dX6_mend_58 : decode cX6_mend 58 = .ok (.if_icmp .ge 53, 3) := by decide +kernel
theorem dX6_mend_61 : decode cX6_mend 61 = .ok (.aload_n 0, 1) := by decide +kernel
theorem dX6_mend_62 : decode cX6_mend 62 = .ok (.getfield 21, 3) := by decide +kernel
theorem dX6_mend_65 : decode cX6_mend 65 = .ok (.iload 4, 2) := by decide +kernel
theorem dX6_mend_67 : decode cX6_mend 67 = .ok (.iload 7, 2) := by decide +kernel
theorem dX6_mend_69 : decode cX6_mend 69 = .ok (.invokevirtual 70, 3) := by decide +kernel
theorem dX6_mend_72 : decode cX6_mend 72 = .ok (.iload 6, 2) := by decide +kernel
theorem dX6_mend_74 : decode cX6_mend 74 = .ok (.aload_n 0, 1) := by decide +kernel
theorem dX6_mend_75 : decode cX6_mend 75 = .ok (.getfield 21, 3) := by decide +kernel
theorem dX6_mend_78 : decode cX6_mend 78 = .ok (.aload_n 0, 1) := by decide +kernel
theorem dX6_mend_79 : decode cX6_mend 79 = .ok (.getfield 28, 3) := by decide +kernel
theorem dX6_mend_82 : decode cX6_mend 82 = .ok (.iload 4, 2) := by decide +kernel
theorem dX6_mend_84 : decode cX6_mend 84 = .ok (.invokevirtual 159, 3) := by decide +kernel
theorem dX6_mend_87 : decode cX6_mend 87 = .ok (.isub, 1) := by decide +kernel
theorem dX6_mend_88 : decode cX6_mend 88 = .ok (.istore 8, 2) := by decide +kernel
theorem dX6_mend_90 : decode cX6_mend 90 = .ok (.iload 8, 2) := by decide +kernel
theorem dX6_mend_92 : decode cX6_mend 92 = .ok (.iload_n 3, 1) := by decide +kernel
theorem dX6_mend_93 : decode cX6_mend 93 = .ok (.if_icmp .le 12, 3) := by decide +kernel
theorem dX6_mend_96 : decode cX6_mend 96 = .ok (.iload 8, 2) := by decide +kernel
theorem dX6_mend_98 : decode cX6_mend 98 = .ok (.istore_n 3, 1) := by decide +kernel
theorem dX6_mend_99 : decode cX6_mend 99 = .ok (.iload 4, 2) := by decide +kernel
theorem dX6_mend_101 : decode cX6_mend 101 = .ok (.istore_n 1, 1) := by decide +kernel
theorem dX6_mend_102 : decode cX6_mend 102 = .ok (.iload 7, 2) := by decide +kernel
theorem dX6_mend_104 : decode cX6_mend 104 = .ok (.istore_n 2, 1) := by decide +kernel
theorem dX6_mend_105 : decode cX6_mend 105 = .ok (.iinc 7 1, 3) := by decide +kernel
theorem dX6_mend_108 : decode cX6_mend 108 = .ok (.goto (-54), 3) := by decide +kernel
theorem dX6_mend_111 : decode cX6_mend 111 = .ok (.aload_n 0, 1) := by decide +kernel
theorem dX6_mend_112 : decode cX6_mend 112 = .ok (.getfield 21, 3) := by decide +kernel
theorem dX6_mend_115 : decode cX6_mend 115 = .ok (.iload 4, 2) := by decide +kernel
theorem dX6_mend_117 : decode cX6_mend 117 = .ok (.iload 5, 2) := by decide +kernel
theorem dX6_mend_119 : decode cX6_mend 119 = .ok (.invokevirtual 70, 3) := by decide +kernel
theorem dX6_mend_122 : decode cX6_mend 122 = .ok (.iinc 4 1, 3) := by decide +kernel
theorem dX6_mend_125 : decode cX6_mend 125 = .ok (.goto (-112), 3) := by decide +kernel
theorem dX6_mend_128 : decode cX6_mend 128 = .ok (.iload_n 1, 1) := by decide +kernel
theorem dX6_mend_129 : decode cX6_mend 129 = .ok (.ifCond .ge 13, 3) := by decide +kernel
theorem dX6_mend_132 : decode cX6_mend 132 = .ok (.new 163, 3) := by decide +kernel
theorem dX6_mend_135 : decode cX6_mend 135 = .ok (.dup, 1) := by decide +kernel
theorem dX6_mend_136 : decode cX6_mend 136 = .ok (.ldc 165, 2) := by decide +kernel
theorem dX6_mend_138 : decode cX6_mend 138 = .ok (.invokespecial 167, 3) := by decide +kernel
theorem dX6_mend_141 : decode cX6_mend 141 = .ok (.athrow, 1) := by decide +kernel
theorem dX6_mend_142 : decode cX6_mend 142 = .ok (.aload_n 0, 1) := by decide +kernel
theorem dX6_mend_143 : decode cX6_mend 143 = .ok (.getfield 21, 3) := by decide +kernel
theorem dX6_mend_146 : decode cX6_mend 146 = .ok (.iload_n 1, 1) := by decide +kernel
theorem dX6_mend_147 : decode cX6_mend 147 = .ok (.iload_n 2, 1) := by decide +kernel
theorem dX6_mend_148 : decode cX6_mend 148 = .ok (.invokevirtual 70, 3) := by decide +kernel
theorem dX6_mend_151 : decode cX6_mend 151 = .ok (.iload_n 1, 1) := by decide +kernel
theorem dX6_mend_152 : decode cX6_mend 152 = .ok (.ireturn, 1) := by decide +kernel
theorem dX6_range_0 : decode cX6_range 0 = .ok (.aload_n 0, 1) := by decide +kernel
theorem dX6_range_1 : decode cX6_range 1 = .ok (.iload_n 1, 1) := by decide +kernel
theorem dX6_range_2 : decode cX6_range 2 = .ok (.invokevirtual 32, 3) := by decide +kernel
theorem dX6_range_5 : decode cX6_range 5 = .ok (.aload_n 0, 1) := by decide +kernel
theorem dX6_range_6 : decode cX6_range 6 = .ok (.iload_n 2, 1) := by decide +kernel
theorem dX6_range_7 : decode cX6_range 7 = .ok (.invokevirtual 32, 3) := by decide +kernel
theorem dX6_range_10 : decode cX6_range 10 = .ok (.iload_n 2, 1) := by decide +kernel
theorem dX6_range_11 : decode cX6_range 11 = .ok (.iload_n 1, 1) := by decide +kernel
theorem dX6_range_12 : decode cX6_range 12 = .ok (.if_icmp .lt 11, 3) := by decide +kernel
theorem dX6_range_15 : decode cX6_range 15 = .ok (.iload_n 2, 1) := by decide +kernel
theorem dX6_range_16 : decode cX6_range 16 = .ok (.iload_n 1, 1) := by decide +kernel
theorem dX6_range_17 : decode cX6_range 17 = .ok (.isub, 1) := by decide +kernel
theorem dX6_range_18 : decode cX6_range 18 = .ok (.bipush 10, 2) := by decide +kernel
theorem dX6_range_20 : decode cX6_range 20 = .ok (.if_icmp .lt 13, 3) := by decide +kernel
theorem dX6_range_23 : decode cX6_range 23 = .ok (.new 77, 3) := by decide +kernel
theorem dX6_range_26 : decode cX6_range 26 = .ok (.dup, 1) := by decide +kernel
theorem dX6_range_27 : decode cX6_range 27 = .ok (.ldc 170, 2) := by decide +kernel
theorem dX6_range_29 : decode cX6_range 29 = .ok (.invokespecial 81, 3) := by decide +kernel
theorem dX6_range_32 : decode cX6_range 32 = .ok (.athrow, 1) := by decide +kernel
theorem dX6_range_33 : decode cX6_range 33 = .ok (.aload_n 0, 1) := by decide +kernel
theorem dX6_range_34 : decode cX6_range 34 = .ok (.getfield 10, 3) := by decide +kernel
theorem dX6_range_37 : decode cX6_range 37 = .ok (.iload_n 1, 1) := by decide +kernel
theorem dX6_range_38 : decode cX6_range 38 = .ok (.iload_n 2, 1) := by decide +kernel
theorem dX6_range_39 : decode cX6_range 39 = .ok (.invokevirtual 172, 3) := by decide +kernel
theorem dX6_range_42 : decode cX6_range 42 = .ok (.aload_n 0, 1) := by decide +kernel
theorem dX6_range_43 : decode cX6_range 43 = .ok (.getfield 10, 3) := by decide +kernel
theorem dX6_range_46 : decode cX6_range 46 = .ok (.invokevirtual 175, 3) := by decide +kernel
theorem dX6_range_49 : decode cX6_range 49 = .ok (.ireturn, 1) := by decide +kernel
theorem dX6_find_0 : decode cX6_find 0 = .ok (.aload_n 0, 1) := by decide +kernel
theorem dX6_find_1 : decode cX6_find 1 = .ok (.invokevirtual 178, 3) := by decide +kernel
theorem dX6_find_4 : decode cX6_find 4 = .ok (.aload_n 0, 1) := by decide +kernel
theorem dX6_find_5 : decode cX6_find 5 = .ok (.invokevirtual 181, 3) := by decide +kernel
theorem dX6_find_8 : decode cX6_find 8 = .ok (.astore_n 1, 1) := by decide +kernel
theorem dX6_find_9 : decode cX6_find 9 = .ok (.aload_n 0, 1) := by decide +kernel
theorem dX6_find_10 : decode cX6_find 10 = .ok (.getfield 28, 3) := by decide +kernel
theorem dX6_find_13 : decode cX6_find 13 = .ok (.bipush 10, 2) := by decide +kernel
theorem dX6_find_15 : decode cX6_find 15 = .ok (.invokevirtual 130, 3) := by decide +kernel
theorem dX6_find_18 : decode cX6_find 18 = .ok (.istore_n 2, 1) := by decide +kernel
theorem dX6_find_19 : decode cX6_find 19 = .ok (.aload_n 1, 1) := by decide +kernel
theorem dX6_find_20 : decode cX6_find 20 = .ok (.iload_n 2, 1) := by decide +kernel
theorem dX6_find_21 : decode cX6_find 21 = .ok (.invokevirtual 185, 3) := by decide +kernel
theorem dX6_find_24 : decode cX6_find 24 = .ok (.istore_n 3, 1) := by decide +kernel
theorem dX6_find_25 : decode cX6_find 25 = .ok (.iload_n 3, 1) := by decide +kernel
theorem dX6_find_26 : decode cX6_find 26 = .ok (.ldc 188, 2) := by decide +kernel
theorem dX6_find_28 : decode cX6_find 28 = .ok (.if_icmp .lt 13, 3) := by decide +kernel
theorem dX6_find_31 : decode cX6_find 31 = .ok (.new 163, 3) := by decide +kernel
theorem dX6_find_34 : decode cX6_find 34 = .ok (.dup, 1) := by decide +kernel
theorem dX6_find_35 : decode cX6_find 35 = .ok (.ldc 189, 2) := by decide +kernel
theorem dX6_find_37 : decode cX6_find 37 = .ok (.invokespecial 167, 3) := by decide +kernel
theorem dX6_find_40 : decode cX6_find 40 = .ok (.athrow, 1) := by decide +kernel
theorem dX6_find_41 : decode cX6_find 41 = .ok (.aload_n 1, 1) := by decide +kernel
theorem dX6_find_42 : decode cX6_find 42 = .ok (.aload_n 0, 1) := by decide +kernel
theorem dX6_find_43 : decode cX6_find 43 = .ok (.getfield 21, 3) := by decide +kernel
theorem dX6_find_46 : decode cX6_find 46 = .ok (.iload_n 2, 1) := by decide +kernel
theorem dX6_find_47 : decode cX6_find 47 = .ok (.invokevirtual 191, 3) := by decide +kernel
theorem dX6_find_50 : decode cX6_find 50 = .ok (.iload_n 3, 1) := by decide +kernel
theorem dX6_find_51 : decode cX6_find 51 = .ok (.ireturn, 1) := by decide +kernel
theorem dX6_goodLines_0 : decode cX6_goodLines 0 = .ok (.aload_n 0, 1) := by decide +kernel
theorem dX6_goodLines_1 : decode cX6_goodLines 1 = .ok (.invokevirtual 178, 3) := by decide +kernel
theorem dX6_goodLines_4 : decode cX6_goodLines 4 = .ok (.aload_n 0, 1) := by decide +kernel
theorem dX6_goodLines_5 : decode cX6_goodLines 5 = .ok (.invokevirtual 181, 3) := by decide +kernel
theorem dX6_goodLines_8 : decode cX6_goodLines 8 = .ok (.astore_n 1, 1) := by decide +kernel
theorem dX6_goodLines_9 : decode cX6_goodLines 9 = .ok (.aload_n 1, 1) := by decide +kernel
theorem dX6_goodLines_10 : decode cX6_goodLines 10 = .ok (.aload_n 0, 1) := by decide +kernel
theorem dX6_goodLines_11 : decode cX6_goodLines 11 = .ok (.getfield 28, 3) := by decide +kernel
theorem dX6_goodLines_14 : decode cX6_goodLines 14 = .ok (.bipush 10, 2) := by decide +kernel
theorem dX6_goodLines_16 : decode cX6_goodLines 16 = .ok (.invokevirtual 130, 3) := by decide +kernel
theorem dX6_goodLines_19 : decode cX6_goodLines 19 = .ok (.invokevirtual 185, 3) := by decide +kernel
theorem dX6_goodLines_22 : decode cX6_goodLines 22 = .ok (.pop, 1) := by decide +kernel
theorem dX6_goodLines_23 : decode cX6_goodLines 23 = .ok (.aload_n 1, 1) := by decide +kernel
theorem dX6_goodLines_24 : decode cX6_goodLines 24 = .ok (.invokevirtual 195, 3) := by decide +kernel
theorem dX6_goodLines_27 : decode cX6_goodLines 27 = .ok (.lreturn, 1) := by decide +kernel
theorem dX6_bars_0 : decode cX6_bars 0 = .ok (.aload_n 0, 1) := by decide +kernel
theorem dX6_bars_1 : decode cX6_bars 1 = .ok (.invokevirtual 178, 3) := by decide +kernel
theorem dX6_bars_4 : decode cX6_bars 4 = .ok (.aload_n 0, 1) := by decide +kernel
theorem dX6_bars_5 : decode cX6_bars 5 = .ok (.invokevirtual 181, 3) := by decide +kernel
theorem dX6_bars_8 : decode cX6_bars 8 = .ok (.invokevirtual 199, 3) := by decide +kernel
theorem dX6_bars_11 : decode cX6_bars 11 = .ok (.invokestatic 136, 3) := by decide +kernel
theorem dX6_bars_14 : decode cX6_bars 14 = .ok (.ireturn, 1) := by decide +kernel
theorem dX6_barAt_0 : decode cX6_barAt 0 = .ok (.aload_n 0, 1) := by decide +kernel
theorem dX6_barAt_1 : decode cX6_barAt 1 = .ok (.invokevirtual 178, 3) := by decide +kernel
theorem dX6_barAt_4 : decode cX6_barAt 4 = .ok (.aload_n 0, 1) := by decide +kernel
theorem dX6_barAt_5 : decode cX6_barAt 5 = .ok (.invokevirtual 181, 3) := by decide +kernel
theorem dX6_barAt_8 : decode cX6_barAt 8 = .ok (.invokevirtual 199, 3) := by decide +kernel
theorem dX6_barAt_11 : decode cX6_barAt 11 = .ok (.istore_n 2, 1) := by decide +kernel
theorem dX6_barAt_12 : decode cX6_barAt 12 = .ok (.iload_n 1, 1) := by decide +kernel
theorem dX6_barAt_13 : decode cX6_barAt 13 = .ok (.ifCond .lt 11, 3) := by decide +kernel
theorem dX6_barAt_16 : decode cX6_barAt 16 = .ok (.iload_n 1, 1) := by decide +kernel
theorem dX6_barAt_17 : decode cX6_barAt 17 = .ok (.iload_n 2, 1) := by decide +kernel
theorem dX6_barAt_18 : decode cX6_barAt 18 = .ok (.invokestatic 136, 3) := by decide +kernel
theorem dX6_barAt_21 : decode cX6_barAt 21 = .ok (.if_icmp .lt 13, 3) := by decide +kernel
theorem dX6_barAt_24 : decode cX6_barAt 24 = .ok (.new 202, 3) := by decide +kernel
theorem dX6_barAt_27 : decode cX6_barAt 27 = .ok (.dup, 1) := by decide +kernel
theorem dX6_barAt_28 : decode cX6_barAt 28 = .ok (.ldc 204, 2) := by decide +kernel
theorem dX6_barAt_30 : decode cX6_barAt 30 = .ok (.invokespecial 206, 3) := by decide +kernel
theorem dX6_barAt_33 : decode cX6_barAt 33 = .ok (.athrow, 1) := by decide +kernel
theorem dX6_barAt_34 : decode cX6_barAt 34 = .ok (.iload_n 2, 1) := by decide +kernel
theorem dX6_barAt_35 : decode cX6_barAt 35 = .ok (.iload_n 1, 1) := by decide +kernel
theorem dX6_barAt_36 : decode cX6_barAt 36 = .ok (.invokestatic 207, 3) := by decide +kernel
theorem dX6_barAt_39 : decode cX6_barAt 39 = .ok (.invokestatic 144, 3) := by decide +kernel
theorem dX6_barAt_42 : decode cX6_barAt 42 = .ok (.ireturn, 1) := by decide +kernel
theorem dX6_readySearch_0 : decode cX6_readySearch 0 = .ok (.aload_n 0, 1) := by decide +kernel
theorem dX6_readySearch_1 : decode cX6_readySearch 1 = .ok (.getfield 211, 3) := by decide +kernel
theorem dX6_readySearch_4 : decode cX6_readySearch 4 = .ok (.ifnonnull 22, 3) := by decide +kernel
theorem dX6_readySearch_7 : decode cX6_readySearch 7 = .ok (.aload_n 0, 1) := by decide +kernel
theorem dX6_readySearch_8 : decode cX6_readySearch 8 = .ok (.new 168, 3) := by decide +kernel
theorem dX6_readySearch_11 : decode cX6_readySearch 11 = .ok (.dup, 1) := by decide +kernel
theorem dX6_readySearch_12 : decode cX6_readySearch 12 = .ok (.aload_n 0, 1) := by decide +kernel
theorem dX6_readySearch_13 : decode cX6_readySearch 13 = .ok (.getfield 10, 3) := by decide +kernel
theorem dX6_readySearch_16 : decode cX6_readySearch 16 = .ok (.aload_n 0, 1) := by decide +kernel
theorem dX6_readySearch_17 : decode cX6_readySearch 17 = .ok (.getfield 28, 3) := by decide +kernel
theorem dX6_readySearch_20 : decode cX6_readySearch 20 = .ok (.invokespecial 215, 3) := by decide +kernel
theorem dX6_readySearch_23 : decode cX6_readySearch 23 = .ok (.putfield 211, 3) := by decide +kernel
theorem dX6_readySearch_26 : decode cX6_readySearch 26 = .ok (.aload_n 0, 1) := by decide +kernel
theorem dX6_readySearch_27 : decode cX6_readySearch 27 = .ok (.getfield 211, 3) := by decide +kernel
theorem dX6_readySearch_30 : decode cX6_readySearch 30 = .ok (.invokevirtual 218, 3) := by decide +kernel
theorem dX6_readySearch_33 : decode cX6_readySearch 33 = .ok (.aload_n 0, 1) := by decide +kernel
theorem dX6_readySearch_34 : decode cX6_readySearch 34 = .ok (.getfield 211, 3) := by decide +kernel
theorem dX6_readySearch_37 : decode cX6_readySearch 37 = .ok (.areturn, 1) := by decide +kernel
theorem dX6_exchanged_0 : decode cX6_exchanged 0 = .ok (.iload_n 1, 1) := by decide +kernel
theorem dX6_exchanged_1 : decode cX6_exchanged 1 = .ok (.bipush 7, 2) := by decide +kernel
theorem dX6_exchanged_3 : decode cX6_exchanged 3 = .ok (.if_icmp .lt 9, 3) := by decide +kernel
theorem dX6_exchanged_6 : decode cX6_exchanged 6 = .ok (.iload_n 1, 1) := by decide +kernel
theorem dX6_exchanged_7 : decode cX6_exchanged 7 = .ok (.bipush 14, 2) := by decide +kernel
theorem dX6_exchanged_9 : decode cX6_exchanged 9 = .ok (.if_icmp .le 13, 3) := by decide +kernel
theorem dX6_exchanged_12 : decode cX6_exchanged 12 = .ok (.new 77, 3) := by decide +kernel
theorem dX6_exchanged_15 : decode cX6_exchanged 15 = .ok (.dup, 1) := by decide +kernel
theorem dX6_exchanged_16 : decode cX6_exchanged 16 = .ok (.ldc 221, 2) := by decide +kernel
theorem dX6_exchanged_18 : decode cX6_exchanged 18 = .ok (.invokespecial 81, 3) := by decide +kernel
theorem dX6_exchanged_21 : decode cX6_exchanged 21 = .ok (.athrow, 1) := by decide +kernel
theorem dX6_exchanged_22 : decode cX6_exchanged 22 = .ok (.aload_n 0, 1) := by decide +kernel
theorem dX6_exchanged_23 : decode cX6_exchanged 23 = .ok (.invokevirtual 156, 3) := by decide +kernel
theorem dX6_exchanged_26 : decode cX6_exchanged 26 = .ok (.iconst 0, 1) := by decide +kernel
theorem dX6_exchanged_27 : decode cX6_exchanged 27 = .ok (.istore_n 2, 1) := by decide +kernel
theorem dX6_exchanged_28 : decode cX6_exchanged 28 = .ok (.iconst 0, 1) := by decide +kernel
theorem dX6_exchanged_29 : decode cX6_exchanged 29 = .ok (.istore_n 3, 1) := by decide +kernel
theorem dX6_exchanged_30 : decode cX6_exchanged 30 = .ok (.iload_n 3, 1) := by decide +kernel
theorem dX6_exchanged_31 : decode cX6_exchanged 31 = .ok (.aload_n 0, 1) := by decide +kernel
theorem dX6_exchanged_32 : decode cX6_exchanged 32 = .ok (.getfield 21, 3) := by decide +kernel
theorem dX6_exchanged_35 : decode cX6_exchanged 35 = .ok (.invokevirtual 60, 3) := by decide +kernel
theorem dX6_exchanged_38 : decode cX6_exchanged 38 = .ok (.if_icmp .ge 54, 3) := by decide +kernel
theorem dX6_exchanged_41 : decode cX6_exchanged 41 = .ok (.aload_n 0, 1) := by decide +kernel
theorem dX6_exchanged_42 : decode cX6_exchanged 42 = .ok (.getfield 21, 3) := by decide +kernel
theorem dX6_exchanged_45 : decode cX6_exchanged 45 = .ok (.iload_n 3, 1) := by decide +kernel
theorem dX6_exchanged_46 : decode cX6_exchanged 46 = .ok (.invokevirtual 66, 3) := by decide +kernel
theorem dX6_exchanged_49 : decode cX6_exchanged 49 = .ok (.iload_n 1, 1) := by decide +kernel
theorem dX6_exchanged_50 : decode cX6_exchanged 50 = .ok (.isub, 1) := by decide +kernel
theorem dX6_exchanged_51 : decode cX6_exchanged 51 = .ok (.aload_n 0, 1) := by decide +kernel
theorem dX6_exchanged_52 : decode cX6_exchanged 52 = .ok (.getfield 10, 3) := by decide +kernel
theorem dX6_exchanged_55 : decode cX6_exchanged 55 = .ok (.iload_n 3, 1) := by decide +kernel
theorem dX6_exchanged_56 : decode cX6_exchanged 56 = .ok (.invokevirtual 223, 3) := by decide +kernel
theorem dX6_exchanged_59 : decode cX6_exchanged 59 = .ok (.invokestatic 226, 3) := by decide +kernel
theorem dX6_exchanged_62 : decode cX6_exchanged 62 = .ok (.istore 4, 2) := by decide +kernel
theorem dX6_exchanged_64 : decode cX6_exchanged 64 = .ok (.aload_n 0, 1) := by decide +kernel
theorem dX6_exchanged_65 : decode cX6_exchanged 65 = .ok (.getfield 10, 3) := by decide +kernel
theorem dX6_exchanged_68 : decode cX6_exchanged 68 = .ok (.iload_n 3, 1) := by decide +kernel
theorem dX6_exchanged_69 : decode cX6_exchanged 69 = .ok (.invokevirtual 229, 3) := by decide +kernel
theorem dX6_exchanged_72 : decode cX6_exchanged 72 = .ok (.ifCond .eq 14, 3) := by decide +kernel
theorem dX6_exchanged_75 : decode cX6_exchanged 75 = .ok (.iload 4, 2) := by decide +kernel
theorem dX6_exchanged_77 : decode cX6_exchanged 77 = .ok (.invokestatic 232, 3) := by decide +kernel
theorem dX6_exchanged_80 : decode cX6_exchanged 80 = .ok (.ifCond .eq 6, 3) := by decide +kernel
theorem dX6_exchanged_83 : decode cX6_exchanged 83 = .ok (.iinc 2 1, 3) := by decide +kernel
theorem dX6_exchanged_86 : decode cX6_exchanged 86 = .ok (.iinc 3 1, 3) := by decide +kernel
theorem dX6_exchanged_89 : decode cX6_exchanged 89 = .ok (.goto (-59), 3) := by decide +kernel
theorem dX6_exchanged_92 : decode cX6_exchanged 92 = .ok (.iload_n 2, 1) := by decide +kernel
theorem dX6_exchanged_93 : decode cX6_exchanged 93 = .ok (.ireturn, 1) := by decide +kernel
theorem dX6_canon_0 : decode cX6_canon 0 = .ok (.iload_n 1, 1) := by decide +kernel
theorem dX6_canon_1 : decode cX6_canon 1 = .ok (.iconst 1, 1) := by decide +kernel
theorem dX6_canon_2 : decode cX6_canon 2 = .ok (.if_icmp .lt 9, 3) := by decide +kernel
theorem dX6_canon_5 : decode cX6_canon 5 = .ok (.iload_n 1, 1) := by decide +kernel
theorem dX6_canon_6 : decode cX6_canon 6 = .ok (.bipush 12, 2) := by decide +kernel
theorem dX6_canon_8 : decode cX6_canon 8 = .ok (.if_icmp .le 13, 3) := by decide +kernel
theorem dX6_canon_11 : decode cX6_canon 11 = .ok (.new 77, 3) := by decide +kernel
theorem dX6_canon_14 : decode cX6_canon 14 = .ok (.dup, 1) := by decide +kernel
theorem dX6_canon_15 : decode cX6_canon 15 = .ok (.ldc 237, 2) := by decide +kernel
theorem dX6_canon_17 : decode cX6_canon 17 = .ok (.invokespecial 81, 3) := by decide +kernel
theorem dX6_canon_20 : decode cX6_canon 20 = .ok (.athrow, 1) := by decide +kernel
theorem dX6_canon_21 : decode cX6_canon 21 = .ok (.iload_n 2, 1) := by decide +kernel
theorem dX6_canon_22 : decode cX6_canon 22 = .ok (.bipush (-7), 2) := by decide +kernel
theorem dX6_canon_24 : decode cX6_canon 24 = .ok (.if_icmp .lt 9, 3) := by decide +kernel
theorem dX6_canon_27 : decode cX6_canon 27 = .ok (.iload_n 2, 1) := by decide +kernel
theorem dX6_canon_28 : decode cX6_canon 28 = .ok (.bipush 7, 2) := by decide +kernel
theorem dX6_canon_30 : decode cX6_canon 30 = .ok (.if_icmp .le 13, 3) := by decide +kernel
theorem dX6_canon_33 : decode cX6_canon 33 = .ok (.new 77, 3) := by decide +kernel
theorem dX6_canon_36 : decode cX6_canon 36 = .ok (.dup, 1) := by decide +kernel
theorem dX6_canon_37 : decode cX6_canon 37 = .ok (.ldc 239, 2) := by decide +kernel
theorem dX6_canon_39 : decode cX6_canon 39 = .ok (.invokespecial 81, 3) := by decide +kernel
theorem dX6_canon_42 : decode cX6_canon 42 = .ok (.athrow, 1) := by decide +kernel
theorem dX6_canon_43 : decode cX6_canon 43 = .ok (.aload_n 0, 1) := by decide +kernel
theorem dX6_canon_44 : decode cX6_canon 44 = .ok (.getfield 21, 3) := by decide +kernel
theorem dX6_canon_47 : decode cX6_canon 47 = .ok (.invokevirtual 60, 3) := by decide +kernel
theorem dX6_canon_50 : decode cX6_canon 50 = .ok (.iload_n 1, 1) := by decide +kernel
theorem dX6_canon_51 : decode cX6_canon 51 = .ok (.if_icmp .gt 13, 3) := by decide +kernel
theorem dX6_canon_54 : decode cX6_canon 54 = .ok (.new 40, 3) := by decide +kernel
theorem dX6_canon_57 : decode cX6_canon 57 = .ok (.dup, 1) := by decide +kernel
theorem dX6_canon_58 : decode cX6_canon 58 = .ok (.ldc 241, 2) := by decide +kernel
theorem dX6_canon_60 : decode cX6_canon 60 = .ok (.invokespecial 44, 3) := by decide +kernel
theorem dX6_canon_63 : decode cX6_canon 63 = .ok (.athrow, 1) := by decide +kernel
theorem dX6_canon_64 : decode cX6_canon 64 = .ok (.aload_n 0, 1) := by decide +kernel
theorem dX6_canon_65 : decode cX6_canon 65 = .ok (.getfield 21, 3) := by decide +kernel
theorem dX6_canon_68 : decode cX6_canon 68 = .ok (.iload_n 1, 1) := by decide +kernel
theorem dX6_canon_69 : decode cX6_canon 69 = .ok (.iload_n 2, 1) := by decide +kernel
theorem dX6_canon_70 : decode cX6_canon 70 = .ok (.invokestatic 243, 3) := by decide +kernel
theorem dX6_canon_73 : decode cX6_canon 73 = .ok (.ireturn, 1) := by decide +kernel
theorem dX6_canons_0 : decode cX6_canons 0 = .ok (.aload_n 0, 1) := by decide +kernel
theorem dX6_canons_1 : decode cX6_canons 1 = .ok (.invokevirtual 247, 3) := by decide +kernel
theorem dX6_canons_4 : decode cX6_canons 4 = .ok (.aload_n 0, 1) := by decide +kernel
theorem dX6_canons_5 : decode cX6_canons 5 = .ok (.getfield 21, 3) := by decide +kernel
theorem dX6_canons_8 : decode cX6_canons 8 = .ok (.invokestatic 250, 3) := by decide +kernel
theorem dX6_canons_11 : decode cX6_canons 11 = .ok (.ireturn, 1) := by decide +kernel
theorem dX6_canonAt_0 : decode cX6_canonAt 0 = .ok (.aload_n 0, 1) := by decide +kernel
theorem dX6_canonAt_1 : decode cX6_canonAt 1 = .ok (.invokevirtual 247, 3) := by decide +kernel
theorem dX6_canonAt_4 : decode cX6_canonAt 4 = .ok (.aload_n 0, 1) := by decide +kernel
theorem dX6_canonAt_5 : decode cX6_canonAt 5 = .ok (.getfield 21, 3) := by decide +kernel
theorem dX6_canonAt_8 : decode cX6_canonAt 8 = .ok (.iload_n 1, 1) := by decide +kernel
theorem dX6_canonAt_9 : decode cX6_canonAt 9 = .ok (.invokestatic 254, 3) := by decide +kernel
theorem dX6_canonAt_12 : decode cX6_canonAt 12 = .ok (.istore_n 2, 1) := by decide +kernel
theorem dX6_canonAt_13 : decode cX6_canonAt 13 = .ok (.iload_n 2, 1) := by decide +kernel
theorem dX6_canonAt_14 : decode cX6_canonAt 14 = .ok (.ifCond .ge 14, 3) := by decide +kernel
theorem dX6_canonAt_17 : decode cX6_canonAt 17 = .ok (.new 202, 3) := by decide +kernel
theorem dX6_canonAt_20 : decode cX6_canonAt 20 = .ok (.dup, 1) := by decide +kernel
theorem dX6_canonAt_21 : decode cX6_canonAt 21 = .ok (.ldc_w 258, 3) := by decide +kernel
theorem dX6_canonAt_24 : decode cX6_canonAt 24 = .ok (.invokespecial 206, 3) := by decide +kernel
theorem dX6_canonAt_27 : decode cX6_canonAt 27 = .ok (.athrow, 1) := by decide +kernel
theorem dX6_canonAt_28 : decode cX6_canonAt 28 = .ok (.iload_n 2, 1) := by decide +kernel
theorem dX6_canonAt_29 : decode cX6_canonAt 29 = .ok (.ireturn, 1) := by decide +kernel
theorem dX6_stepShare_0 : decode cX6_stepShare 0 = .ok (.aload_n 0, 1) := by decide +kernel
theorem dX6_stepShare_1 : decode cX6_stepShare 1 = .ok (.getfield 21, 3) := by decide +kernel
theorem dX6_stepShare_4 : decode cX6_stepShare 4 = .ok (.invokevirtual 60, 3) := by decide +kernel
theorem dX6_stepShare_7 : decode cX6_stepShare 7 = .ok (.iconst 1, 1) := by decide +kernel
theorem dX6_stepShare_8 : decode cX6_stepShare 8 = .ok (.isub, 1) := by decide +kernel
theorem dX6_stepShare_9 : decode cX6_stepShare 9 = .ok (.istore_n 1, 1) := by decide +kernel
theorem dX6_stepShare_10 : decode cX6_stepShare 10 = .ok (.iload_n 1, 1) := by decide +kernel
theorem dX6_stepShare_11 : decode cX6_stepShare 11 = .ok (.iconst 1, 1) := by decide +kernel
theorem dX6_stepShare_12 : decode cX6_stepShare 12 = .ok (.if_icmp .ge 14, 3) := by decide +kernel
theorem dX6_stepShare_15 : decode cX6_stepShare 15 = .ok (.new 260, 3) := by decide +kernel
theorem dX6_stepShare_18 : decode cX6_stepShare 18 = .ok (.dup, 1) := by decide +kernel
theorem dX6_stepShare_19 : decode cX6_stepShare 19 = .ok (.ldc_w 262, 3) := by decide +kernel
theorem dX6_stepShare_22 : decode cX6_stepShare 22 = .ok (.invokespecial 264, 3) := by decide +kernel
theorem dX6_stepShare_25 : decode cX6_stepShare 25 = .ok (.athrow, 1) := by decide +kernel
theorem dX6_stepShare_26 : decode cX6_stepShare 26 = .ok (.iconst 0, 1) := by decide +kernel
theorem dX6_stepShare_27 : decode cX6_stepShare 27 = .ok (.istore_n 2, 1) := by decide +kernel
theorem dX6_stepShare_28 : decode cX6_stepShare 28 = .ok (.iconst 1, 1) := by decide +kernel
theorem dX6_stepShare_29 : decode cX6_stepShare 29 = .ok (.istore_n 3, 1) := by decide +kernel
theorem dX6_stepShare_30 : decode cX6_stepShare 30 = .ok (.iload_n 3, 1) := by decide +kernel
theorem dX6_stepShare_31 : decode cX6_stepShare 31 = .ok (.iload_n 1, 1) := by decide +kernel
theorem dX6_stepShare_32 : decode cX6_stepShare 32 = .ok (.if_icmp .gt 27, 3) := by decide +kernel
theorem dX6_stepShare_35 : decode cX6_stepShare 35 = .ok (.aload_n 0, 1) := by decide +kernel
theorem dX6_stepShare_36 : decode cX6_stepShare 36 = .ok (.getfield 21, 3) := by decide +kernel
theorem dX6_stepShare_39 : decode cX6_stepShare 39 = .ok (.iload_n 3, 1) := by decide +kernel
theorem dX6_stepShare_40 : decode cX6_stepShare 40 = .ok (.invokevirtual 265, 3) := by decide +kernel
theorem dX6_stepShare_43 : decode cX6_stepShare 43 = .ok (.invokestatic 268, 3) := by decide +kernel
theorem dX6_stepShare_46 : decode cX6_stepShare 46 = .ok (.iconst 1, 1) := by decide +kernel
theorem dX6_stepShare_47 : decode cX6_stepShare 47 = .ok (.if_icmp .ne 6, 3) := by decide +kernel
theorem dX6_stepShare_50 : decode cX6_stepShare 50 = .ok (.iinc 2 1, 3) := by decide +kernel
theorem dX6_stepShare_53 : decode cX6_stepShare 53 = .ok (.iinc 3 1, 3) := by decide +kernel
theorem dX6_stepShare_56 : decode cX6_stepShare 56 = .ok (.goto (-26), 3) := by decide +kernel
theorem dX6_stepShare_59 : decode cX6_stepShare 59 = .ok (.iload_n 2, 1) := by decide +kernel
theorem dX6_stepShare_60 : decode cX6_stepShare 60 = .ok (.i2f, 1) := by decide +kernel
theorem dX6_stepShare_61 : decode cX6_stepShare 61 = .ok (.iload_n 1, 1) := by decide +kernel
theorem dX6_stepShare_62 : decode cX6_stepShare 62 = .ok (.i2f, 1) := by decide +kernel
theorem dX6_stepShare_63 : decode cX6_stepShare 63 = .ok (.fdiv, 1) := by decide +kernel
theorem dX6_stepShare_64 : decode cX6_stepShare 64 = .ok (.freturn, 1) := by decide +kernel
theorem dX6_meanPitch_0 : decode cX6_meanPitch 0 = .ok (.aload_n 0, 1) := by decide +kernel
theorem dX6_meanPitch_1 : decode cX6_meanPitch 1 = .ok (.getfield 21, 3) := by decide +kernel
theorem dX6_meanPitch_4 : decode cX6_meanPitch 4 = .ok (.invokevirtual 60, 3) := by decide +kernel
theorem dX6_meanPitch_7 : decode cX6_meanPitch 7 = .ok (.istore_n 1, 1) := by decide +kernel
theorem dX6_meanPitch_8 : decode cX6_meanPitch 8 = .ok (.iload_n 1, 1) := by decide +kernel
theorem dX6_meanPitch_9 : decode cX6_meanPitch 9 = .ok (.iconst 1, 1) := by decide +kernel
theorem dX6_meanPitch_10 : decode cX6_meanPitch 10 = .ok (.if_icmp .ge 14, 3) := by decide +kernel
theorem dX6_meanPitch_13 : decode cX6_meanPitch 13 = .ok (.new 260, 3) := by decide +kernel
theorem dX6_meanPitch_16 : decode cX6_meanPitch 16 = .ok (.dup, 1) := by decide +kernel
theorem dX6_meanPitch_17 : decode cX6_meanPitch 17 = .ok (.ldc_w 273, 3) := by decide +kernel
theorem dX6_meanPitch_20 : decode cX6_meanPitch 20 = .ok (.invokespecial 264, 3) := by decide +kernel
theorem dX6_meanPitch_23 : decode cX6_meanPitch 23 = .ok (.athrow, 1) := by decide +kernel
theorem dX6_meanPitch_24 : decode cX6_meanPitch 24 = .ok (.iconst 0, 1) := by decide +kernel
theorem dX6_meanPitch_25 : decode cX6_meanPitch 25 = .ok (.istore_n 2, 1) := by decide +kernel
theorem dX6_meanPitch_26 : decode cX6_meanPitch 26 = .ok (.iconst 0, 1) := by decide +kernel
theorem dX6_meanPitch_27 : decode cX6_meanPitch 27 = .ok (.istore_n 3, 1) := by decide +kernel
theorem dX6_meanPitch_28 : decode cX6_meanPitch 28 = .ok (.iload_n 3, 1) := by decide +kernel
theorem dX6_meanPitch_29 : decode cX6_meanPitch 29 = .ok (.iload_n 1, 1) := by decide +kernel
theorem dX6_meanPitch_30 : decode cX6_meanPitch 30 = .ok (.if_icmp .ge 20, 3) := by decide +kernel
theorem dX6_meanPitch_33 : decode cX6_meanPitch 33 = .ok (.iload_n 2, 1) := by decide +kernel
theorem dX6_meanPitch_34 : decode cX6_meanPitch 34 = .ok (.aload_n 0, 1) := by decide +kernel
theorem dX6_meanPitch_35 : decode cX6_meanPitch 35 = .ok (.getfield 21, 3) := by decide +kernel
theorem dX6_meanPitch_38 : decode cX6_meanPitch 38 = .ok (.iload_n 3, 1) := by decide +kernel
theorem dX6_meanPitch_39 : decode cX6_meanPitch 39 = .ok (.invokevirtual 101, 3) := by decide +kernel
theorem dX6_meanPitch_42 : decode cX6_meanPitch 42 = .ok (.iadd, 1) := by decide +kernel
theorem dX6_meanPitch_43 : decode cX6_meanPitch 43 = .ok (.istore_n 2, 1) := by decide +kernel
theorem dX6_meanPitch_44 : decode cX6_meanPitch 44 = .ok (.iinc 3 1, 3) := by decide +kernel
theorem dX6_meanPitch_47 : decode cX6_meanPitch 47 = .ok (.goto (-19), 3) := by decide +kernel
theorem dX6_meanPitch_50 : decode cX6_meanPitch 50 = .ok (.iload_n 2, 1) := by decide +kernel
theorem dX6_meanPitch_51 : decode cX6_meanPitch 51 = .ok (.i2d, 1) := by decide +kernel
theorem dX6_meanPitch_52 : decode cX6_meanPitch 52 = .ok (.iload_n 1, 1) := by decide +kernel
theorem dX6_meanPitch_53 : decode cX6_meanPitch 53 = .ok (.i2d, 1) := by decide +kernel
theorem dX6_meanPitch_54 : decode cX6_meanPitch 54 = .ok (.ddiv, 1) := by decide +kernel
theorem dX6_meanPitch_55 : decode cX6_meanPitch 55 = .ok (.dreturn, 1) := by decide +kernel
theorem dX6_isConsistent_0 : decode cX6_isConsistent 0 = .ok (.aload_n 0, 1) := by decide +kernel
theorem dX6_isConsistent_1 : decode cX6_isConsistent 1 = .ok (.invokevirtual 275, 3) := by decide +kernel
theorem dX6_isConsistent_4 : decode cX6_isConsistent 4 = .ok (.ifCond .eq 24, 3) := by decide +kernel
theorem dX6_isConsistent_7 : decode cX6_isConsistent 7 = .ok (.aload_n 0, 1) := by decide +kernel
theorem dX6_isConsistent_8 : decode cX6_isConsistent 8 = .ok (.invokevirtual 278, 3) := by decide +kernel
theorem dX6_isConsistent_11 : decode cX6_isConsistent 11 = .ok (.ifCond .eq 13, 3) := by decide +kernel
theorem dX6_isConsistent_14 : decode cX6_isConsistent 14 = .ok (.aload_n 0, 1) := by decide +kernel
theorem dX6_isConsistent_15 : decode cX6_isConsistent 15 = .ok (.invokevirtual 181, 3) := by decide +kernel
theorem dX6_isConsistent_18 : decode cX6_isConsistent 18 = .ok (.invokevirtual 281, 3) := by decide +kernel
theorem dX6_isConsistent_21 : decode cX6_isConsistent 21 = .ok (.ifCond .eq 7, 3) := by decide +kernel
theorem dX6_isConsistent_24 : decode cX6_isConsistent 24 = .ok (.iconst 1, 1) := by decide +kernel
theorem dX6_isConsistent_25 : decode cX6_isConsistent 25 = .ok (.goto 4, 3) := by decide +kernel
theorem dX6_isConsistent_28 : decode cX6_isConsistent 28 = .ok (.iconst 0, 1) := by decide +kernel
theorem dX6_isConsistent_29 : decode cX6_isConsistent 29 = .ok (.ireturn, 1) := by decide +kernel
theorem dX6_costIsSumOfFaults_0 : decode cX6_costIsSumOfFaults 0 = .ok (.aload_n 0, 1) := by decide +kernel
theorem dX6_costIsSumOfFaults_1 : decode cX6_costIsSumOfFaults 1 = .ok (.getfield 28, 3) := by decide +kernel
theorem dX6_costIsSumOfFaults_4 : decode cX6_costIsSumOfFaults 4 = .ok (.iconst 1, 1) := by decide +kernel
theorem dX6_costIsSumOfFaults_5 : decode cX6_costIsSumOfFaults 5 = .ok (.invokevirtual 130, 3) := by decide +kernel
theorem dX6_costIsSumOfFaults_8 : decode cX6_costIsSumOfFaults 8 = .ok (.istore_n 1, 1) := by decide +kernel
theorem dX6_costIsSumOfFaults_9 : decode cX6_costIsSumOfFaults 9 = .ok (.iconst 0, 1) := by decide +kernel
theorem dX6_costIsSumOfFaults_10 : decode cX6_costIsSumOfFaults 10 = .ok (.istore_n 2, 1) := by decide +kernel
theorem dX6_costIsSumOfFaults_11 : decode cX6_costIsSumOfFaults 11 = .ok (.iconst 0, 1) := by decide +kernel
theorem dX6_costIsSumOfFaults_12 : decode cX6_costIsSumOfFaults 12 = .ok (.istore_n 3, 1) := by decide +kernel
theorem dX6_costIsSumOfFaults_13 : decode cX6_costIsSumOfFaults 13 = .ok (.iload_n 3, 1) := by decide +kernel
theorem dX6_costIsSumOfFaults_14 : decode cX6_costIsSumOfFaults 14 = .ok (.aload_n 0, 1) := by decide +kernel
theorem dX6_costIsSumOfFaults_15 : decode cX6_costIsSumOfFaults 15 = .ok (.getfield 21, 3) := by decide +kernel
theorem dX6_costIsSumOfFaults_18 : decode cX6_costIsSumOfFaults 18 = .ok (.invokevirtual 60, 3) := by decide +kernel
theorem dX6_costIsSumOfFaults_21 : decode cX6_costIsSumOfFaults 21 = .ok (.if_icmp .ge 61, 3) := by decide +kernel
theorem dX6_costIsSumOfFaults_24 : decode cX6_costIsSumOfFaults 24 = .ok (.aload_n 0, 1) := by decide +kernel
theorem dX6_costIsSumOfFaults_25 : decode cX6_costIsSumOfFaults 25 = .ok (.getfield 21, 3) := by decide +kernel
theorem dX6_costIsSumOfFaults_28 : decode cX6_costIsSumOfFaults 28 = .ok (.iload_n 3, 1) := by decide +kernel
theorem dX6_costIsSumOfFaults_29 : decode cX6_costIsSumOfFaults 29 = .ok (.invokevirtual 133, 3) := by decide +kernel
theorem dX6_costIsSumOfFaults_32 : decode cX6_costIsSumOfFaults 32 = .ok (.iload_n 1, 1) := by decide +kernel
theorem dX6_costIsSumOfFaults_33 : decode cX6_costIsSumOfFaults 33 = .ok (.iand, 1) := by decide +kernel
theorem dX6_costIsSumOfFaults_34 : decode cX6_costIsSumOfFaults 34 = .ok (.istore 4, 2) := by decide +kernel
theorem dX6_costIsSumOfFaults_36 : decode cX6_costIsSumOfFaults 36 = .ok (.iload 4, 2) := by decide +kernel
theorem dX6_costIsSumOfFaults_38 : decode cX6_costIsSumOfFaults 38 = .ok (.invokestatic 136, 3) := by decide +kernel
theorem dX6_costIsSumOfFaults_41 : decode cX6_costIsSumOfFaults 41 = .ok (.istore 5, 2) := by decide +kernel
theorem dX6_costIsSumOfFaults_43 : decode cX6_costIsSumOfFaults 43 = .ok (.iconst 0, 1) := by decide +kernel
theorem dX6_costIsSumOfFaults_44 : decode cX6_costIsSumOfFaults 44 = .ok (.istore 6, 2) := by decide +kernel
theorem dX6_costIsSumOfFaults_46 : decode cX6_costIsSumOfFaults 46 = .ok (.iload 6, 2) := by decide +kernel
theorem dX6_costIsSumOfFaults_48 : decode cX6_costIsSumOfFaults 48 = .ok (.iload 5, 2) := by decide +kernel
theorem dX6_costIsSumOfFaults_50 : decode cX6_costIsSumOfFaults 50 = .ok (.if_icmp .ge 26, 3) := by decide +kernel
theorem dX6_costIsSumOfFaults_53 : decode cX6_costIsSumOfFaults 53 = .ok (.iload_n 2, 1) := by decide +kernel
theorem dX6_costIsSumOfFaults_54 : decode cX6_costIsSumOfFaults 54 = .ok (.aload_n 0, 1) := by decide +kernel
theorem dX6_costIsSumOfFaults_55 : decode cX6_costIsSumOfFaults 55 = .ok (.getfield 28, 3) := by decide +kernel
theorem dX6_costIsSumOfFaults_58 : decode cX6_costIsSumOfFaults 58 = .ok (.iload 4, 2) := by decide +kernel
theorem dX6_costIsSumOfFaults_60 : decode cX6_costIsSumOfFaults 60 = .ok (.iload 6, 2) := by decide +kernel
theorem dX6_costIsSumOfFaults_62 : decode cX6_costIsSumOfFaults 62 = .ok (.invokestatic 207, 3) := by decide +kernel
theorem dX6_costIsSumOfFaults_65 : decode cX6_costIsSumOfFaults 65 = .ok (.invokevirtual 119, 3) := by decide +kernel
theorem dX6_costIsSumOfFaults_68 : decode cX6_costIsSumOfFaults 68 = .ok (.iadd, 1) := by decide +kernel
theorem dX6_costIsSumOfFaults_69 : decode cX6_costIsSumOfFaults 69 = .ok (.istore_n 2, 1) := by decide +kernel
theorem dX6_costIsSumOfFaults_70 : decode cX6_costIsSumOfFaults 70 = .ok (.iinc 6 1, 3) := by decide +kernel
theorem dX6_costIsSumOfFaults_73 : decode cX6_costIsSumOfFaults 73 = .ok (.goto (-27), 3) := by decide +kernel
theorem dX6_costIsSumOfFaults_76 : decode cX6_costIsSumOfFaults 76 = .ok (.iinc 3 1, 3) := by decide +kernel
theorem dX6_costIsSumOfFaults_79 : decode cX6_costIsSumOfFaults 79 = .ok (.goto (-66), 3) := by decide +kernel
theorem dX6_costIsSumOfFaults_82 : decode cX6_costIsSumOfFaults 82 = .ok (.iload_n 2, 1) := by decide +kernel
theorem dX6_costIsSumOfFaults_83 : decode cX6_costIsSumOfFaults 83 = .ok (.aload_n 0, 1) := by decide +kernel
theorem dX6_costIsSumOfFaults_84 : decode cX6_costIsSumOfFaults 84 = .ok (.getfield 21, 3) := by decide +kernel
theorem dX6_costIsSumOfFaults_87 : decode cX6_costIsSumOfFaults 87 = .ok (.aload_n 0, 1) := by decide +kernel
theorem dX6_costIsSumOfFaults_88 : decode cX6_costIsSumOfFaults 88 = .ok (.getfield 28, 3) := by decide +kernel
theorem dX6_costIsSumOfFaults_91 : decode cX6_costIsSumOfFaults 91 = .ok (.iconst 0, 1) := by decide +kernel
theorem dX6_costIsSumOfFaults_92 : decode cX6_costIsSumOfFaults 92 = .ok (.aload_n 0, 1) := by decide +kernel
theorem dX6_costIsSumOfFaults_93 : decode cX6_costIsSumOfFaults 93 = .ok (.getfield 21, 3) := by decide +kernel
theorem dX6_costIsSumOfFaults_96 : decode cX6_costIsSumOfFaults 96 = .ok (.invokevirtual 60, 3) := by decide +kernel
theorem dX6_costIsSumOfFaults_99 : decode cX6_costIsSumOfFaults 99 = .ok (.iconst 1, 1) := by decide +kernel
theorem dX6_costIsSumOfFaults_100 : decode cX6_costIsSumOfFaults 100 = .ok (.isub, 1) := by decide +kernel
theorem dX6_costIsSumOfFaults_101 : decode cX6_costIsSumOfFaults 101 = .ok (.invokevirtual 145, 3) := by decide +kernel
theorem dX6_costIsSumOfFaults_104 : decode cX6_costIsSumOfFaults 104 = .ok (.if_icmp .ne 7, 3) := by decide +kernel
theorem dX6_costIsSumOfFaults_107 : decode cX6_costIsSumOfFaults 107 = .ok (.iconst 1, 1) := by decide +kernel
theorem dX6_costIsSumOfFaults_108 : decode cX6_costIsSumOfFaults 108 = .ok (.goto 4, 3) := by decide +kernel
theorem dX6_costIsSumOfFaults_111 : decode cX6_costIsSumOfFaults 111 = .ok (.iconst 0, 1) := by decide +kernel
theorem dX6_costIsSumOfFaults_112 : decode cX6_costIsSumOfFaults 112 = .ok (.ireturn, 1) := by decide +kernel
theorem dX6_canTryAll_0 : decode cX6_canTryAll 0 = .ok (.aload_n 0, 1) := by decide +kernel
theorem dX6_canTryAll_1 : decode cX6_canTryAll 1 = .ok (.getfield 10, 3) := by decide +kernel
theorem dX6_canTryAll_4 : decode cX6_canTryAll 4 = .ok (.invokevirtual 82, 3) := by decide +kernel
theorem dX6_canTryAll_7 : decode cX6_canTryAll 7 = .ok (.iconst 1, 1) := by decide +kernel
theorem dX6_canTryAll_8 : decode cX6_canTryAll 8 = .ok (.if_icmp .ne 41, 3) := by decide +kernel
theorem dX6_canTryAll_11 : decode cX6_canTryAll 11 = .ok (.aload_n 0, 1) := by decide +kernel
theorem dX6_canTryAll_12 : decode cX6_canTryAll 12 = .ok (.getfield 10, 3) := by decide +kernel
theorem dX6_canTryAll_15 : decode cX6_canTryAll 15 = .ok (.invokevirtual 36, 3) := by decide +kernel
theorem dX6_canTryAll_18 : decode cX6_canTryAll 18 = .ok (.iconst 2, 1) := by decide +kernel
theorem dX6_canTryAll_19 : decode cX6_canTryAll 19 = .ok (.if_icmp .lt 30, 3) := by decide +kernel
theorem dX6_canTryAll_22 : decode cX6_canTryAll 22 = .ok (.aload_n 0, 1) := by decide +kernel
theorem dX6_canTryAll_23 : decode cX6_canTryAll 23 = .ok (.getfield 10, 3) := by decide +kernel
theorem dX6_canTryAll_26 : decode cX6_canTryAll 26 = .ok (.invokevirtual 36, 3) := by decide +kernel
theorem dX6_canTryAll_29 : decode cX6_canTryAll 29 = .ok (.iconst 4, 1) := by decide +kernel
theorem dX6_canTryAll_30 : decode cX6_canTryAll 30 = .ok (.if_icmp .gt 19, 3) := by decide +kernel
theorem dX6_canTryAll_33 : decode cX6_canTryAll 33 = .ok (.aload_n 0, 1) := by decide +kernel
theorem dX6_canTryAll_34 : decode cX6_canTryAll 34 = .ok (.getfield 10, 3) := by decide +kernel
theorem dX6_canTryAll_37 : decode cX6_canTryAll 37 = .ok (.invokevirtual 175, 3) := by decide +kernel
theorem dX6_canTryAll_40 : decode cX6_canTryAll 40 = .ok (.bipush 8, 2) := by decide +kernel
theorem dX6_canTryAll_42 : decode cX6_canTryAll 42 = .ok (.if_icmp .gt 7, 3) := by decide +kernel
theorem dX6_canTryAll_45 : decode cX6_canTryAll 45 = .ok (.iconst 1, 1) := by decide +kernel
theorem dX6_canTryAll_46 : decode cX6_canTryAll 46 = .ok (.goto 4, 3) := by decide +kernel
theorem dX6_canTryAll_49 : decode cX6_canTryAll 49 = .ok (.iconst 0, 1) := by decide +kernel
theorem dX6_canTryAll_50 : decode cX6_canTryAll 50 = .ok (.ireturn, 1) := by decide +kernel
theorem dX6_requireNote_0 : decode cX6_requireNote 0 = .ok (.iload_n 1, 1) := by decide +kernel
theorem dX6_requireNote_1 : decode cX6_requireNote 1 = .ok (.invokestatic 284, 3) := by decide +kernel
theorem dX6_requireNote_4 : decode cX6_requireNote 4 = .ok (.ifCond .ne 14, 3) := by decide +kernel
theorem dX6_requireNote_7 : decode cX6_requireNote 7 = .ok (.new 77, 3) := by decide +kernel
theorem dX6_requireNote_10 : decode cX6_requireNote 10 = .ok (.dup, 1) := by decide +kernel
theorem dX6_requireNote_11 : decode cX6_requireNote 11 = .ok (.ldc_w 287, 3) := by decide +kernel
theorem dX6_requireNote_14 : decode cX6_requireNote 14 = .ok (.invokespecial 81, 3) := by decide +kernel
theorem dX6_requireNote_17 : decode cX6_requireNote 17 = .ok (.athrow, 1) := by decide +kernel
theorem dX6_requireNote_18 : decode cX6_requireNote 18 = .ok (.return_, 1) := by decide +kernel
theorem dX6_requireIndex_0 : decode cX6_requireIndex 0 = .ok (.aload_n 0, 1) := by decide +kernel
theorem dX6_requireIndex_1 : decode cX6_requireIndex 1 = .ok (.getfield 21, 3) := by decide +kernel
theorem dX6_requireIndex_4 : decode cX6_requireIndex 4 = .ok (.iload_n 1, 1) := by decide +kernel
theorem dX6_requireIndex_5 : decode cX6_requireIndex 5 = .ok (.invokevirtual 289, 3) := by decide +kernel
theorem dX6_requireIndex_8 : decode cX6_requireIndex 8 = .ok (.ifCond .ne 14, 3) := by decide +kernel
theorem dX6_requireIndex_11 : decode cX6_requireIndex 11 = .ok (.new 202, 3) := by decide +kernel
theorem dX6_requireIndex_14 : decode cX6_requireIndex 14 = .ok (.dup, 1) := by decide +kernel
theorem dX6_requireIndex_15 : decode cX6_requireIndex 15 = .ok (.ldc_w 292, 3) := by decide +kernel
theorem dX6_requireIndex_18 : decode cX6_requireIndex 18 = .ok (.invokespecial 206, 3) := by decide +kernel
theorem dX6_requireIndex_21 : decode cX6_requireIndex 21 = .ok (.athrow, 1) := by decide +kernel
theorem dX6_requireIndex_22 : decode cX6_requireIndex 22 = .ok (.return_, 1) := by decide +kernel
theorem dX6_requiredLaw_0 : decode cX6_requiredLaw 0 = .ok (.ldc_w 294, 3) := by decide +kernel
theorem dX6_requiredLaw_3 : decode cX6_requiredLaw 3 = .ok (.iload_n 1, 1) := by decide +kernel
theorem dX6_requiredLaw_4 : decode cX6_requiredLaw 4 = .ok (.invokevirtual 296, 3) := by decide +kernel
theorem dX6_requiredLaw_7 : decode cX6_requiredLaw 7 = .ok (.istore_n 2, 1) := by decide +kernel
theorem dX6_requiredLaw_8 : decode cX6_requiredLaw 8 = .ok (.iload_n 2, 1) := by decide +kernel
theorem dX6_requiredLaw_9 : decode cX6_requiredLaw 9 = .ok (.ifCond .ge 13, 3) := by decide +kernel
theorem dX6_requiredLaw_12 : decode cX6_requiredLaw 12 = .ok (.new 77, 3) := by decide +kernel
theorem dX6_requiredLaw_15 : decode cX6_requiredLaw 15 = .ok (.dup, 1) := by decide +kernel
theorem dX6_requiredLaw_16 : decode cX6_requiredLaw 16 = .ok (.ldc 204, 2) := by decide +kernel
theorem dX6_requiredLaw_18 : decode cX6_requiredLaw 18 = .ok (.invokespecial 81, 3) := by decide +kernel
theorem dX6_requiredLaw_21 : decode cX6_requiredLaw 21 = .ok (.athrow, 1) := by decide +kernel
theorem dX6_requiredLaw_22 : decode cX6_requiredLaw 22 = .ok (.iload_n 2, 1) := by decide +kernel
theorem dX6_requiredLaw_23 : decode cX6_requiredLaw 23 = .ok (.ireturn, 1) := by decide +kernel
theorem dX6_requiredFault_0 : decode cX6_requiredFault 0 = .ok (.aload_n 0, 1) := by decide +kernel
theorem dX6_requiredFault_1 : decode cX6_requiredFault 1 = .ok (.getfield 21, 3) := by decide +kernel
theorem dX6_requiredFault_4 : decode cX6_requiredFault 4 = .ok (.iload_n 1, 1) := by decide +kernel
theorem dX6_requiredFault_5 : decode cX6_requiredFault 5 = .ok (.aload_n 0, 1) := by decide +kernel
theorem dX6_requiredFault_6 : decode cX6_requiredFault 6 = .ok (.getfield 28, 3) := by decide +kernel
theorem dX6_requiredFault_9 : decode cX6_requiredFault 9 = .ok (.iconst 1, 1) := by decide +kernel
theorem dX6_requiredFault_10 : decode cX6_requiredFault 10 = .ok (.invokevirtual 130, 3) := by decide +kernel
theorem dX6_requiredFault_13 : decode cX6_requiredFault 13 = .ok (.invokevirtual 301, 3) := by decide +kernel
theorem dX6_requiredFault_16 : decode cX6_requiredFault 16 = .ok (.istore_n 2, 1) := by decide +kernel
theorem dX6_requiredFault_17 : decode cX6_requiredFault 17 = .ok (.iload_n 2, 1) := by decide +kernel
theorem dX6_requiredFault_18 : decode cX6_requiredFault 18 = .ok (.ifCond .ge 14, 3) := by decide +kernel
theorem dX6_requiredFault_21 : decode cX6_requiredFault 21 = .ok (.new 202, 3) := by decide +kernel
theorem dX6_requiredFault_24 : decode cX6_requiredFault 24 = .ok (.dup, 1) := by decide +kernel
theorem dX6_requiredFault_25 : decode cX6_requiredFault 25 = .ok (.ldc_w 304, 3) := by decide +kernel
theorem dX6_requiredFault_28 : decode cX6_requiredFault 28 = .ok (.invokespecial 206, 3) := by decide +kernel
theorem dX6_requiredFault_31 : decode cX6_requiredFault 31 = .ok (.athrow, 1) := by decide +kernel
theorem dX6_requiredFault_32 : decode cX6_requiredFault 32 = .ok (.iload_n 2, 1) := by decide +kernel
theorem dX6_requiredFault_33 : decode cX6_requiredFault 33 = .ok (.ireturn, 1) := by decide +kernel
theorem dX6_requireWhole_0 : decode cX6_requireWhole 0 = .ok (.aload_n 0, 1) := by decide +kernel
theorem dX6_requireWhole_1 : decode cX6_requireWhole 1 = .ok (.getfield 21, 3) := by decide +kernel
theorem dX6_requireWhole_4 : decode cX6_requireWhole 4 = .ok (.invokevirtual 149, 3) := by decide +kernel
theorem dX6_requireWhole_7 : decode cX6_requireWhole 7 = .ok (.ifCond .ne 14, 3) := by decide +kernel
theorem dX6_requireWhole_10 : decode cX6_requireWhole 10 = .ok (.new 40, 3) := by decide +kernel
theorem dX6_requireWhole_13 : decode cX6_requireWhole 13 = .ok (.dup, 1) := by decide +kernel
theorem dX6_requireWhole_14 : decode cX6_requireWhole 14 = .ok (.ldc_w 306, 3) := by decide +kernel
theorem dX6_requireWhole_17 : decode cX6_requireWhole 17 = .ok (.invokespecial 44, 3) := by decide +kernel
theorem dX6_requireWhole_20 : decode cX6_requireWhole 20 = .ok (.athrow, 1) := by decide +kernel
theorem dX6_requireWhole_21 : decode cX6_requireWhole 21 = .ok (.return_, 1) := by decide +kernel
theorem dX6_requireTwoNotes_0 : decode cX6_requireTwoNotes 0 = .ok (.aload_n 0, 1) := by decide +kernel
theorem dX6_requireTwoNotes_1 : decode cX6_requireTwoNotes 1 = .ok (.getfield 21, 3) := by decide +kernel
theorem dX6_requireTwoNotes_4 : decode cX6_requireTwoNotes 4 = .ok (.invokevirtual 60, 3) := by decide +kernel
theorem dX6_requireTwoNotes_7 : decode cX6_requireTwoNotes 7 = .ok (.iconst 2, 1) := by decide +kernel
theorem dX6_requireTwoNotes_8 : decode cX6_requireTwoNotes 8 = .ok (.if_icmp .ge 13, 3) := by decide +kernel
theorem dX6_requireTwoNotes_11 : decode cX6_requireTwoNotes 11 = .ok (.new 40, 3) := by decide +kernel
theorem dX6_requireTwoNotes_14 : decode cX6_requireTwoNotes 14 = .ok (.dup, 1) := by decide +kernel
theorem dX6_requireTwoNotes_15 : decode cX6_requireTwoNotes 15 = .ok (.ldc 241, 2) := by decide +kernel
theorem dX6_requireTwoNotes_17 : decode cX6_requireTwoNotes 17 = .ok (.invokespecial 44, 3) := by decide +kernel
theorem dX6_requireTwoNotes_20 : decode cX6_requireTwoNotes 20 = .ok (.athrow, 1) := by decide +kernel
theorem dX6_requireTwoNotes_21 : decode cX6_requireTwoNotes 21 = .ok (.return_, 1) := by decide +kernel
theorem dX6_requireSearchable_0 : decode cX6_requireSearchable 0 = .ok (.aload_n 0, 1) := by decide +kernel
theorem dX6_requireSearchable_1 : decode cX6_requireSearchable 1 = .ok (.getfield 10, 3) := by decide +kernel
theorem dX6_requireSearchable_4 : decode cX6_requireSearchable 4 = .ok (.invokevirtual 36, 3) := by decide +kernel
theorem dX6_requireSearchable_7 : decode cX6_requireSearchable 7 = .ok (.iconst 2, 1) := by decide +kernel
theorem dX6_requireSearchable_8 : decode cX6_requireSearchable 8 = .ok (.if_icmp .ge 14, 3) := by decide +kernel
theorem dX6_requireSearchable_11 : decode cX6_requireSearchable 11 = .ok (.new 40, 3) := by decide +kernel
theorem dX6_requireSearchable_14 : decode cX6_requireSearchable 14 = .ok (.dup, 1) := by decide +kernel
theorem dX6_requireSearchable_15 : decode cX6_requireSearchable 15 = .ok (.ldc_w 308, 3) := by decide +kernel
theorem dX6_requireSearchable_18 : decode cX6_requireSearchable 18 = .ok (.invokespecial 44, 3) := by decide +kernel
theorem dX6_requireSearchable_21 : decode cX6_requireSearchable 21 = .ok (.athrow, 1) := by decide +kernel
theorem dX6_requireSearchable_22 : decode cX6_requireSearchable 22 = .ok (.aload_n 0, 1) := by decide +kernel
theorem dX6_requireSearchable_23 : decode cX6_requireSearchable 23 = .ok (.getfield 10, 3) := by decide +kernel
theorem dX6_requireSearchable_26 : decode cX6_requireSearchable 26 = .ok (.invokevirtual 82, 3) := by decide +kernel
theorem dX6_requireSearchable_29 : decode cX6_requireSearchable 29 = .ok (.iconst 4, 1) := by decide +kernel
theorem dX6_requireSearchable_30 : decode cX6_requireSearchable 30 = .ok (.if_icmp .ne 14, 3) := by decide +kernel
theorem dX6_requireSearchable_33 : decode cX6_requireSearchable 33 = .ok (.new 310, 3) := by decide +kernel
theorem dX6_requireSearchable_36 : decode cX6_requireSearchable 36 = .ok (.dup, 1) := by decide +kernel
theorem dX6_requireSearchable_37 : decode cX6_requireSearchable 37 = .ok (.ldc_w 312, 3) := by decide +kernel
theorem dX6_requireSearchable_40 : decode cX6_requireSearchable 40 = .ok (.invokespecial 314, 3) := by decide +kernel
theorem dX6_requireSearchable_43 : decode cX6_requireSearchable 43 = .ok (.athrow, 1) := by decide +kernel
theorem dX6_requireSearchable_44 : decode cX6_requireSearchable 44 = .ok (.return_, 1) := by decide +kernel
