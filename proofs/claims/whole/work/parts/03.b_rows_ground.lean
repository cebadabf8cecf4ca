theorem dX1_init_0 : decode cX1_init 0 = .ok (.aload_n 0, 1) := by decide +kernel
theorem dX1_init_1 : decode cX1_init 1 = .ok (.invokespecial 1, 3) := by decide +kernel
theorem dX1_init_4 : decode cX1_init 4 = .ok (.aload_n 0, 1) := by decide +kernel
theorem dX1_init_5 : decode cX1_init 5 = .ok (.bipush 14, 2) := by decide +kernel
theorem dX1_init_7 : decode cX1_init 7 = .ok (.newarray .int, 2) := by decide +kernel
theorem dX1_init_9 : decode cX1_init 9 = .ok (.putfield 9, 3) := by decide +kernel
theorem dX1_init_12 : decode cX1_init 12 = .ok (.aload_n 0, 1) := by decide +kernel
theorem dX1_init_13 : decode cX1_init 13 = .ok (.bipush 7, 2) := by decide +kernel
theorem dX1_init_15 : decode cX1_init 15 = .ok (.putfield 13, 3) := by decide +kernel
theorem dX1_init_18 : decode cX1_init 18 = .ok (.aload_n 0, 1) := by decide +kernel
theorem dX1_init_19 : decode cX1_init 19 = .ok (.bipush 16, 2) := by decide +kernel
theorem dX1_init_21 : decode cX1_init 21 = .ok (.putfield 17, 3) := by decide +kernel
theorem dX1_init_24 : decode cX1_init 24 = .ok (.return_, 1) := by decide +kernel
theorem dX1_size_0 : decode cX1_size 0 = .ok (.aload_n 0, 1) := by decide +kernel
theorem dX1_size_1 : decode cX1_size 1 = .ok (.getfield 20, 3) := by decide +kernel
theorem dX1_size_4 : decode cX1_size 4 = .ok (.ireturn, 1) := by decide +kernel
theorem dX1_append_0 : decode cX1_append 0 = .ok (.aload_n 0, 1) := by decide +kernel
theorem dX1_append_1 : decode cX1_append 1 = .ok (.getfield 20, 3) := by decide +kernel
theorem dX1_append_4 : decode cX1_append 4 = .ok (.aload_n 0, 1) := by decide +kernel
theorem dX1_append_5 : decode cX1_append 5 = .ok (.getfield 9, 3) := by decide +kernel
theorem dX1_append_8 : decode cX1_append 8 = .ok (.arraylength, 1) := by decide +kernel
theorem dX1_append_9 : decode cX1_append 9 = .ok (.if_icmp .ge 33, 3) := by decide +kernel
theorem dX1_append_12 : decode cX1_append 12 = .ok (.aload_n 0, 1) := by decide +kernel
theorem dX1_append_13 : decode cX1_append 13 = .ok (.getfield 9, 3) := by decide +kernel
theorem dX1_append_16 : decode cX1_append 16 = .ok (.aload_n 0, 1) := by decide +kernel
theorem dX1_append_17 : decode cX1_append 17 = .ok (.getfield 20, 3) := by decide +kernel
theorem dX1_append_20 : decode cX1_append 20 = .ok (.iload_n 1, 1) := by decide +kernel
theorem dX1_append_21 : decode cX1_append 21 = .ok (.iastore, 1) := by decide +kernel
theorem dX1_append_22 : decode cX1_append 22 = .ok (.aload_n 0, 1) := by decide +kernel
theorem dX1_append_23 : decode cX1_append 23 = .ok (.dup, 1) := by decide +kernel
theorem dX1_append_24 : decode cX1_append 24 = .ok (.getfield 20, 3) := by decide +kernel
theorem dX1_append_27 : decode cX1_append 27 = .ok (.iconst 1, 1) := by decide +kernel
theorem dX1_append_28 : decode cX1_append 28 = .ok (.iadd, 1) := by decide +kernel
theorem dX1_append_29 : decode cX1_append 29 = .ok (.putfield 20, 3) := by decide +kernel
theorem dX1_append_32 : decode cX1_append 32 = .ok (.aload_n 0, 1) := by decide +kernel
theorem dX1_append_33 : decode cX1_append 33 = .ok (.dup, 1) := by decide +kernel
theorem dX1_append_34 : decode cX1_append 34 = .ok (.getfield 23, 3) := by decide +kernel
theorem dX1_append_37 : decode cX1_append 37 = .ok (.iconst 1, 1) := by decide +kernel
theorem dX1_append_38 : decode cX1_append 38 = .ok (.iadd, 1) := by decide +kernel
theorem dX1_append_39 : decode cX1_append 39 = .ok (.putfield 23, 3) := by decide +kernel
theorem dX1_append_42 : decode cX1_append 42 = .ok (.return_, 1) := by decide +kernel
theorem dX1_empty_0 : decode cX1_empty 0 = .ok (.aload_n 0, 1) := by decide +kernel
theorem dX1_empty_1 : decode cX1_empty 1 = .ok (.iconst 0, 1) := by decide +kernel
theorem dX1_empty_2 : decode cX1_empty 2 = .ok (.putfield 20, 3) := by decide +kernel
theorem dX1_empty_5 : decode cX1_empty 5 = .ok (.aload_n 0, 1) := by decide +kernel
theorem dX1_empty_6 : decode cX1_empty 6 = .ok (.dup, 1) := by decide +kernel
theorem dX1_empty_7 : decode cX1_empty 7 = .ok (.getfield 23, 3) := by decide +kernel
theorem dX1_empty_10 : decode cX1_empty 10 = .ok (.iconst 1, 1) := by decide +kernel
theorem dX1_empty_11 : decode cX1_empty 11 = .ok (.iadd, 1) := by decide +kernel
theorem dX1_empty_12 : decode cX1_empty 12 = .ok (.putfield 23, 3) := by decide +kernel
theorem dX1_empty_15 : decode cX1_empty 15 = .ok (.return_, 1) := by decide +kernel
theorem dX1_perGiven_0 : decode cX1_perGiven 0 = .ok (.iconst 1, 1) := by decide +kernel
theorem dX1_perGiven_1 : decode cX1_perGiven 1 = .ok (.aload_n 0, 1) := by decide +kernel
theorem dX1_perGiven_2 : decode cX1_perGiven 2 = .ok (.getfield 26, 3) := by decide +kernel
theorem dX1_perGiven_5 : decode cX1_perGiven 5 = .ok (.ishl, 1) := by decide +kernel
theorem dX1_perGiven_6 : decode cX1_perGiven 6 = .ok (.ireturn, 1) := by decide +kernel
theorem dX1_setPerGiven_0 : decode cX1_setPerGiven 0 = .ok (.aload_n 0, 1) := by decide +kernel
theorem dX1_setPerGiven_1 : decode cX1_setPerGiven 1 = .ok (.iload_n 1, 1) := by decide +kernel
theorem dX1_setPerGiven_2 : decode cX1_setPerGiven 2 = .ok (.iconst 4, 1) := by decide +kernel
theorem dX1_setPerGiven_3 : decode cX1_setPerGiven 3 = .ok (.if_icmp .ne 7, 3) := by decide +kernel
theorem dX1_setPerGiven_6 : decode cX1_setPerGiven 6 = .ok (.iconst 2, 1) := by decide +kernel
theorem dX1_setPerGiven_7 : decode cX1_setPerGiven 7 = .ok (.goto 13, 3) := by decide +kernel
theorem dX1_setPerGiven_10 : decode cX1_setPerGiven 10 = .ok (.iload_n 1, 1) := by decide +kernel
theorem dX1_setPerGiven_11 : decode cX1_setPerGiven 11 = .ok (.iconst 2, 1) := by decide +kernel
theorem dX1_setPerGiven_12 : decode cX1_setPerGiven 12 = .ok (.if_icmp .ne 7, 3) := by decide +kernel
theorem dX1_setPerGiven_15 : decode cX1_setPerGiven 15 = .ok (.iconst 1, 1) := by decide +kernel
theorem dX1_setPerGiven_16 : decode cX1_setPerGiven 16 = .ok (.goto 4, 3) := by decide +kernel
theorem dX1_setPerGiven_19 : decode cX1_setPerGiven 19 = .ok (.iconst 0, 1) := by decide +kernel
theorem dX1_setPerGiven_20 : decode cX1_setPerGiven 20 = .ok (.putfield 26, 3) := by decide +kernel
theorem dX1_setPerGiven_23 : decode cX1_setPerGiven 23 = .ok (.aload_n 0, 1) := by decide +kernel
theorem dX1_setPerGiven_24 : decode cX1_setPerGiven 24 = .ok (.dup, 1) := by decide +kernel
theorem dX1_setPerGiven_25 : decode cX1_setPerGiven 25 = .ok (.getfield 23, 3) := by decide +kernel
theorem dX1_setPerGiven_28 : decode cX1_setPerGiven 28 = .ok (.iconst 1, 1) := by decide +kernel
theorem dX1_setPerGiven_29 : decode cX1_setPerGiven 29 = .ok (.iadd, 1) := by decide +kernel
theorem dX1_setPerGiven_30 : decode cX1_setPerGiven 30 = .ok (.putfield 23, 3) := by decide +kernel
theorem dX1_setPerGiven_33 : decode cX1_setPerGiven 33 = .ok (.return_, 1) := by decide +kernel
theorem dX1_isBelow_0 : decode cX1_isBelow 0 = .ok (.aload_n 0, 1) := by decide +kernel
theorem dX1_isBelow_1 : decode cX1_isBelow 1 = .ok (.getfield 29, 3) := by decide +kernel
theorem dX1_isBelow_4 : decode cX1_isBelow 4 = .ok (.ireturn, 1) := by decide +kernel
theorem dX1_setBelow_0 : decode cX1_setBelow 0 = .ok (.aload_n 0, 1) := by decide +kernel
theorem dX1_setBelow_1 : decode cX1_setBelow 1 = .ok (.iload_n 1, 1) := by decide +kernel
theorem dX1_setBelow_2 : decode cX1_setBelow 2 = .ok (.putfield 29, 3) := by decide +kernel
theorem dX1_setBelow_5 : decode cX1_setBelow 5 = .ok (.aload_n 0, 1) := by decide +kernel
theorem dX1_setBelow_6 : decode cX1_setBelow 6 = .ok (.dup, 1) := by decide +kernel
theorem dX1_setBelow_7 : decode cX1_setBelow 7 = .ok (.getfield 23, 3) := by decide +kernel
theorem dX1_setBelow_10 : decode cX1_setBelow 10 = .ok (.iconst 1, 1) := by decide +kernel
theorem dX1_setBelow_11 : decode cX1_setBelow 11 = .ok (.iadd, 1) := by decide +kernel
theorem dX1_setBelow_12 : decode cX1_setBelow 12 = .ok (.putfield 23, 3) := by decide +kernel
theorem dX1_setBelow_15 : decode cX1_setBelow 15 = .ok (.return_, 1) := by decide +kernel
theorem dX1_isFeigning_0 : decode cX1_isFeigning 0 = .ok (.aload_n 0, 1) := by decide +kernel
theorem dX1_isFeigning_1 : decode cX1_isFeigning 1 = .ok (.getfield 33, 3) := by decide +kernel
theorem dX1_isFeigning_4 : decode cX1_isFeigning 4 = .ok (.ireturn, 1) := by decide +kernel
theorem dX1_setFeigning_0 : decode cX1_setFeigning 0 = .ok (.aload_n 0, 1) := by decide +kernel
theorem dX1_setFeigning_1 : decode cX1_setFeigning 1 = .ok (.iload_n 1, 1) := by decide +kernel
theorem dX1_setFeigning_2 : decode cX1_setFeigning 2 = .ok (.putfield 33, 3) := by decide +kernel
theorem dX1_setFeigning_5 : decode cX1_setFeigning 5 = .ok (.aload_n 0, 1) := by decide +kernel
theorem dX1_setFeigning_6 : decode cX1_setFeigning 6 = .ok (.dup, 1) := by decide +kernel
theorem dX1_setFeigning_7 : decode cX1_setFeigning 7 = .ok (.getfield 23, 3) := by decide +kernel
theorem dX1_setFeigning_10 : decode cX1_setFeigning 10 = .ok (.iconst 1, 1) := by decide +kernel
theorem dX1_setFeigning_11 : decode cX1_setFeigning 11 = .ok (.iadd, 1) := by decide +kernel
theorem dX1_setFeigning_12 : decode cX1_setFeigning 12 = .ok (.putfield 23, 3) := by decide +kernel
theorem dX1_setFeigning_15 : decode cX1_setFeigning 15 = .ok (.return_, 1) := by decide +kernel
theorem dX1_lowest_0 : decode cX1_lowest 0 = .ok (.aload_n 0, 1) := by decide +kernel
theorem dX1_lowest_1 : decode cX1_lowest 1 = .ok (.getfield 13, 3) := by decide +kernel
theorem dX1_lowest_4 : decode cX1_lowest 4 = .ok (.ireturn, 1) := by decide +kernel
theorem dX1_width_0 : decode cX1_width 0 = .ok (.aload_n 0, 1) := by decide +kernel
theorem dX1_width_1 : decode cX1_width 1 = .ok (.getfield 17, 3) := by decide +kernel
theorem dX1_width_4 : decode cX1_width 4 = .ok (.aload_n 0, 1) := by decide +kernel
theorem dX1_width_5 : decode cX1_width 5 = .ok (.getfield 13, 3) := by decide +kernel
theorem dX1_width_8 : decode cX1_width 8 = .ok (.isub, 1) := by decide +kernel
theorem dX1_width_9 : decode cX1_width 9 = .ok (.iconst 1, 1) := by decide +kernel
theorem dX1_width_10 : decode cX1_width 10 = .ok (.iadd, 1) := by decide +kernel
theorem dX1_width_11 : decode cX1_width 11 = .ok (.ireturn, 1) := by decide +kernel
theorem dX1_setRange_0 : decode cX1_setRange 0 = .ok (.aload_n 0, 1) := by decide +kernel
theorem dX1_setRange_1 : decode cX1_setRange 1 = .ok (.iload_n 1, 1) := by decide +kernel
theorem dX1_setRange_2 : decode cX1_setRange 2 = .ok (.putfield 13, 3) := by decide +kernel
theorem dX1_setRange_5 : decode cX1_setRange 5 = .ok (.aload_n 0, 1) := by decide +kernel
theorem dX1_setRange_6 : decode cX1_setRange 6 = .ok (.iload_n 2, 1) := by decide +kernel
theorem dX1_setRange_7 : decode cX1_setRange 7 = .ok (.putfield 17, 3) := by decide +kernel
theorem dX1_setRange_10 : decode cX1_setRange 10 = .ok (.aload_n 0, 1) := by decide +kernel
theorem dX1_setRange_11 : decode cX1_setRange 11 = .ok (.dup, 1) := by decide +kernel
theorem dX1_setRange_12 : decode cX1_setRange 12 = .ok (.getfield 23, 3) := by decide +kernel
theorem dX1_setRange_15 : decode cX1_setRange 15 = .ok (.iconst 1, 1) := by decide +kernel
theorem dX1_setRange_16 : decode cX1_setRange 16 = .ok (.iadd, 1) := by decide +kernel
theorem dX1_setRange_17 : decode cX1_setRange 17 = .ok (.putfield 23, 3) := by decide +kernel
theorem dX1_setRange_20 : decode cX1_setRange 20 = .ok (.return_, 1) := by decide +kernel
theorem dX1_changes_0 : decode cX1_changes 0 = .ok (.aload_n 0, 1) := by decide +kernel
theorem dX1_changes_1 : decode cX1_changes 1 = .ok (.getfield 23, 3) := by decide +kernel
theorem dX1_changes_4 : decode cX1_changes 4 = .ok (.ireturn, 1) := by decide +kernel
theorem dX1_room_0 : decode cX1_room 0 = .ok (.aload_n 0, 1) := by decide +kernel
theorem dX1_room_1 : decode cX1_room 1 = .ok (.getfield 20, 3) := by decide +kernel
theorem dX1_room_4 : decode cX1_room 4 = .ok (.ifCond .ne 7, 3) := by decide +kernel
theorem dX1_room_7 : decode cX1_room 7 = .ok (.iconst 0, 1) := by decide +kernel
theorem dX1_room_8 : decode cX1_room 8 = .ok (.goto 16, 3) := by decide +kernel
theorem dX1_room_11 : decode cX1_room 11 = .ok (.aload_n 0, 1) := by decide +kernel
theorem dX1_room_12 : decode cX1_room 12 = .ok (.getfield 20, 3) := by decide +kernel
theorem dX1_room_15 : decode cX1_room 15 = .ok (.iconst 1, 1) := by decide +kernel
theorem dX1_room_16 : decode cX1_room 16 = .ok (.isub, 1) := by decide +kernel
theorem dX1_room_17 : decode cX1_room 17 = .ok (.aload_n 0, 1) := by decide +kernel
theorem dX1_room_18 : decode cX1_room 18 = .ok (.getfield 26, 3) := by decide +kernel
theorem dX1_room_21 : decode cX1_room 21 = .ok (.ishl, 1) := by decide +kernel
theorem dX1_room_22 : decode cX1_room 22 = .ok (.iconst 1, 1) := by decide +kernel
theorem dX1_room_23 : decode cX1_room 23 = .ok (.iadd, 1) := by decide +kernel
theorem dX1_room_24 : decode cX1_room 24 = .ok (.ireturn, 1) := by decide +kernel
theorem dX1_isStrong_0 : decode cX1_isStrong 0 = .ok (.iload_n 1, 1) := by decide +kernel
theorem dX1_isStrong_1 : decode cX1_isStrong 1 = .ok (.aload_n 0, 1) := by decide +kernel
theorem dX1_isStrong_2 : decode cX1_isStrong 2 = .ok (.invokevirtual 36, 3) := by decide +kernel
theorem dX1_isStrong_5 : decode cX1_isStrong 5 = .ok (.iconst 1, 1) := by decide +kernel
theorem dX1_isStrong_6 : decode cX1_isStrong 6 = .ok (.isub, 1) := by decide +kernel
theorem dX1_isStrong_7 : decode cX1_isStrong 7 = .ok (.iand, 1) := by decide +kernel
theorem dX1_isStrong_8 : decode cX1_isStrong 8 = .ok (.ifCond .ne 7, 3) := by decide +kernel
theorem dX1_isStrong_11 : decode cX1_isStrong 11 = .ok (.iconst 1, 1) := by decide +kernel
theorem dX1_isStrong_12 : decode cX1_isStrong 12 = .ok (.goto 4, 3) := by decide +kernel
theorem dX1_isStrong_15 : decode cX1_isStrong 15 = .ok (.iconst 0, 1) := by decide +kernel
theorem dX1_isStrong_16 : decode cX1_isStrong 16 = .ok (.ireturn, 1) := by decide +kernel
theorem dX1_against_0 : decode cX1_against 0 = .ok (.iload_n 1, 1) := by decide +kernel
theorem dX1_against_1 : decode cX1_against 1 = .ok (.aload_n 0, 1) := by decide +kernel
theorem dX1_against_2 : decode cX1_against 2 = .ok (.getfield 26, 3) := by decide +kernel
theorem dX1_against_5 : decode cX1_against 5 = .ok (.ishr, 1) := by decide +kernel
theorem dX1_against_6 : decode cX1_against 6 = .ok (.istore_n 2, 1) := by decide +kernel
theorem dX1_against_7 : decode cX1_against 7 = .ok (.iload_n 2, 1) := by decide +kernel
theorem dX1_against_8 : decode cX1_against 8 = .ok (.ifCond .lt 29, 3) := by decide +kernel
theorem dX1_against_11 : decode cX1_against 11 = .ok (.iload_n 2, 1) := by decide +kernel
theorem dX1_against_12 : decode cX1_against 12 = .ok (.aload_n 0, 1) := by decide +kernel
theorem dX1_against_13 : decode cX1_against 13 = .ok (.getfield 20, 3) := by decide +kernel
theorem dX1_against_16 : decode cX1_against 16 = .ok (.if_icmp .ge 21, 3) := by decide +kernel
theorem dX1_against_19 : decode cX1_against 19 = .ok (.iload_n 2, 1) := by decide +kernel
theorem dX1_against_20 : decode cX1_against 20 = .ok (.aload_n 0, 1) := by decide +kernel
theorem dX1_against_21 : decode cX1_against 21 = .ok (.getfield 9, 3) := by decide +kernel
theorem dX1_against_24 : decode cX1_against 24 = .ok (.arraylength, 1) := by decide +kernel
theorem dX1_against_25 : decode cX1_against 25 = .ok (.if_icmp .ge 12, 3) := by decide +kernel
theorem dX1_against_28 : decode cX1_against 28 = .ok (.aload_n 0, 1) := by decide +kernel
theorem dX1_against_29 : decode cX1_against 29 = .ok (.getfield 9, 3) := by decide +kernel
theorem dX1_against_32 : decode cX1_against 32 = .ok (.iload_n 2, 1) := by decide +kernel
theorem dX1_against_33 : decode cX1_against 33 = .ok (.iaload, 1) := by decide +kernel
theorem dX1_against_34 : decode cX1_against 34 = .ok (.goto 4, 3) := by decide +kernel
theorem dX1_against_37 : decode cX1_against 37 = .ok (.iconst 0, 1) := by decide +kernel
theorem dX1_against_38 : decode cX1_against 38 = .ok (.ireturn, 1) := by decide +kernel
theorem dX1_stepTo_0 : decode cX1_stepTo 0 = .ok (.iload_n 1, 1) := by decide +kernel
theorem dX1_stepTo_1 : decode cX1_stepTo 1 = .ok (.iconst 1, 1) := by decide +kernel
theorem dX1_stepTo_2 : decode cX1_stepTo 2 = .ok (.if_icmp .ge 7, 3) := by decide +kernel
theorem dX1_stepTo_5 : decode cX1_stepTo 5 = .ok (.iconst 0, 1) := by decide +kernel
theorem dX1_stepTo_6 : decode cX1_stepTo 6 = .ok (.goto 16, 3) := by decide +kernel
theorem dX1_stepTo_9 : decode cX1_stepTo 9 = .ok (.aload_n 0, 1) := by decide +kernel
theorem dX1_stepTo_10 : decode cX1_stepTo 10 = .ok (.iload_n 1, 1) := by decide +kernel
theorem dX1_stepTo_11 : decode cX1_stepTo 11 = .ok (.invokevirtual 40, 3) := by decide +kernel
theorem dX1_stepTo_14 : decode cX1_stepTo 14 = .ok (.aload_n 0, 1) := by decide +kernel
theorem dX1_stepTo_15 : decode cX1_stepTo 15 = .ok (.iload_n 1, 1) := by decide +kernel
theorem dX1_stepTo_16 : decode cX1_stepTo 16 = .ok (.iconst 1, 1) := by decide +kernel
theorem dX1_stepTo_17 : decode cX1_stepTo 17 = .ok (.isub, 1) := by decide +kernel
theorem dX1_stepTo_18 : decode cX1_stepTo 18 = .ok (.invokevirtual 40, 3) := by decide +kernel
theorem dX1_stepTo_21 : decode cX1_stepTo 21 = .ok (.isub, 1) := by decide +kernel
theorem dX1_stepTo_22 : decode cX1_stepTo 22 = .ok (.ireturn, 1) := by decide +kernel
