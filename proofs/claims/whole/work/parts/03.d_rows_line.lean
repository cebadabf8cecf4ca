theorem dX3_init_0 : decode cX3_init 0 = .ok (.aload_n 0, 1) := by decide +kernel
theorem dX3_init_1 : decode cX3_init 1 = .ok (.invokespecial 1, 3) := by decide +kernel
theorem dX3_init_4 : decode cX3_init 4 = .ok (.aload_n 0, 1) := by decide +kernel
theorem dX3_init_5 : decode cX3_init 5 = .ok (.aload_n 1, 1) := by decide +kernel
theorem dX3_init_6 : decode cX3_init 6 = .ok (.putfield 7, 3) := by decide +kernel
theorem dX3_init_9 : decode cX3_init 9 = .ok (.aload_n 0, 1) := by decide +kernel
theorem dX3_init_10 : decode cX3_init 10 = .ok (.bipush 53, 2) := by decide +kernel
theorem dX3_init_12 : decode cX3_init 12 = .ok (.newarray .int, 2) := by decide +kernel
theorem dX3_init_14 : decode cX3_init 14 = .ok (.putfield 13, 3) := by decide +kernel
theorem dX3_init_17 : decode cX3_init 17 = .ok (.return_, 1) := by decide +kernel
theorem dX3_length_0 : decode cX3_length 0 = .ok (.aload_n 0, 1) := by decide +kernel
theorem dX3_length_1 : decode cX3_length 1 = .ok (.getfield 17, 3) := by decide +kernel
theorem dX3_length_4 : decode cX3_length 4 = .ok (.ireturn, 1) := by decide +kernel
theorem dX3_has_0 : decode cX3_has 0 = .ok (.iload_n 1, 1) := by decide +kernel
theorem dX3_has_1 : decode cX3_has 1 = .ok (.ifCond .lt 15, 3) := by decide +kernel
theorem dX3_has_4 : decode cX3_has 4 = .ok (.iload_n 1, 1) := by decide +kernel
theorem dX3_has_5 : decode cX3_has 5 = .ok (.aload_n 0, 1) := by decide +kernel
theorem dX3_has_6 : decode cX3_has 6 = .ok (.getfield 17, 3) := by decide +kernel
theorem dX3_has_9 : decode cX3_has 9 = .ok (.if_icmp .ge 7, 3) := by decide +kernel
theorem dX3_has_12 : decode cX3_has 12 = .ok (.iconst 1, 1) := by decide +kernel
theorem dX3_has_13 : decode cX3_has 13 = .ok (.goto 4, 3) := by decide +kernel
theorem dX3_has_16 : decode cX3_has 16 = .ok (.iconst 0, 1) := by decide +kernel
theorem dX3_has_17 : decode cX3_has 17 = .ok (.ireturn, 1) := by decide +kernel
theorem dX3_isFull_0 : decode cX3_isFull 0 = .ok (.aload_n 0, 1) := by decide +kernel
theorem dX3_isFull_1 : decode cX3_isFull 1 = .ok (.getfield 17, 3) := by decide +kernel
theorem dX3_isFull_4 : decode cX3_isFull 4 = .ok (.aload_n 0, 1) := by decide +kernel
theorem dX3_isFull_5 : decode cX3_isFull 5 = .ok (.getfield 7, 3) := by decide +kernel
theorem dX3_isFull_8 : decode cX3_isFull 8 = .ok (.invokevirtual 21, 3) := by decide +kernel
theorem dX3_isFull_11 : decode cX3_isFull 11 = .ok (.if_icmp .lt 7, 3) := by decide +kernel
theorem dX3_isFull_14 : decode cX3_isFull 14 = .ok (.iconst 1, 1) := by decide +kernel
theorem dX3_isFull_15 : decode cX3_isFull 15 = .ok (.goto 4, 3) := by decide +kernel
theorem dX3_isFull_18 : decode cX3_isFull 18 = .ok (.iconst 0, 1) := by decide +kernel
theorem dX3_isFull_19 : decode cX3_isFull 19 = .ok (.ireturn, 1) := by decide +kernel
theorem dX3_isWhole_0 : decode cX3_isWhole 0 = .ok (.aload_n 0, 1) := by decide +kernel
theorem dX3_isWhole_1 : decode cX3_isWhole 1 = .ok (.getfield 7, 3) := by decide +kernel
theorem dX3_isWhole_4 : decode cX3_isWhole 4 = .ok (.invokevirtual 27, 3) := by decide +kernel
theorem dX3_isWhole_7 : decode cX3_isWhole 7 = .ok (.iconst 2, 1) := by decide +kernel
theorem dX3_isWhole_8 : decode cX3_isWhole 8 = .ok (.if_icmp .lt 21, 3) := by decide +kernel
theorem dX3_isWhole_11 : decode cX3_isWhole 11 = .ok (.aload_n 0, 1) := by decide +kernel
theorem dX3_isWhole_12 : decode cX3_isWhole 12 = .ok (.getfield 17, 3) := by decide +kernel
theorem dX3_isWhole_15 : decode cX3_isWhole 15 = .ok (.aload_n 0, 1) := by decide +kernel
theorem dX3_isWhole_16 : decode cX3_isWhole 16 = .ok (.getfield 7, 3) := by decide +kernel
theorem dX3_isWhole_19 : decode cX3_isWhole 19 = .ok (.invokevirtual 21, 3) := by decide +kernel
theorem dX3_isWhole_22 : decode cX3_isWhole 22 = .ok (.if_icmp .ne 7, 3) := by decide +kernel
theorem dX3_isWhole_25 : decode cX3_isWhole 25 = .ok (.iconst 1, 1) := by decide +kernel
theorem dX3_isWhole_26 : decode cX3_isWhole 26 = .ok (.goto 4, 3) := by decide +kernel
theorem dX3_isWhole_29 : decode cX3_isWhole 29 = .ok (.iconst 0, 1) := by decide +kernel
theorem dX3_isWhole_30 : decode cX3_isWhole 30 = .ok (.ireturn, 1) := by decide +kernel
theorem dX3_toneAt_0 : decode cX3_toneAt 0 = .ok (.iload_n 1, 1) := by decide +kernel
theorem dX3_toneAt_1 : decode cX3_toneAt 1 = .ok (.ifCond .lt 21, 3) := by decide +kernel
theorem dX3_toneAt_4 : decode cX3_toneAt 4 = .ok (.iload_n 1, 1) := by decide +kernel
theorem dX3_toneAt_5 : decode cX3_toneAt 5 = .ok (.aload_n 0, 1) := by decide +kernel
theorem dX3_toneAt_6 : decode cX3_toneAt 6 = .ok (.getfield 13, 3) := by decide +kernel
theorem dX3_toneAt_9 : decode cX3_toneAt 9 = .ok (.arraylength, 1) := by decide +kernel
theorem dX3_toneAt_10 : decode cX3_toneAt 10 = .ok (.if_icmp .ge 12, 3) := by decide +kernel
theorem dX3_toneAt_13 : decode cX3_toneAt 13 = .ok (.aload_n 0, 1) := by decide +kernel
theorem dX3_toneAt_14 : decode cX3_toneAt 14 = .ok (.getfield 13, 3) := by decide +kernel
theorem dX3_toneAt_17 : decode cX3_toneAt 17 = .ok (.iload_n 1, 1) := by decide +kernel
theorem dX3_toneAt_18 : decode cX3_toneAt 18 = .ok (.iaload, 1) := by decide +kernel
theorem dX3_toneAt_19 : decode cX3_toneAt 19 = .ok (.goto 4, 3) := by decide +kernel
theorem dX3_toneAt_22 : decode cX3_toneAt 22 = .ok (.iconst 0, 1) := by decide +kernel
theorem dX3_toneAt_23 : decode cX3_toneAt 23 = .ok (.ireturn, 1) := by decide +kernel
theorem dX3_put_0 : decode cX3_put 0 = .ok (.iload_n 1, 1) := by decide +kernel
theorem dX3_put_1 : decode cX3_put 1 = .ok (.ifCond .lt 19, 3) := by decide +kernel
theorem dX3_put_4 : decode cX3_put 4 = .ok (.iload_n 1, 1) := by decide +kernel
theorem dX3_put_5 : decode cX3_put 5 = .ok (.aload_n 0, 1) := by decide +kernel
theorem dX3_put_6 : decode cX3_put 6 = .ok (.getfield 13, 3) := by decide +kernel
theorem dX3_put_9 : decode cX3_put 9 = .ok (.arraylength, 1) := by decide +kernel
theorem dX3_put_10 : decode cX3_put 10 = .ok (.if_icmp .ge 10, 3) := by decide +kernel
theorem dX3_put_13 : decode cX3_put 13 = .ok (.aload_n 0, 1) := by decide +kernel
theorem dX3_put_14 : decode cX3_put 14 = .ok (.getfield 13, 3) := by decide +kernel
theorem dX3_put_17 : decode cX3_put 17 = .ok (.iload_n 1, 1) := by decide +kernel
theorem dX3_put_18 : decode cX3_put 18 = .ok (.iload_n 2, 1) := by decide +kernel
theorem dX3_put_19 : decode cX3_put 19 = .ok (.iastore, 1) := by decide +kernel
theorem dX3_put_20 : decode cX3_put 20 = .ok (.return_, 1) := by decide +kernel
theorem dX3_append_0 : decode cX3_append 0 = .ok (.aload_n 0, 1) := by decide +kernel
theorem dX3_append_1 : decode cX3_append 1 = .ok (.getfield 17, 3) := by decide +kernel
theorem dX3_append_4 : decode cX3_append 4 = .ok (.aload_n 0, 1) := by decide +kernel
theorem dX3_append_5 : decode cX3_append 5 = .ok (.getfield 13, 3) := by decide +kernel
theorem dX3_append_8 : decode cX3_append 8 = .ok (.arraylength, 1) := by decide +kernel
theorem dX3_append_9 : decode cX3_append 9 = .ok (.if_icmp .ge 23, 3) := by decide +kernel
theorem dX3_append_12 : decode cX3_append 12 = .ok (.aload_n 0, 1) := by decide +kernel
theorem dX3_append_13 : decode cX3_append 13 = .ok (.getfield 13, 3) := by decide +kernel
theorem dX3_append_16 : decode cX3_append 16 = .ok (.aload_n 0, 1) := by decide +kernel
theorem dX3_append_17 : decode cX3_append 17 = .ok (.getfield 17, 3) := by decide +kernel
theorem dX3_append_20 : decode cX3_append 20 = .ok (.iload_n 1, 1) := by decide +kernel
theorem dX3_append_21 : decode cX3_append 21 = .ok (.iastore, 1) := by decide +kernel
theorem dX3_append_22 : decode cX3_append 22 = .ok (.aload_n 0, 1) := by decide +kernel
theorem dX3_append_23 : decode cX3_append 23 = .ok (.dup, 1) := by decide +kernel
theorem dX3_append_24 : decode cX3_append 24 = .ok (.getfield 17, 3) := by decide +kernel
theorem dX3_append_27 : decode cX3_append 27 = .ok (.iconst 1, 1) := by decide +kernel
theorem dX3_append_28 : decode cX3_append 28 = .ok (.iadd, 1) := by decide +kernel
theorem dX3_append_29 : decode cX3_append 29 = .ok (.putfield 17, 3) := by decide +kernel
theorem dX3_append_32 : decode cX3_append 32 = .ok (.return_, 1) := by decide +kernel
theorem dX3_stretch_0 : decode cX3_stretch 0 = .ok (.aload_n 0, 1) := by decide +kernel
theorem dX3_stretch_1 : decode cX3_stretch 1 = .ok (.iconst 0, 1) := by decide +kernel
theorem dX3_stretch_2 : decode cX3_stretch 2 = .ok (.iload_n 1, 1) := by decide +kernel
theorem dX3_stretch_3 : decode cX3_stretch 3 = .ok (.aload_n 0, 1) := by decide +kernel
theorem dX3_stretch_4 : decode cX3_stretch 4 = .ok (.getfield 13, 3) := by decide +kernel
theorem dX3_stretch_7 : decode cX3_stretch 7 = .ok (.arraylength, 1) := by decide +kernel
theorem dX3_stretch_8 : decode cX3_stretch 8 = .ok (.invokestatic 30, 3) := by decide +kernel
theorem dX3_stretch_11 : decode cX3_stretch 11 = .ok (.invokestatic 36, 3) := by decide +kernel
theorem dX3_stretch_14 : decode cX3_stretch 14 = .ok (.putfield 17, 3) := by decide +kernel
theorem dX3_stretch_17 : decode cX3_stretch 17 = .ok (.return_, 1) := by decide +kernel
theorem dX3_stepTo_0 : decode cX3_stepTo 0 = .ok (.iload_n 1, 1) := by decide +kernel
theorem dX3_stepTo_1 : decode cX3_stepTo 1 = .ok (.iconst 1, 1) := by decide +kernel
theorem dX3_stepTo_2 : decode cX3_stepTo 2 = .ok (.if_icmp .ge 7, 3) := by decide +kernel
theorem dX3_stepTo_5 : decode cX3_stepTo 5 = .ok (.iconst 0, 1) := by decide +kernel
theorem dX3_stepTo_6 : decode cX3_stepTo 6 = .ok (.goto 16, 3) := by decide +kernel
theorem dX3_stepTo_9 : decode cX3_stepTo 9 = .ok (.aload_n 0, 1) := by decide +kernel
theorem dX3_stepTo_10 : decode cX3_stepTo 10 = .ok (.iload_n 1, 1) := by decide +kernel
theorem dX3_stepTo_11 : decode cX3_stepTo 11 = .ok (.invokevirtual 39, 3) := by decide +kernel
theorem dX3_stepTo_14 : decode cX3_stepTo 14 = .ok (.aload_n 0, 1) := by decide +kernel
theorem dX3_stepTo_15 : decode cX3_stepTo 15 = .ok (.iload_n 1, 1) := by decide +kernel
theorem dX3_stepTo_16 : decode cX3_stepTo 16 = .ok (.iconst 1, 1) := by decide +kernel
theorem dX3_stepTo_17 : decode cX3_stepTo 17 = .ok (.isub, 1) := by decide +kernel
theorem dX3_stepTo_18 : decode cX3_stepTo 18 = .ok (.invokevirtual 39, 3) := by decide +kernel
theorem dX3_stepTo_21 : decode cX3_stepTo 21 = .ok (.isub, 1) := by decide +kernel
theorem dX3_stepTo_22 : decode cX3_stepTo 22 = .ok (.ireturn, 1) := by decide +kernel
theorem dX3_heightAt_0 : decode cX3_heightAt 0 = .ok (.aload_n 0, 1) := by decide +kernel
theorem dX3_heightAt_1 : decode cX3_heightAt 1 = .ok (.iload_n 1, 1) := by decide +kernel
theorem dX3_heightAt_2 : decode cX3_heightAt 2 = .ok (.invokevirtual 39, 3) := by decide +kernel
theorem dX3_heightAt_5 : decode cX3_heightAt 5 = .ok (.invokestatic 43, 3) := by decide +kernel
theorem dX3_heightAt_8 : decode cX3_heightAt 8 = .ok (.istore_n 2, 1) := by decide +kernel
theorem dX3_heightAt_9 : decode cX3_heightAt 9 = .ok (.aload_n 0, 1) := by decide +kernel
theorem dX3_heightAt_10 : decode cX3_heightAt 10 = .ok (.getfield 7, 3) := by decide +kernel
theorem dX3_heightAt_13 : decode cX3_heightAt 13 = .ok (.invokevirtual 48, 3) := by decide +kernel
theorem dX3_heightAt_16 : decode cX3_heightAt 16 = .ok (.ifCond .eq 27, 3) := by decide +kernel
theorem dX3_heightAt_19 : decode cX3_heightAt 19 = .ok (.iload_n 1, 1) := by decide +kernel
theorem dX3_heightAt_20 : decode cX3_heightAt 20 = .ok (.aload_n 0, 1) := by decide +kernel
theorem dX3_heightAt_21 : decode cX3_heightAt 21 = .ok (.getfield 17, 3) := by decide +kernel
theorem dX3_heightAt_24 : decode cX3_heightAt 24 = .ok (.iconst 2, 1) := by decide +kernel
theorem dX3_heightAt_25 : decode cX3_heightAt 25 = .ok (.isub, 1) := by decide +kernel
theorem dX3_heightAt_26 : decode cX3_heightAt 26 = .ok (.if_icmp .ne 17, 3) := by decide +kernel
theorem dX3_heightAt_29 : decode cX3_heightAt 29 = .ok (.aload_n 0, 1) := by decide +kernel
theorem dX3_heightAt_30 : decode cX3_heightAt 30 = .ok (.getfield 17, 3) := by decide +kernel
theorem dX3_heightAt_33 : decode cX3_heightAt 33 = .ok (.aload_n 0, 1) := by decide +kernel
theorem dX3_heightAt_34 : decode cX3_heightAt 34 = .ok (.getfield 7, 3) := by decide +kernel
theorem dX3_heightAt_37 : decode cX3_heightAt 37 = .ok (.invokevirtual 21, 3) := by decide +kernel
theorem dX3_heightAt_40 : decode cX3_heightAt 40 = .ok (.if_icmp .eq 5, 3) := by decide +kernel
theorem dX3_heightAt_43 : decode cX3_heightAt 43 = .ok (.iload_n 2, 1) := by decide +kernel
theorem dX3_heightAt_44 : decode cX3_heightAt 44 = .ok (.ireturn, 1) := by decide +kernel
theorem dX3_heightAt_45 : decode cX3_heightAt 45 = .ok (.aload_n 0, 1) := by decide +kernel
theorem dX3_heightAt_46 : decode cX3_heightAt 46 = .ok (.iload_n 1, 1) := by decide +kernel
theorem dX3_heightAt_47 : decode cX3_heightAt 47 = .ok (.iconst 1, 1) := by decide +kernel
theorem dX3_heightAt_48 : decode cX3_heightAt 48 = .ok (.iadd, 1) := by decide +kernel
theorem dX3_heightAt_49 : decode cX3_heightAt 49 = .ok (.invokevirtual 39, 3) := by decide +kernel
theorem dX3_heightAt_52 : decode cX3_heightAt 52 = .ok (.istore_n 3, 1) := by decide +kernel
theorem dX3_heightAt_53 : decode cX3_heightAt 53 = .ok (.iload_n 3, 1) := by decide +kernel
theorem dX3_heightAt_54 : decode cX3_heightAt 54 = .ok (.aload_n 0, 1) := by decide +kernel
theorem dX3_heightAt_55 : decode cX3_heightAt 55 = .ok (.iload_n 1, 1) := by decide +kernel
theorem dX3_heightAt_56 : decode cX3_heightAt 56 = .ok (.invokevirtual 39, 3) := by decide +kernel
theorem dX3_heightAt_59 : decode cX3_heightAt 59 = .ok (.isub, 1) := by decide +kernel
theorem dX3_heightAt_60 : decode cX3_heightAt 60 = .ok (.iconst 1, 1) := by decide +kernel
theorem dX3_heightAt_61 : decode cX3_heightAt 61 = .ok (.if_icmp .ne 17, 3) := by decide +kernel
theorem dX3_heightAt_64 : decode cX3_heightAt 64 = .ok (.iload_n 3, 1) := by decide +kernel
theorem dX3_heightAt_65 : decode cX3_heightAt 65 = .ok (.invokestatic 43, 3) := by decide +kernel
theorem dX3_heightAt_68 : decode cX3_heightAt 68 = .ok (.iload_n 2, 1) := by decide +kernel
theorem dX3_heightAt_69 : decode cX3_heightAt 69 = .ok (.isub, 1) := by decide +kernel
theorem dX3_heightAt_70 : decode cX3_heightAt 70 = .ok (.iconst 2, 1) := by decide +kernel
theorem dX3_heightAt_71 : decode cX3_heightAt 71 = .ok (.if_icmp .ne 7, 3) := by decide +kernel
theorem dX3_heightAt_74 : decode cX3_heightAt 74 = .ok (.iconst 1, 1) := by decide +kernel
theorem dX3_heightAt_75 : decode cX3_heightAt 75 = .ok (.goto 4, 3) := by decide +kernel
theorem dX3_heightAt_78 : decode cX3_heightAt 78 = .ok (.iconst 0, 1) := by decide +kernel
theorem dX3_heightAt_79 : decode cX3_heightAt 79 = .ok (.istore 4, 2) := by decide +kernel
theorem dX3_heightAt_81 : decode cX3_heightAt 81 = .ok (.iload 4, 2) := by decide +kernel
theorem dX3_heightAt_83 : decode cX3_heightAt 83 = .ok (.ifCond .eq 9, 3) := by decide +kernel
theorem dX3_heightAt_86 : decode cX3_heightAt 86 = .ok (.iload_n 2, 1) := by decide +kernel
theorem dX3_heightAt_87 : decode cX3_heightAt 87 = .ok (.iconst 1, 1) := by decide +kernel
theorem dX3_heightAt_88 : decode cX3_heightAt 88 = .ok (.iadd, 1) := by decide +kernel
theorem dX3_heightAt_89 : decode cX3_heightAt 89 = .ok (.goto 4, 3) := by decide +kernel
theorem dX3_heightAt_92 : decode cX3_heightAt 92 = .ok (.iload_n 2, 1) := by decide +kernel
theorem dX3_heightAt_93 : decode cX3_heightAt 93 = .ok (.ireturn, 1) := by decide +kernel
theorem dX3_gapAt_0 : decode cX3_gapAt 0 = .ok (.aload_n 0, 1) := by decide +kernel
theorem dX3_gapAt_1 : decode cX3_gapAt 1 = .ok (.getfield 7, 3) := by decide +kernel
theorem dX3_gapAt_4 : decode cX3_gapAt 4 = .ok (.iload_n 1, 1) := by decide +kernel
theorem dX3_gapAt_5 : decode cX3_gapAt 5 = .ok (.invokevirtual 52, 3) := by decide +kernel
theorem dX3_gapAt_8 : decode cX3_gapAt 8 = .ok (.istore_n 2, 1) := by decide +kernel
theorem dX3_gapAt_9 : decode cX3_gapAt 9 = .ok (.aload_n 0, 1) := by decide +kernel
theorem dX3_gapAt_10 : decode cX3_gapAt 10 = .ok (.iload_n 1, 1) := by decide +kernel
theorem dX3_gapAt_11 : decode cX3_gapAt 11 = .ok (.invokevirtual 39, 3) := by decide +kernel
theorem dX3_gapAt_14 : decode cX3_gapAt 14 = .ok (.iload_n 2, 1) := by decide +kernel
theorem dX3_gapAt_15 : decode cX3_gapAt 15 = .ok (.isub, 1) := by decide +kernel
theorem dX3_gapAt_16 : decode cX3_gapAt 16 = .ok (.aload_n 0, 1) := by decide +kernel
theorem dX3_gapAt_17 : decode cX3_gapAt 17 = .ok (.iload_n 1, 1) := by decide +kernel
theorem dX3_gapAt_18 : decode cX3_gapAt 18 = .ok (.invokevirtual 55, 3) := by decide +kernel
theorem dX3_gapAt_21 : decode cX3_gapAt 21 = .ok (.iload_n 2, 1) := by decide +kernel
theorem dX3_gapAt_22 : decode cX3_gapAt 22 = .ok (.invokestatic 43, 3) := by decide +kernel
theorem dX3_gapAt_25 : decode cX3_gapAt 25 = .ok (.isub, 1) := by decide +kernel
theorem dX3_gapAt_26 : decode cX3_gapAt 26 = .ok (.invokestatic 58, 3) := by decide +kernel
theorem dX3_gapAt_29 : decode cX3_gapAt 29 = .ok (.ireturn, 1) := by decide +kernel
theorem dX3_faultsAt_0 : decode cX3_faultsAt 0 = .ok (.aload_n 0, 1) := by decide +kernel
theorem dX3_faultsAt_1 : decode cX3_faultsAt 1 = .ok (.iload_n 1, 1) := by decide +kernel
theorem dX3_faultsAt_2 : decode cX3_faultsAt 2 = .ok (.invokevirtual 61, 3) := by decide +kernel
theorem dX3_faultsAt_5 : decode cX3_faultsAt 5 = .ok (.aload_n 0, 1) := by decide +kernel
theorem dX3_faultsAt_6 : decode cX3_faultsAt 6 = .ok (.iload_n 1, 1) := by decide +kernel
theorem dX3_faultsAt_7 : decode cX3_faultsAt 7 = .ok (.invokevirtual 64, 3) := by decide +kernel
theorem dX3_faultsAt_10 : decode cX3_faultsAt 10 = .ok (.ior, 1) := by decide +kernel
theorem dX3_faultsAt_11 : decode cX3_faultsAt 11 = .ok (.ireturn, 1) := by decide +kernel
theorem dX3_nearFaults_0 : decode cX3_nearFaults 0 = .ok (.aload_n 0, 1) := by decide +kernel
theorem dX3_nearFaults_1 : decode cX3_nearFaults 1 = .ok (.iload_n 1, 1) := by decide +kernel
theorem dX3_nearFaults_2 : decode cX3_nearFaults 2 = .ok (.invokevirtual 67, 3) := by decide +kernel
theorem dX3_nearFaults_5 : decode cX3_nearFaults 5 = .ok (.istore_n 2, 1) := by decide +kernel
theorem dX3_nearFaults_6 : decode cX3_nearFaults 6 = .ok (.iload_n 1, 1) := by decide +kernel
theorem dX3_nearFaults_7 : decode cX3_nearFaults 7 = .ok (.aload_n 0, 1) := by decide +kernel
theorem dX3_nearFaults_8 : decode cX3_nearFaults 8 = .ok (.getfield 7, 3) := by decide +kernel
theorem dX3_nearFaults_11 : decode cX3_nearFaults 11 = .ok (.invokevirtual 21, 3) := by decide +kernel
theorem dX3_nearFaults_14 : decode cX3_nearFaults 14 = .ok (.iconst 1, 1) := by decide +kernel
theorem dX3_nearFaults_15 : decode cX3_nearFaults 15 = .ok (.isub, 1) := by decide +kernel
theorem dX3_nearFaults_16 : decode cX3_nearFaults 16 = .ok (.if_icmp .ne 7, 3) := by decide +kernel
theorem dX3_nearFaults_19 : decode cX3_nearFaults 19 = .ok (.iconst 1, 1) := by decide +kernel
theorem dX3_nearFaults_20 : decode cX3_nearFaults 20 = .ok (.goto 4, 3) := by decide +kernel
theorem dX3_nearFaults_23 : decode cX3_nearFaults 23 = .ok (.iconst 0, 1) := by decide +kernel
theorem dX3_nearFaults_24 : decode cX3_nearFaults 24 = .ok (.istore_n 3, 1) := by decide +kernel
theorem dX3_nearFaults_25 : decode cX3_nearFaults 25 = .ok (.aload_n 0, 1) := by decide +kernel
theorem dX3_nearFaults_26 : decode cX3_nearFaults 26 = .ok (.iload_n 1, 1) := by decide +kernel
theorem dX3_nearFaults_27 : decode cX3_nearFaults 27 = .ok (.invokevirtual 39, 3) := by decide +kernel
theorem dX3_nearFaults_30 : decode cX3_nearFaults 30 = .ok (.aload_n 0, 1) := by decide +kernel
theorem dX3_nearFaults_31 : decode cX3_nearFaults 31 = .ok (.getfield 7, 3) := by decide +kernel
theorem dX3_nearFaults_34 : decode cX3_nearFaults 34 = .ok (.iload_n 1, 1) := by decide +kernel
theorem dX3_nearFaults_35 : decode cX3_nearFaults 35 = .ok (.invokevirtual 52, 3) := by decide +kernel
theorem dX3_nearFaults_38 : decode cX3_nearFaults 38 = .ok (.isub, 1) := by decide +kernel
theorem dX3_nearFaults_39 : decode cX3_nearFaults 39 = .ok (.istore 4, 2) := by decide +kernel
theorem dX3_nearFaults_41 : decode cX3_nearFaults 41 = .ok (.iconst 0, 1) := by decide +kernel
theorem dX3_nearFaults_42 : decode cX3_nearFaults 42 = .ok (.istore 5, 2) := by decide +kernel
theorem dX3_nearFaults_44 : decode cX3_nearFaults 44 = .ok (.iload_n 1, 1) := by decide +kernel
theorem dX3_nearFaults_45 : decode cX3_nearFaults 45 = .ok (.ifCond .le 40, 3) := by decide +kernel
theorem dX3_nearFaults_48 : decode cX3_nearFaults 48 = .ok (.aload_n 0, 1) := by decide +kernel
theorem dX3_nearFaults_49 : decode cX3_nearFaults 49 = .ok (.iload_n 1, 1) := by decide +kernel
theorem dX3_nearFaults_50 : decode cX3_nearFaults 50 = .ok (.iload_n 2, 1) := by decide +kernel
theorem dX3_nearFaults_51 : decode cX3_nearFaults 51 = .ok (.aload_n 0, 1) := by decide +kernel
theorem dX3_nearFaults_52 : decode cX3_nearFaults 52 = .ok (.iload_n 1, 1) := by decide +kernel
theorem dX3_nearFaults_53 : decode cX3_nearFaults 53 = .ok (.iconst 1, 1) := by decide +kernel
theorem dX3_nearFaults_54 : decode cX3_nearFaults 54 = .ok (.isub, 1) := by decide +kernel
theorem dX3_nearFaults_55 : decode cX3_nearFaults 55 = .ok (.invokevirtual 67, 3) := by decide +kernel
theorem dX3_nearFaults_58 : decode cX3_nearFaults 58 = .ok (.invokevirtual 70, 3) := by decide +kernel
theorem dX3_nearFaults_61 : decode cX3_nearFaults 61 = .ok (.aload_n 0, 1) := by decide +kernel
theorem dX3_nearFaults_62 : decode cX3_nearFaults 62 = .ok (.iload_n 1, 1) := by decide +kernel
theorem dX3_nearFaults_63 : decode cX3_nearFaults 63 = .ok (.aload_n 0, 1) := by decide +kernel
theorem dX3_nearFaults_64 : decode cX3_nearFaults 64 = .ok (.iload_n 1, 1) := by decide +kernel
theorem dX3_nearFaults_65 : decode cX3_nearFaults 65 = .ok (.invokevirtual 55, 3) := by decide +kernel
theorem dX3_nearFaults_68 : decode cX3_nearFaults 68 = .ok (.aload_n 0, 1) := by decide +kernel
theorem dX3_nearFaults_69 : decode cX3_nearFaults 69 = .ok (.iload_n 1, 1) := by decide +kernel
theorem dX3_nearFaults_70 : decode cX3_nearFaults 70 = .ok (.iconst 1, 1) := by decide +kernel
theorem dX3_nearFaults_71 : decode cX3_nearFaults 71 = .ok (.isub, 1) := by decide +kernel
theorem dX3_nearFaults_72 : decode cX3_nearFaults 72 = .ok (.invokevirtual 55, 3) := by decide +kernel
theorem dX3_nearFaults_75 : decode cX3_nearFaults 75 = .ok (.isub, 1) := by decide +kernel
theorem dX3_nearFaults_76 : decode cX3_nearFaults 76 = .ok (.invokevirtual 74, 3) := by decide +kernel
theorem dX3_nearFaults_79 : decode cX3_nearFaults 79 = .ok (.ior, 1) := by decide +kernel
theorem dX3_nearFaults_80 : decode cX3_nearFaults 80 = .ok (.istore 5, 2) := by decide +kernel
theorem dX3_nearFaults_82 : decode cX3_nearFaults 82 = .ok (.goto 25, 3) := by decide +kernel
theorem dX3_nearFaults_85 : decode cX3_nearFaults 85 = .ok (.iload_n 2, 1) := by decide +kernel
theorem dX3_nearFaults_86 : decode cX3_nearFaults 86 = .ok (.invokestatic 77, 3) := by decide +kernel
theorem dX3_nearFaults_89 : decode cX3_nearFaults 89 = .ok (.ifCond .eq 15, 3) := by decide +kernel
theorem dX3_nearFaults_92 : decode cX3_nearFaults 92 = .ok (.iload_n 2, 1) := by decide +kernel
theorem dX3_nearFaults_93 : decode cX3_nearFaults 93 = .ok (.invokestatic 81, 3) := by decide +kernel
theorem dX3_nearFaults_96 : decode cX3_nearFaults 96 = .ok (.ifCond .eq 11, 3) := by decide +kernel
theorem dX3_nearFaults_99 : decode cX3_nearFaults 99 = .ok (.iload 4, 2) := by decide +kernel
theorem dX3_nearFaults_101 : decode cX3_nearFaults 101 = .ok (.ifCond .ge 6, 3) := by decide +kernel
theorem dX3_nearFaults_104 : decode cX3_nearFaults 104 = .ok (.iconst 1, 1) := by decide +kernel
theorem dX3_nearFaults_105 : decode cX3_nearFaults 105 = .ok (.istore 5, 2) := by decide +kernel
theorem dX3_nearFaults_107 : decode cX3_nearFaults 107 = .ok (.iload_n 3, 1) := by decide +kernel
theorem dX3_nearFaults_108 : decode cX3_nearFaults 108 = .ok (.ifCond .eq 24, 3) := by decide +kernel
theorem dX3_nearFaults_111 : decode cX3_nearFaults 111 = .ok (.iload_n 2, 1) := by decide +kernel
theorem dX3_nearFaults_112 : decode cX3_nearFaults 112 = .ok (.invokestatic 86, 3) := by decide +kernel
theorem dX3_nearFaults_115 : decode cX3_nearFaults 115 = .ok (.ifCond .eq 11, 3) := by decide +kernel
theorem dX3_nearFaults_118 : decode cX3_nearFaults 118 = .ok (.aload_n 0, 1) := by decide +kernel
theorem dX3_nearFaults_119 : decode cX3_nearFaults 119 = .ok (.iload_n 1, 1) := by decide +kernel
theorem dX3_nearFaults_120 : decode cX3_nearFaults 120 = .ok (.invokevirtual 89, 3) := by decide +kernel
theorem dX3_nearFaults_123 : decode cX3_nearFaults 123 = .ok (.ifCond .ne 9, 3) := by decide +kernel
theorem dX3_nearFaults_126 : decode cX3_nearFaults 126 = .ok (.iload 5, 2) := by decide +kernel
theorem dX3_nearFaults_128 : decode cX3_nearFaults 128 = .ok (.iconst 2, 1) := by decide +kernel
theorem dX3_nearFaults_129 : decode cX3_nearFaults 129 = .ok (.ior, 1) := by decide +kernel
theorem dX3_nearFaults_130 : decode cX3_nearFaults 130 = .ok (.istore 5, 2) := by decide +kernel
theorem dX3_nearFaults_132 : decode cX3_nearFaults 132 = .ok (.aload_n 0, 1) := by decide +kernel
theorem dX3_nearFaults_133 : decode cX3_nearFaults 133 = .ok (.getfield 7, 3) := by decide +kernel
theorem dX3_nearFaults_136 : decode cX3_nearFaults 136 = .ok (.iload_n 1, 1) := by decide +kernel
theorem dX3_nearFaults_137 : decode cX3_nearFaults 137 = .ok (.invokevirtual 92, 3) := by decide +kernel
theorem dX3_nearFaults_140 : decode cX3_nearFaults 140 = .ok (.ifCond .eq 16, 3) := by decide +kernel
theorem dX3_nearFaults_143 : decode cX3_nearFaults 143 = .ok (.iload_n 2, 1) := by decide +kernel
theorem dX3_nearFaults_144 : decode cX3_nearFaults 144 = .ok (.invokestatic 95, 3) := by decide +kernel
theorem dX3_nearFaults_147 : decode cX3_nearFaults 147 = .ok (.ifCond .eq 9, 3) := by decide +kernel
theorem dX3_nearFaults_150 : decode cX3_nearFaults 150 = .ok (.iload 5, 2) := by decide +kernel
theorem dX3_nearFaults_152 : decode cX3_nearFaults 152 = .ok (.iconst 4, 1) := by decide +kernel
theorem dX3_nearFaults_153 : decode cX3_nearFaults 153 = .ok (.ior, 1) := by decide +kernel
theorem dX3_nearFaults_154 : decode cX3_nearFaults 154 = .ok (.istore 5, 2) := by decide +kernel
theorem dX3_nearFaults_156 : decode cX3_nearFaults 156 = .ok (.aload_n 0, 1) := by decide +kernel
theorem dX3_nearFaults_157 : decode cX3_nearFaults 157 = .ok (.getfield 7, 3) := by decide +kernel
theorem dX3_nearFaults_160 : decode cX3_nearFaults 160 = .ok (.invokevirtual 98, 3) := by decide +kernel
theorem dX3_nearFaults_163 : decode cX3_nearFaults 163 = .ok (.ifCond .eq 11, 3) := by decide +kernel
theorem dX3_nearFaults_166 : decode cX3_nearFaults 166 = .ok (.iload 4, 2) := by decide +kernel
theorem dX3_nearFaults_168 : decode cX3_nearFaults 168 = .ok (.ifCond .le 19, 3) := by decide +kernel
theorem dX3_nearFaults_171 : decode cX3_nearFaults 171 = .ok (.goto 8, 3) := by decide +kernel
theorem dX3_nearFaults_174 : decode cX3_nearFaults 174 = .ok (.iload 4, 2) := by decide +kernel
theorem dX3_nearFaults_176 : decode cX3_nearFaults 176 = .ok (.ifCond .ge 11, 3) := by decide +kernel
theorem dX3_nearFaults_179 : decode cX3_nearFaults 179 = .ok (.iload 5, 2) := by decide +kernel
theorem dX3_nearFaults_181 : decode cX3_nearFaults 181 = .ok (.sipush 128, 3) := by decide +kernel
theorem dX3_nearFaults_184 : decode cX3_nearFaults 184 = .ok (.ior, 1) := by decide +kernel
theorem dX3_nearFaults_185 : decode cX3_nearFaults 185 = .ok (.istore 5, 2) := by decide +kernel
theorem dX3_nearFaults_187 : decode cX3_nearFaults 187 = .ok (.iload 4, 2) := by decide +kernel
theorem dX3_nearFaults_189 : decode cX3_nearFaults 189 = .ok (.ifCond .ne 19, 3) := by decide +kernel
theorem dX3_nearFaults_192 : decode cX3_nearFaults 192 = .ok (.iload_n 1, 1) := by decide +kernel
theorem dX3_nearFaults_193 : decode cX3_nearFaults 193 = .ok (.ifCond .le 15, 3) := by decide +kernel
theorem dX3_nearFaults_196 : decode cX3_nearFaults 196 = .ok (.iload_n 3, 1) := by decide +kernel
theorem dX3_nearFaults_197 : decode cX3_nearFaults 197 = .ok (.ifCond .ne 11, 3) := by decide +kernel
theorem dX3_nearFaults_200 : decode cX3_nearFaults 200 = .ok (.iload 5, 2) := by decide +kernel
theorem dX3_nearFaults_202 : decode cX3_nearFaults 202 = .ok (.sipush 256, 3) := by decide +kernel
theorem dX3_nearFaults_205 : decode cX3_nearFaults 205 = .ok (.ior, 1) := by decide +kernel
theorem dX3_nearFaults_206 : decode cX3_nearFaults 206 = .ok (.istore 5, 2) := by decide +kernel
theorem dX3_nearFaults_208 : decode cX3_nearFaults 208 = .ok (.iload 5, 2) := by decide +kernel
theorem dX3_nearFaults_210 : decode cX3_nearFaults 210 = .ok (.ireturn, 1) := by decide +kernel
theorem dX3_comesByContrarySteps_0 : decode cX3_comesByContrarySteps 0 = .ok (.aload_n 0, 1) := by decide +kernel
theorem dX3_comesByContrarySteps_1 : decode cX3_comesByContrarySteps 1 = .ok (.iload_n 1, 1) := by decide +kernel
theorem dX3_comesByContrarySteps_2 : decode cX3_comesByContrarySteps 2 = .ok (.invokevirtual 101, 3) := by decide +kernel
theorem dX3_comesByContrarySteps_5 : decode cX3_comesByContrarySteps 5 = .ok (.istore_n 2, 1) := by decide +kernel
theorem dX3_comesByContrarySteps_6 : decode cX3_comesByContrarySteps 6 = .ok (.iload_n 2, 1) := by decide +kernel
theorem dX3_comesByContrarySteps_7 : decode cX3_comesByContrarySteps 7 = .ok (.invokestatic 104, 3) := by decide +kernel
theorem dX3_comesByContrarySteps_10 : decode cX3_comesByContrarySteps 10 = .ok (.iconst 1, 1) := by decide +kernel
theorem dX3_comesByContrarySteps_11 : decode cX3_comesByContrarySteps 11 = .ok (.if_icmp .ne 20, 3) := by decide +kernel
theorem dX3_comesByContrarySteps_14 : decode cX3_comesByContrarySteps 14 = .ok (.aload_n 0, 1) := by decide +kernel
theorem dX3_comesByContrarySteps_15 : decode cX3_comesByContrarySteps 15 = .ok (.getfield 7, 3) := by decide +kernel
theorem dX3_comesByContrarySteps_18 : decode cX3_comesByContrarySteps 18 = .ok (.iload_n 1, 1) := by decide +kernel
theorem dX3_comesByContrarySteps_19 : decode cX3_comesByContrarySteps 19 = .ok (.invokevirtual 107, 3) := by decide +kernel
theorem dX3_comesByContrarySteps_22 : decode cX3_comesByContrarySteps 22 = .ok (.iload_n 2, 1) := by decide +kernel
theorem dX3_comesByContrarySteps_23 : decode cX3_comesByContrarySteps 23 = .ok (.ineg, 1) := by decide +kernel
theorem dX3_comesByContrarySteps_24 : decode cX3_comesByContrarySteps 24 = .ok (.if_icmp .ne 7, 3) := by decide +kernel
theorem dX3_comesByContrarySteps_27 : decode cX3_comesByContrarySteps 27 = .ok (.iconst 1, 1) := by decide +kernel
theorem dX3_comesByContrarySteps_28 : decode cX3_comesByContrarySteps 28 = .ok (.goto 4, 3) := by decide +kernel
theorem dX3_comesByContrarySteps_31 : decode cX3_comesByContrarySteps 31 = .ok (.iconst 0, 1) := by decide +kernel
theorem dX3_comesByContrarySteps_32 : decode cX3_comesByContrarySteps 32 = .ok (.ireturn, 1) := by decide +kernel
theorem dX3_parallels_0 : decode cX3_parallels 0 = .ok (.aload_n 0, 1) := by decide +kernel
theorem dX3_parallels_1 : decode cX3_parallels 1 = .ok (.iload_n 1, 1) := by decide +kernel
theorem dX3_parallels_2 : decode cX3_parallels 2 = .ok (.invokevirtual 101, 3) := by decide +kernel
theorem dX3_parallels_5 : decode cX3_parallels 5 = .ok (.istore 4, 2) := by decide +kernel
theorem dX3_parallels_7 : decode cX3_parallels 7 = .ok (.aload_n 0, 1) := by decide +kernel
theorem dX3_parallels_8 : decode cX3_parallels 8 = .ok (.getfield 7, 3) := by decide +kernel
theorem dX3_parallels_11 : decode cX3_parallels 11 = .ok (.iload_n 1, 1) := by decide +kernel
theorem dX3_parallels_12 : decode cX3_parallels 12 = .ok (.invokevirtual 107, 3) := by decide +kernel
theorem dX3_parallels_15 : decode cX3_parallels 15 = .ok (.istore 5, 2) := by decide +kernel
theorem dX3_parallels_17 : decode cX3_parallels 17 = .ok (.iload_n 2, 1) := by decide +kernel
theorem dX3_parallels_18 : decode cX3_parallels 18 = .ok (.invokestatic 77, 3) := by decide +kernel
theorem dX3_parallels_21 : decode cX3_parallels 21 = .ok (.ifCond .eq 13, 3) := by decide +kernel
theorem dX3_parallels_24 : decode cX3_parallels 24 = .ok (.iload 4, 2) := by decide +kernel
theorem dX3_parallels_26 : decode cX3_parallels 26 = .ok (.ifCond .eq 8, 3) := by decide +kernel
theorem dX3_parallels_29 : decode cX3_parallels 29 = .ok (.iload 5, 2) := by decide +kernel
theorem dX3_parallels_31 : decode cX3_parallels 31 = .ok (.ifCond .ne 5, 3) := by decide +kernel
theorem dX3_parallels_34 : decode cX3_parallels 34 = .ok (.iconst 0, 1) := by decide +kernel
theorem dX3_parallels_35 : decode cX3_parallels 35 = .ok (.ireturn, 1) := by decide +kernel
theorem dX3_parallels_36 : decode cX3_parallels 36 = .ok (.iload_n 2, 1) := by decide +kernel
theorem dX3_parallels_37 : decode cX3_parallels 37 = .ok (.iload_n 3, 1) := by decide +kernel
theorem dX3_parallels_38 : decode cX3_parallels 38 = .ok (.if_icmp .ne 8, 3) := by decide +kernel
theorem dX3_parallels_41 : decode cX3_parallels 41 = .ok (.bipush 16, 2) := by decide +kernel
theorem dX3_parallels_43 : decode cX3_parallels 43 = .ok (.goto 4, 3) := by decide +kernel
theorem dX3_parallels_46 : decode cX3_parallels 46 = .ok (.iconst 0, 1) := by decide +kernel
theorem dX3_parallels_47 : decode cX3_parallels 47 = .ok (.istore 6, 2) := by decide +kernel
theorem dX3_parallels_49 : decode cX3_parallels 49 = .ok (.iload 4, 2) := by decide +kernel
theorem dX3_parallels_51 : decode cX3_parallels 51 = .ok (.invokestatic 104, 3) := by decide +kernel
theorem dX3_parallels_54 : decode cX3_parallels 54 = .ok (.iconst 1, 1) := by decide +kernel
theorem dX3_parallels_55 : decode cX3_parallels 55 = .ok (.if_icmp .le 33, 3) := by decide +kernel
theorem dX3_parallels_58 : decode cX3_parallels 58 = .ok (.iload 4, 2) := by decide +kernel
theorem dX3_parallels_60 : decode cX3_parallels 60 = .ok (.ifCond .le 7, 3) := by decide +kernel
theorem dX3_parallels_63 : decode cX3_parallels 63 = .ok (.iconst 1, 1) := by decide +kernel
theorem dX3_parallels_64 : decode cX3_parallels 64 = .ok (.goto 4, 3) := by decide +kernel
theorem dX3_parallels_67 : decode cX3_parallels 67 = .ok (.iconst 0, 1) := by decide +kernel
theorem dX3_parallels_68 : decode cX3_parallels 68 = .ok (.iload 5, 2) := by decide +kernel
theorem dX3_parallels_70 : decode cX3_parallels 70 = .ok (.ifCond .le 7, 3) := by decide +kernel
theorem dX3_parallels_73 : decode cX3_parallels 73 = .ok (.iconst 1, 1) := by decide +kernel
theorem dX3_parallels_74 : decode cX3_parallels 74 = .ok (.goto 4, 3) := by decide +kernel
theorem dX3_parallels_77 : decode cX3_parallels 77 = .ok (.iconst 0, 1) := by decide +kernel
theorem dX3_parallels_78 : decode cX3_parallels 78 = .ok (.if_icmp .ne 10, 3) := by decide +kernel
theorem dX3_parallels_81 : decode cX3_parallels 81 = .ok (.iload 6, 2) := by decide +kernel
theorem dX3_parallels_83 : decode cX3_parallels 83 = .ok (.bipush 64, 2) := by decide +kernel
theorem dX3_parallels_85 : decode cX3_parallels 85 = .ok (.ior, 1) := by decide +kernel
theorem dX3_parallels_86 : decode cX3_parallels 86 = .ok (.istore 6, 2) := by decide +kernel
theorem dX3_parallels_88 : decode cX3_parallels 88 = .ok (.iload 6, 2) := by decide +kernel
theorem dX3_parallels_90 : decode cX3_parallels 90 = .ok (.ireturn, 1) := by decide +kernel
theorem dX3_moves_0 : decode cX3_moves 0 = .ok (.aload_n 0, 1) := by decide +kernel
theorem dX3_moves_1 : decode cX3_moves 1 = .ok (.iload_n 1, 1) := by decide +kernel
theorem dX3_moves_2 : decode cX3_moves 2 = .ok (.invokevirtual 101, 3) := by decide +kernel
theorem dX3_moves_5 : decode cX3_moves 5 = .ok (.invokestatic 104, 3) := by decide +kernel
theorem dX3_moves_8 : decode cX3_moves 8 = .ok (.istore_n 3, 1) := by decide +kernel
theorem dX3_moves_9 : decode cX3_moves 9 = .ok (.iload_n 3, 1) := by decide +kernel
theorem dX3_moves_10 : decode cX3_moves 10 = .ok (.ifCond .ne 7, 3) := by decide +kernel
theorem dX3_moves_13 : decode cX3_moves 13 = .ok (.sipush 512, 3) := by decide +kernel
theorem dX3_moves_16 : decode cX3_moves 16 = .ok (.ireturn, 1) := by decide +kernel
theorem dX3_moves_17 : decode cX3_moves 17 = .ok (.iload_n 2, 1) := by decide +kernel
theorem dX3_moves_18 : decode cX3_moves 18 = .ok (.invokestatic 104, 3) := by decide +kernel
theorem dX3_moves_21 : decode cX3_moves 21 = .ok (.istore 4, 2) := by decide +kernel
theorem dX3_moves_23 : decode cX3_moves 23 = .ok (.iload 4, 2) := by decide +kernel
theorem dX3_moves_25 : decode cX3_moves 25 = .ok (.bipush 6, 2) := by decide +kernel
theorem dX3_moves_27 : decode cX3_moves 27 = .ok (.if_icmp .eq 17, 3) := by decide +kernel
theorem dX3_moves_30 : decode cX3_moves 30 = .ok (.iload 4, 2) := by decide +kernel
theorem dX3_moves_32 : decode cX3_moves 32 = .ok (.bipush 10, 2) := by decide +kernel
theorem dX3_moves_34 : decode cX3_moves 34 = .ok (.if_icmp .eq 10, 3) := by decide +kernel
theorem dX3_moves_37 : decode cX3_moves 37 = .ok (.iload 4, 2) := by decide +kernel
theorem dX3_moves_39 : decode cX3_moves 39 = .ok (.bipush 11, 2) := by decide +kernel
theorem dX3_moves_41 : decode cX3_moves 41 = .ok (.if_icmp .ne 7, 3) := by decide +kernel
theorem dX3_moves_44 : decode cX3_moves 44 = .ok (.iconst 1, 1) := by decide +kernel
theorem dX3_moves_45 : decode cX3_moves 45 = .ok (.goto 4, 3) := by decide +kernel
theorem dX3_moves_48 : decode cX3_moves 48 = .ok (.iconst 0, 1) := by decide +kernel
theorem dX3_moves_49 : decode cX3_moves 49 = .ok (.istore 5, 2) := by decide +kernel
theorem dX3_moves_51 : decode cX3_moves 51 = .ok (.iload_n 3, 1) := by decide +kernel
theorem dX3_moves_52 : decode cX3_moves 52 = .ok (.iconst 1, 1) := by decide +kernel
theorem dX3_moves_53 : decode cX3_moves 53 = .ok (.if_icmp .le 26, 3) := by decide +kernel
theorem dX3_moves_56 : decode cX3_moves 56 = .ok (.iload_n 3, 1) := by decide +kernel
theorem dX3_moves_57 : decode cX3_moves 57 = .ok (.bipush 6, 2) := by decide +kernel
theorem dX3_moves_59 : decode cX3_moves 59 = .ok (.if_icmp .eq 14, 3) := by decide +kernel
theorem dX3_moves_62 : decode cX3_moves 62 = .ok (.iload_n 3, 1) := by decide +kernel
theorem dX3_moves_63 : decode cX3_moves 63 = .ok (.bipush 7, 2) := by decide +kernel
theorem dX3_moves_65 : decode cX3_moves 65 = .ok (.if_icmp .gt 8, 3) := by decide +kernel
theorem dX3_moves_68 : decode cX3_moves 68 = .ok (.iload 5, 2) := by decide +kernel
theorem dX3_moves_70 : decode cX3_moves 70 = .ok (.ifCond .eq 9, 3) := by decide +kernel
theorem dX3_moves_73 : decode cX3_moves 73 = .ok (.sipush 1024, 3) := by decide +kernel
theorem dX3_moves_76 : decode cX3_moves 76 = .ok (.goto 4, 3) := by decide +kernel
theorem dX3_moves_79 : decode cX3_moves 79 = .ok (.iconst 0, 1) := by decide +kernel
theorem dX3_moves_80 : decode cX3_moves 80 = .ok (.ireturn, 1) := by decide +kernel
theorem dX3_farFaults_0 : decode cX3_farFaults 0 = .ok (.iload_n 1, 1) := by decide +kernel
theorem dX3_farFaults_1 : decode cX3_farFaults 1 = .ok (.iconst 2, 1) := by decide +kernel
theorem dX3_farFaults_2 : decode cX3_farFaults 2 = .ok (.if_icmp .ge 5, 3) := by decide +kernel
theorem dX3_farFaults_5 : decode cX3_farFaults 5 = .ok (.iconst 0, 1) := by decide +kernel
theorem dX3_farFaults_6 : decode cX3_farFaults 6 = .ok (.ireturn, 1) := by decide +kernel
theorem dX3_farFaults_7 : decode cX3_farFaults 7 = .ok (.iconst 0, 1) := by decide +kernel
theorem dX3_farFaults_8 : decode cX3_farFaults 8 = .ok (.istore_n 2, 1) := by decide +kernel
theorem dX3_farFaults_9 : decode cX3_farFaults 9 = .ok (.aload_n 0, 1) := by decide +kernel
theorem dX3_farFaults_10 : decode cX3_farFaults 10 = .ok (.iload_n 1, 1) := by decide +kernel
theorem dX3_farFaults_11 : decode cX3_farFaults 11 = .ok (.iconst 1, 1) := by decide +kernel
theorem dX3_farFaults_12 : decode cX3_farFaults 12 = .ok (.isub, 1) := by decide +kernel
theorem dX3_farFaults_13 : decode cX3_farFaults 13 = .ok (.invokevirtual 101, 3) := by decide +kernel
theorem dX3_farFaults_16 : decode cX3_farFaults 16 = .ok (.istore_n 3, 1) := by decide +kernel
theorem dX3_farFaults_17 : decode cX3_farFaults 17 = .ok (.aload_n 0, 1) := by decide +kernel
theorem dX3_farFaults_18 : decode cX3_farFaults 18 = .ok (.iload_n 1, 1) := by decide +kernel
theorem dX3_farFaults_19 : decode cX3_farFaults 19 = .ok (.invokevirtual 101, 3) := by decide +kernel
theorem dX3_farFaults_22 : decode cX3_farFaults 22 = .ok (.istore 4, 2) := by decide +kernel
theorem dX3_farFaults_24 : decode cX3_farFaults 24 = .ok (.iload_n 3, 1) := by decide +kernel
theorem dX3_farFaults_25 : decode cX3_farFaults 25 = .ok (.invokestatic 104, 3) := by decide +kernel
theorem dX3_farFaults_28 : decode cX3_farFaults 28 = .ok (.iconst 4, 1) := by decide +kernel
theorem dX3_farFaults_29 : decode cX3_farFaults 29 = .ok (.if_icmp .lt 23, 3) := by decide +kernel
theorem dX3_farFaults_32 : decode cX3_farFaults 32 = .ok (.iload 4, 2) := by decide +kernel
theorem dX3_farFaults_34 : decode cX3_farFaults 34 = .ok (.iload_n 3, 1) := by decide +kernel
theorem dX3_farFaults_35 : decode cX3_farFaults 35 = .ok (.ifCond .le 7, 3) := by decide +kernel
theorem dX3_farFaults_38 : decode cX3_farFaults 38 = .ok (.iconst (-1), 1) := by decide +kernel
theorem dX3_farFaults_39 : decode cX3_farFaults 39 = .ok (.goto 4, 3) := by decide +kernel
theorem dX3_farFaults_42 : decode cX3_farFaults 42 = .ok (.iconst 1, 1) := by decide +kernel
theorem dX3_farFaults_43 : decode cX3_farFaults 43 = .ok (.if_icmp .eq 9, 3) := by decide +kernel
theorem dX3_farFaults_46 : decode cX3_farFaults 46 = .ok (.iload_n 2, 1) := by decide +kernel
theorem dX3_farFaults_47 : decode cX3_farFaults 47 = .ok (.sipush 2048, 3) := by decide +kernel
theorem dX3_farFaults_50 : decode cX3_farFaults 50 = .ok (.ior, 1) := by decide +kernel
theorem dX3_farFaults_51 : decode cX3_farFaults 51 = .ok (.istore_n 2, 1) := by decide +kernel
theorem dX3_farFaults_52 : decode cX3_farFaults 52 = .ok (.iload_n 3, 1) := by decide +kernel
theorem dX3_farFaults_53 : decode cX3_farFaults 53 = .ok (.invokestatic 104, 3) := by decide +kernel
theorem dX3_farFaults_56 : decode cX3_farFaults 56 = .ok (.iconst 1, 1) := by decide +kernel
theorem dX3_farFaults_57 : decode cX3_farFaults 57 = .ok (.if_icmp .ne 13, 3) := by decide +kernel
theorem dX3_farFaults_60 : decode cX3_farFaults 60 = .ok (.iload 4, 2) := by decide +kernel
theorem dX3_farFaults_62 : decode cX3_farFaults 62 = .ok (.iload_n 3, 1) := by decide +kernel
theorem dX3_farFaults_63 : decode cX3_farFaults 63 = .ok (.if_icmp .ne 7, 3) := by decide +kernel
theorem dX3_farFaults_66 : decode cX3_farFaults 66 = .ok (.iconst 1, 1) := by decide +kernel
theorem dX3_farFaults_67 : decode cX3_farFaults 67 = .ok (.goto 4, 3) := by decide +kernel
theorem dX3_farFaults_70 : decode cX3_farFaults 70 = .ok (.iconst 0, 1) := by decide +kernel
theorem dX3_farFaults_71 : decode cX3_farFaults 71 = .ok (.istore 5, 2) := by decide +kernel
theorem dX3_farFaults_73 : decode cX3_farFaults 73 = .ok (.iload 5, 2) := by decide +kernel
theorem dX3_farFaults_75 : decode cX3_farFaults 75 = .ok (.ifCond .ne 34, 3) := by decide +kernel
theorem dX3_farFaults_78 : decode cX3_farFaults 78 = .ok (.aload_n 0, 1) := by decide +kernel
theorem dX3_farFaults_79 : decode cX3_farFaults 79 = .ok (.getfield 7, 3) := by decide +kernel
theorem dX3_farFaults_82 : decode cX3_farFaults 82 = .ok (.iload_n 1, 1) := by decide +kernel
theorem dX3_farFaults_83 : decode cX3_farFaults 83 = .ok (.iconst 1, 1) := by decide +kernel
theorem dX3_farFaults_84 : decode cX3_farFaults 84 = .ok (.isub, 1) := by decide +kernel
theorem dX3_farFaults_85 : decode cX3_farFaults 85 = .ok (.invokevirtual 92, 3) := by decide +kernel
theorem dX3_farFaults_88 : decode cX3_farFaults 88 = .ok (.ifCond .ne 21, 3) := by decide +kernel
theorem dX3_farFaults_91 : decode cX3_farFaults 91 = .ok (.aload_n 0, 1) := by decide +kernel
theorem dX3_farFaults_92 : decode cX3_farFaults 92 = .ok (.iload_n 1, 1) := by decide +kernel
theorem dX3_farFaults_93 : decode cX3_farFaults 93 = .ok (.iconst 1, 1) := by decide +kernel
theorem dX3_farFaults_94 : decode cX3_farFaults 94 = .ok (.isub, 1) := by decide +kernel
theorem dX3_farFaults_95 : decode cX3_farFaults 95 = .ok (.invokevirtual 67, 3) := by decide +kernel
theorem dX3_farFaults_98 : decode cX3_farFaults 98 = .ok (.invokestatic 95, 3) := by decide +kernel
theorem dX3_farFaults_101 : decode cX3_farFaults 101 = .ok (.ifCond .eq 8, 3) := by decide +kernel
theorem dX3_farFaults_104 : decode cX3_farFaults 104 = .ok (.iload_n 2, 1) := by decide +kernel
theorem dX3_farFaults_105 : decode cX3_farFaults 105 = .ok (.bipush 8, 2) := by decide +kernel
theorem dX3_farFaults_107 : decode cX3_farFaults 107 = .ok (.ior, 1) := by decide +kernel
theorem dX3_farFaults_108 : decode cX3_farFaults 108 = .ok (.istore_n 2, 1) := by decide +kernel
theorem dX3_farFaults_109 : decode cX3_farFaults 109 = .ok (.aload_n 0, 1) := by decide +kernel
theorem dX3_farFaults_110 : decode cX3_farFaults 110 = .ok (.iload_n 1, 1) := by decide +kernel
theorem dX3_farFaults_111 : decode cX3_farFaults 111 = .ok (.invokevirtual 108, 3) := by decide +kernel
theorem dX3_farFaults_114 : decode cX3_farFaults 114 = .ok (.ifCond .eq 41, 3) := by decide +kernel
theorem dX3_farFaults_117 : decode cX3_farFaults 117 = .ok (.aload_n 0, 1) := by decide +kernel
theorem dX3_farFaults_118 : decode cX3_farFaults 118 = .ok (.iload_n 1, 1) := by decide +kernel
theorem dX3_farFaults_119 : decode cX3_farFaults 119 = .ok (.invokevirtual 67, 3) := by decide +kernel
theorem dX3_farFaults_122 : decode cX3_farFaults 122 = .ok (.istore 6, 2) := by decide +kernel
theorem dX3_farFaults_124 : decode cX3_farFaults 124 = .ok (.iload 6, 2) := by decide +kernel
theorem dX3_farFaults_126 : decode cX3_farFaults 126 = .ok (.invokestatic 77, 3) := by decide +kernel
theorem dX3_farFaults_129 : decode cX3_farFaults 129 = .ok (.ifCond .eq 26, 3) := by decide +kernel
theorem dX3_farFaults_132 : decode cX3_farFaults 132 = .ok (.iload 6, 2) := by decide +kernel
theorem dX3_farFaults_134 : decode cX3_farFaults 134 = .ok (.aload_n 0, 1) := by decide +kernel
theorem dX3_farFaults_135 : decode cX3_farFaults 135 = .ok (.iload_n 1, 1) := by decide +kernel
theorem dX3_farFaults_136 : decode cX3_farFaults 136 = .ok (.aload_n 0, 1) := by decide +kernel
theorem dX3_farFaults_137 : decode cX3_farFaults 137 = .ok (.getfield 7, 3) := by decide +kernel
theorem dX3_farFaults_140 : decode cX3_farFaults 140 = .ok (.invokevirtual 111, 3) := by decide +kernel
theorem dX3_farFaults_143 : decode cX3_farFaults 143 = .ok (.isub, 1) := by decide +kernel
theorem dX3_farFaults_144 : decode cX3_farFaults 144 = .ok (.invokevirtual 67, 3) := by decide +kernel
theorem dX3_farFaults_147 : decode cX3_farFaults 147 = .ok (.if_icmp .ne 8, 3) := by decide +kernel
theorem dX3_farFaults_150 : decode cX3_farFaults 150 = .ok (.iload_n 2, 1) := by decide +kernel
theorem dX3_farFaults_151 : decode cX3_farFaults 151 = .ok (.bipush 32, 2) := by decide +kernel
theorem dX3_farFaults_153 : decode cX3_farFaults 153 = .ok (.ior, 1) := by decide +kernel
theorem dX3_farFaults_154 : decode cX3_farFaults 154 = .ok (.istore_n 2, 1) := by decide +kernel
theorem dX3_farFaults_155 : decode cX3_farFaults 155 = .ok (.iload_n 2, 1) := by decide +kernel
theorem dX3_farFaults_156 : decode cX3_farFaults 156 = .ok (.ireturn, 1) := by decide +kernel
theorem dX3_bothMovedSinceStrong_0 : decode cX3_bothMovedSinceStrong 0 = .ok (.iload_n 1, 1) := by decide +kernel
theorem dX3_bothMovedSinceStrong_1 : decode cX3_bothMovedSinceStrong 1 = .ok (.aload_n 0, 1) := by decide +kernel
theorem dX3_bothMovedSinceStrong_2 : decode cX3_bothMovedSinceStrong 2 = .ok (.getfield 7, 3) := by decide +kernel
theorem dX3_bothMovedSinceStrong_5 : decode cX3_bothMovedSinceStrong 5 = .ok (.invokevirtual 111, 3) := by decide +kernel
theorem dX3_bothMovedSinceStrong_8 : decode cX3_bothMovedSinceStrong 8 = .ok (.isub, 1) := by decide +kernel
theorem dX3_bothMovedSinceStrong_9 : decode cX3_bothMovedSinceStrong 9 = .ok (.istore_n 2, 1) := by decide +kernel
theorem dX3_bothMovedSinceStrong_10 : decode cX3_bothMovedSinceStrong 10 = .ok (.aload_n 0, 1) := by decide +kernel
theorem dX3_bothMovedSinceStrong_11 : decode cX3_bothMovedSinceStrong 11 = .ok (.getfield 7, 3) := by decide +kernel
theorem dX3_bothMovedSinceStrong_14 : decode cX3_bothMovedSinceStrong 14 = .ok (.invokevirtual 111, 3) := by decide +kernel
theorem dX3_bothMovedSinceStrong_17 : decode cX3_bothMovedSinceStrong 17 = .ok (.iconst 1, 1) := by decide +kernel
theorem dX3_bothMovedSinceStrong_18 : decode cX3_bothMovedSinceStrong 18 = .ok (.if_icmp .eq 18, 3) := by decide +kernel
theorem dX3_bothMovedSinceStrong_21 : decode cX3_bothMovedSinceStrong 21 = .ok (.iload_n 2, 1) := by decide +kernel
theorem dX3_bothMovedSinceStrong_22 : decode cX3_bothMovedSinceStrong 22 = .ok (.ifCond .lt 14, 3) := by decide +kernel
theorem dX3_bothMovedSinceStrong_25 : decode cX3_bothMovedSinceStrong 25 = .ok (.aload_n 0, 1) := by decide +kernel
theorem dX3_bothMovedSinceStrong_26 : decode cX3_bothMovedSinceStrong 26 = .ok (.getfield 7, 3) := by decide +kernel
theorem dX3_bothMovedSinceStrong_29 : decode cX3_bothMovedSinceStrong 29 = .ok (.iload_n 1, 1) := by decide +kernel
theorem dX3_bothMovedSinceStrong_30 : decode cX3_bothMovedSinceStrong 30 = .ok (.invokevirtual 92, 3) := by decide +kernel
theorem dX3_bothMovedSinceStrong_33 : decode cX3_bothMovedSinceStrong 33 = .ok (.ifCond .ne 5, 3) := by decide +kernel
theorem dX3_bothMovedSinceStrong_36 : decode cX3_bothMovedSinceStrong 36 = .ok (.iconst 0, 1) := by decide +kernel
theorem dX3_bothMovedSinceStrong_37 : decode cX3_bothMovedSinceStrong 37 = .ok (.ireturn, 1) := by decide +kernel
theorem dX3_bothMovedSinceStrong_38 : decode cX3_bothMovedSinceStrong 38 = .ok (.aload_n 0, 1) := by decide +kernel
theorem dX3_bothMovedSinceStrong_39 : decode cX3_bothMovedSinceStrong 39 = .ok (.iload_n 1, 1) := by decide +kernel
theorem dX3_bothMovedSinceStrong_40 : decode cX3_bothMovedSinceStrong 40 = .ok (.invokevirtual 39, 3) := by decide +kernel
theorem dX3_bothMovedSinceStrong_43 : decode cX3_bothMovedSinceStrong 43 = .ok (.aload_n 0, 1) := by decide +kernel
theorem dX3_bothMovedSinceStrong_44 : decode cX3_bothMovedSinceStrong 44 = .ok (.iload_n 2, 1) := by decide +kernel
theorem dX3_bothMovedSinceStrong_45 : decode cX3_bothMovedSinceStrong 45 = .ok (.invokevirtual 39, 3) := by decide +kernel
theorem dX3_bothMovedSinceStrong_48 : decode cX3_bothMovedSinceStrong 48 = .ok (.if_icmp .eq 26, 3) := by decide +kernel
theorem dX3_bothMovedSinceStrong_51 : decode cX3_bothMovedSinceStrong 51 = .ok (.aload_n 0, 1) := by decide +kernel
theorem dX3_bothMovedSinceStrong_52 : decode cX3_bothMovedSinceStrong 52 = .ok (.getfield 7, 3) := by decide +kernel
theorem dX3_bothMovedSinceStrong_55 : decode cX3_bothMovedSinceStrong 55 = .ok (.iload_n 1, 1) := by decide +kernel
theorem dX3_bothMovedSinceStrong_56 : decode cX3_bothMovedSinceStrong 56 = .ok (.invokevirtual 52, 3) := by decide +kernel
theorem dX3_bothMovedSinceStrong_59 : decode cX3_bothMovedSinceStrong 59 = .ok (.aload_n 0, 1) := by decide +kernel
theorem dX3_bothMovedSinceStrong_60 : decode cX3_bothMovedSinceStrong 60 = .ok (.getfield 7, 3) := by decide +kernel
theorem dX3_bothMovedSinceStrong_63 : decode cX3_bothMovedSinceStrong 63 = .ok (.iload_n 2, 1) := by decide +kernel
theorem dX3_bothMovedSinceStrong_64 : decode cX3_bothMovedSinceStrong 64 = .ok (.invokevirtual 52, 3) := by decide +kernel
theorem dX3_bothMovedSinceStrong_67 : decode cX3_bothMovedSinceStrong 67 = .ok (.if_icmp .eq 7, 3) := by decide +kernel
theorem dX3_bothMovedSinceStrong_70 : decode cX3_bothMovedSinceStrong 70 = .ok (.iconst 1, 1) := by decide +kernel
theorem dX3_bothMovedSinceStrong_71 : decode cX3_bothMovedSinceStrong 71 = .ok (.goto 4, 3) := by decide +kernel
theorem dX3_bothMovedSinceStrong_74 : decode cX3_bothMovedSinceStrong 74 = .ok (.iconst 0, 1) := by decide +kernel
theorem dX3_bothMovedSinceStrong_75 : decode cX3_bothMovedSinceStrong 75 = .ok (.ireturn, 1) := by decide +kernel
theorem dX3_faultNumber_0 : decode cX3_faultNumber 0 = .ok (.iload_n 1, 1) := by decide +kernel
theorem dX3_faultNumber_1 : decode cX3_faultNumber 1 = .ok (.ifCond .ge 5, 3) := by decide +kernel
theorem dX3_faultNumber_4 : decode cX3_faultNumber 4 = .ok (.iconst (-1), 1) := by decide +kernel
theorem dX3_faultNumber_5 : decode cX3_faultNumber 5 = .ok (.ireturn, 1) := by decide +kernel
theorem dX3_faultNumber_6 : decode cX3_faultNumber 6 = .ok (.iload_n 1, 1) := by decide +kernel
theorem dX3_faultNumber_7 : decode cX3_faultNumber 7 = .ok (.istore_n 3, 1) := by decide +kernel
theorem dX3_faultNumber_8 : decode cX3_faultNumber 8 = .ok (.iconst 0, 1) := by decide +kernel
theorem dX3_faultNumber_9 : decode cX3_faultNumber 9 = .ok (.istore 4, 2) := by decide +kernel
theorem dX3_faultNumber_11 : decode cX3_faultNumber 11 = .ok (.iload 4, 2) := by decide +kernel
theorem dX3_faultNumber_13 : decode cX3_faultNumber 13 = .ok (.aload_n 0, 1) := by decide +kernel
theorem dX3_faultNumber_14 : decode cX3_faultNumber 14 = .ok (.getfield 17, 3) := by decide +kernel
theorem dX3_faultNumber_17 : decode cX3_faultNumber 17 = .ok (.if_icmp .ge 50, 3) := by decide +kernel
theorem dX3_faultNumber_20 : decode cX3_faultNumber 20 = .ok (.aload_n 0, 1) := by decide +kernel
theorem dX3_faultNumber_21 : decode cX3_faultNumber 21 = .ok (.iload 4, 2) := by decide +kernel
theorem dX3_faultNumber_23 : decode cX3_faultNumber 23 = .ok (.invokevirtual 114, 3) := by decide +kernel
theorem dX3_faultNumber_26 : decode cX3_faultNumber 26 = .ok (.iload_n 2, 1) := by decide +kernel
theorem dX3_faultNumber_27 : decode cX3_faultNumber 27 = .ok (.iand, 1) := by decide +kernel
theorem dX3_faultNumber_28 : decode cX3_faultNumber 28 = .ok (.istore 5, 2) := by decide +kernel
theorem dX3_faultNumber_30 : decode cX3_faultNumber 30 = .ok (.iload 5, 2) := by decide +kernel
theorem dX3_faultNumber_32 : decode cX3_faultNumber 32 = .ok (.invokestatic 117, 3) := by decide +kernel
theorem dX3_faultNumber_35 : decode cX3_faultNumber 35 = .ok (.istore 6, 2) := by decide +kernel
theorem dX3_faultNumber_37 : decode cX3_faultNumber 37 = .ok (.iload_n 3, 1) := by decide +kernel
theorem dX3_faultNumber_38 : decode cX3_faultNumber 38 = .ok (.iload 6, 2) := by decide +kernel
theorem dX3_faultNumber_40 : decode cX3_faultNumber 40 = .ok (.if_icmp .ge 16, 3) := by decide +kernel
theorem dX3_faultNumber_43 : decode cX3_faultNumber 43 = .ok (.iload 4, 2) := by decide +kernel
theorem dX3_faultNumber_45 : decode cX3_faultNumber 45 = .ok (.bipush 12, 2) := by decide +kernel
theorem dX3_faultNumber_47 : decode cX3_faultNumber 47 = .ok (.imul, 1) := by decide +kernel
theorem dX3_faultNumber_48 : decode cX3_faultNumber 48 = .ok (.iload 5, 2) := by decide +kernel
theorem dX3_faultNumber_50 : decode cX3_faultNumber 50 = .ok (.iload_n 3, 1) := by decide +kernel
theorem dX3_faultNumber_51 : decode cX3_faultNumber 51 = .ok (.invokestatic 122, 3) := by decide +kernel
theorem dX3_faultNumber_54 : decode cX3_faultNumber 54 = .ok (.iadd, 1) := by decide +kernel
theorem dX3_faultNumber_55 : decode cX3_faultNumber 55 = .ok (.ireturn, 1) := by decide +kernel
theorem dX3_faultNumber_56 : decode cX3_faultNumber 56 = .ok (.iload_n 3, 1) := by decide +kernel
theorem dX3_faultNumber_57 : decode cX3_faultNumber 57 = .ok (.iload 6, 2) := by decide +kernel
theorem dX3_faultNumber_59 : decode cX3_faultNumber 59 = .ok (.isub, 1) := by decide +kernel
theorem dX3_faultNumber_60 : decode cX3_faultNumber 60 = .ok (.istore_n 3, 1) := by decide +kernel
theorem dX3_faultNumber_61 : decode cX3_faultNumber 61 = .ok (.iinc 4 1, 3) := by decide +kernel
theorem dX3_faultNumber_64 : decode cX3_faultNumber 64 = .ok (.goto (-53), 3) := by decide +kernel
theorem dX3_faultNumber_67 : decode cX3_faultNumber 67 = .ok (.iconst (-1), 1) := by decide +kernel
theorem dX3_faultNumber_68 : decode cX3_faultNumber 68 = .ok (.ireturn, 1) := by decide +kernel
theorem dX3_costBetween_0 : decode cX3_costBetween 0 = .ok (.iconst 0, 1) := by decide +kernel
theorem dX3_costBetween_1 : decode cX3_costBetween 1 = .ok (.istore 4, 2) := by decide +kernel
theorem dX3_costBetween_3 : decode cX3_costBetween 3 = .ok (.iconst 0, 1) := by decide +kernel
theorem dX3_costBetween_4 : decode cX3_costBetween 4 = .ok (.iload_n 2, 1) := by decide +kernel
theorem dX3_costBetween_5 : decode cX3_costBetween 5 = .ok (.invokestatic 36, 3) := by decide +kernel
theorem dX3_costBetween_8 : decode cX3_costBetween 8 = .ok (.istore 5, 2) := by decide +kernel
theorem dX3_costBetween_10 : decode cX3_costBetween 10 = .ok (.iload 5, 2) := by decide +kernel
theorem dX3_costBetween_12 : decode cX3_costBetween 12 = .ok (.iload_n 3, 1) := by decide +kernel
theorem dX3_costBetween_13 : decode cX3_costBetween 13 = .ok (.if_icmp .gt 33, 3) := by decide +kernel
theorem dX3_costBetween_16 : decode cX3_costBetween 16 = .ok (.iload 5, 2) := by decide +kernel
theorem dX3_costBetween_18 : decode cX3_costBetween 18 = .ok (.aload_n 0, 1) := by decide +kernel
theorem dX3_costBetween_19 : decode cX3_costBetween 19 = .ok (.getfield 17, 3) := by decide +kernel
theorem dX3_costBetween_22 : decode cX3_costBetween 22 = .ok (.if_icmp .ge 24, 3) := by decide +kernel
theorem dX3_costBetween_25 : decode cX3_costBetween 25 = .ok (.iload 4, 2) := by decide +kernel
theorem dX3_costBetween_27 : decode cX3_costBetween 27 = .ok (.aload_n 1, 1) := by decide +kernel
theorem dX3_costBetween_28 : decode cX3_costBetween 28 = .ok (.aload_n 0, 1) := by decide +kernel
theorem dX3_costBetween_29 : decode cX3_costBetween 29 = .ok (.iload 5, 2) := by decide +kernel
theorem dX3_costBetween_31 : decode cX3_costBetween 31 = .ok (.invokevirtual 114, 3) := by decide +kernel
theorem dX3_costBetween_34 : decode cX3_costBetween 34 = .ok (.invokevirtual 125, 3) := by decide +kernel
theorem dX3_costBetween_37 : decode cX3_costBetween 37 = .ok (.iadd, 1) := by decide +kernel
theorem dX3_costBetween_38 : decode cX3_costBetween 38 = .ok (.istore 4, 2) := by decide +kernel
theorem dX3_costBetween_40 : decode cX3_costBetween 40 = .ok (.iinc 5 1, 3) := by decide +kernel
theorem dX3_costBetween_43 : decode cX3_costBetween 43 = .ok (.goto (-33), 3) := by decide +kernel
theorem dX3_costBetween_46 : decode cX3_costBetween 46 = .ok (.iload 4, 2) := by decide +kernel
theorem dX3_costBetween_48 : decode cX3_costBetween 48 = .ok (.ireturn, 1) := by decide +kernel
theorem dX3_isFree_0 : decode cX3_isFree 0 = .ok (.iconst 0, 1) := by decide +kernel
theorem dX3_isFree_1 : decode cX3_isFree 1 = .ok (.istore_n 2, 1) := by decide +kernel
theorem dX3_isFree_2 : decode cX3_isFree 2 = .ok (.iload_n 2, 1) := by decide +kernel
theorem dX3_isFree_3 : decode cX3_isFree 3 = .ok (.aload_n 0, 1) := by decide +kernel
theorem dX3_isFree_4 : decode cX3_isFree 4 = .ok (.getfield 17, 3) := by decide +kernel
theorem dX3_isFree_7 : decode cX3_isFree 7 = .ok (.if_icmp .ge 21, 3) := by decide +kernel
theorem dX3_isFree_10 : decode cX3_isFree 10 = .ok (.aload_n 0, 1) := by decide +kernel
theorem dX3_isFree_11 : decode cX3_isFree 11 = .ok (.iload_n 2, 1) := by decide +kernel
theorem dX3_isFree_12 : decode cX3_isFree 12 = .ok (.invokevirtual 114, 3) := by decide +kernel
theorem dX3_isFree_15 : decode cX3_isFree 15 = .ok (.iload_n 1, 1) := by decide +kernel
theorem dX3_isFree_16 : decode cX3_isFree 16 = .ok (.iand, 1) := by decide +kernel
theorem dX3_isFree_17 : decode cX3_isFree 17 = .ok (.ifCond .eq 5, 3) := by decide +kernel
theorem dX3_isFree_20 : decode cX3_isFree 20 = .ok (.iconst 0, 1) := by decide +kernel
theorem dX3_isFree_21 : decode cX3_isFree 21 = .ok (.ireturn, 1) := by decide +kernel
theorem dX3_isFree_22 : decode cX3_isFree 22 = .ok (.iinc 2 1, 3) := by decide +kernel
theorem dX3_isFree_25 : decode cX3_isFree 25 = .ok (.goto (-23), 3) := by decide +kernel
theorem dX3_isFree_28 : decode cX3_isFree 28 = .ok (.iconst 1, 1) := by decide +kernel
theorem dX3_isFree_29 : decode cX3_isFree 29 = .ok (.ireturn, 1) := by decide +kernel
theorem dX3_costAround_0 : decode cX3_costAround 0 = .ok (.aload_n 0, 1) := by decide +kernel
theorem dX3_costAround_1 : decode cX3_costAround 1 = .ok (.aload_n 1, 1) := by decide +kernel
theorem dX3_costAround_2 : decode cX3_costAround 2 = .ok (.iload_n 2, 1) := by decide +kernel
theorem dX3_costAround_3 : decode cX3_costAround 3 = .ok (.iconst 1, 1) := by decide +kernel
theorem dX3_costAround_4 : decode cX3_costAround 4 = .ok (.isub, 1) := by decide +kernel
theorem dX3_costAround_5 : decode cX3_costAround 5 = .ok (.iload_n 2, 1) := by decide +kernel
theorem dX3_costAround_6 : decode cX3_costAround 6 = .ok (.iconst 2, 1) := by decide +kernel
theorem dX3_costAround_7 : decode cX3_costAround 7 = .ok (.aload_n 0, 1) := by decide +kernel
theorem dX3_costAround_8 : decode cX3_costAround 8 = .ok (.getfield 7, 3) := by decide +kernel
theorem dX3_costAround_11 : decode cX3_costAround 11 = .ok (.invokevirtual 111, 3) := by decide +kernel
theorem dX3_costAround_14 : decode cX3_costAround 14 = .ok (.invokestatic 36, 3) := by decide +kernel
theorem dX3_costAround_17 : decode cX3_costAround 17 = .ok (.iadd, 1) := by decide +kernel
theorem dX3_costAround_18 : decode cX3_costAround 18 = .ok (.invokevirtual 128, 3) := by decide +kernel
theorem dX3_costAround_21 : decode cX3_costAround 21 = .ok (.ireturn, 1) := by decide +kernel
