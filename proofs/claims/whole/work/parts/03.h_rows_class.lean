set_option maxRecDepth 20000 in
theorem ggX6_init_X1_init : GoodIn wsX6_init wsX1_init := goodIn_r _ [18, 19, 2, 3, 20, 21, 22, 23, 40, 41, 42, 43, 44, 45, 46, 47] (by decide +kernel) (by decide +kernel)
set_option maxRecDepth 20000 in
theorem gX6_init_X1_init : GoodIn wsX6_init (wsX1_init) := ggX6_init_X1_init
set_option maxRecDepth 20000 in
theorem ggX6_init_X3_init : GoodIn wsX6_init wsX3_init := goodIn_r _ [26, 27, 2, 3, 28, 20, 29, 52, 53, 54] (by decide +kernel) (by decide +kernel)
set_option maxRecDepth 20000 in
theorem gX6_init_X3_init : GoodIn wsX6_init (wsX3_init) := ggX6_init_X3_init
set_option maxRecDepth 20000 in
theorem ggX6_init_X2_init : GoodIn wsX6_init wsX2_init := goodIn_r _ [32, 33, 2, 3, 20, 34, 35, 36, 37, 38, 39, 55, 56] (by decide +kernel) (by decide +kernel)
set_option maxRecDepth 20000 in
theorem gX6_init_X2_init : GoodIn wsX6_init (wsX2_init) := ggX6_init_X2_init
theorem dX6_init_0 : decode cX6_init 0 = .ok (.aload_n 0, 1) := by decide +kernel
theorem dX6_init_1 : decode cX6_init 1 = .ok (.invokespecial 1, 3) := by decide +kernel
theorem dX6_init_4 : decode cX6_init 4 = .ok (.aload_n 0, 1) := by decide +kernel
theorem dX6_init_5 : decode cX6_init 5 = .ok (.new 7, 3) := by decide +kernel
theorem dX6_init_8 : decode cX6_init 8 = .ok (.dup, 1) := by decide +kernel
theorem dX6_init_9 : decode cX6_init 9 = .ok (.invokespecial 9, 3) := by decide +kernel
theorem dX6_init_12 : decode cX6_init 12 = .ok (.putfield 10, 3) := by decide +kernel
theorem dX6_init_15 : decode cX6_init 15 = .ok (.aload_n 0, 1) := by decide +kernel
theorem dX6_init_16 : decode cX6_init 16 = .ok (.new 16, 3) := by decide +kernel
theorem dX6_init_19 : decode cX6_init 19 = .ok (.dup, 1) := by decide +kernel
theorem dX6_init_20 : decode cX6_init 20 = .ok (.aload_n 0, 1) := by decide +kernel
theorem dX6_init_21 : decode cX6_init 21 = .ok (.getfield 10, 3) := by decide +kernel
theorem dX6_init_24 : decode cX6_init 24 = .ok (.invokespecial 18, 3) := by decide +kernel
theorem dX6_init_27 : decode cX6_init 27 = .ok (.putfield 21, 3) := by decide +kernel
theorem dX6_init_30 : decode cX6_init 30 = .ok (.aload_n 0, 1) := by decide +kernel
theorem dX6_init_31 : decode cX6_init 31 = .ok (.new 25, 3) := by decide +kernel
theorem dX6_init_34 : decode cX6_init 34 = .ok (.dup, 1) := by decide +kernel
theorem dX6_init_35 : decode cX6_init 35 = .ok (.invokespecial 27, 3) := by decide +kernel
theorem dX6_init_38 : decode cX6_init 38 = .ok (.putfield 28, 3) := by decide +kernel
theorem dX6_init_41 : decode cX6_init 41 = .ok (.return_, 1) := by decide +kernel
set_option maxRecDepth 20000 in
theorem ggX6_given_X6_requireNote : GoodIn wsX6_given wsX6_requireNote := goodIn_ca (goodIn_r _ [9, 10, 11, 12, 13, 14, 15] (by decide +kernel) (by decide +kernel)) (goodIn_sub (fun _ h => List.mem_cons_of_mem _ (List.mem_append_left _ (List.mem_append_right _ h))) (by decide +kernel))
set_option maxRecDepth 20000 in
theorem gX6_given_X6_requireNote : GoodIn wsX6_given (wsV RX6 32 RX6 yX6_requireNote wsX6_requireNote) := goodIn_app (goodIn_of _ (by decide +kernel)) ggX6_given_X6_requireNote
set_option maxRecDepth 20000 in
theorem ggX6_given_X1_size : GoodIn wsX6_given wsX1_size := goodIn_r _ [20, 21, 46, 47, 48, 49, 50, 51, 52, 53] (by decide +kernel) (by decide +kernel)
set_option maxRecDepth 20000 in
theorem gX6_given_X1_size : GoodIn wsX6_given (wsV RX6 36 RX1 yX1_size wsX1_size) := goodIn_app (goodIn_of _ (by decide +kernel)) ggX6_given_X1_size
set_option maxRecDepth 20000 in
theorem ggX6_given_X1_append : GoodIn wsX6_given wsX1_append := goodIn_ca (goodIn_r _ [25, 21, 26, 27, 46, 47, 48, 49, 50, 51, 52, 53] (by decide +kernel) (by decide +kernel)) (goodIn_sub (fun _ h => List.mem_cons_of_mem _ (List.mem_append_right _ h)) (by decide +kernel))
set_option maxRecDepth 20000 in
theorem gX6_given_X1_append : GoodIn wsX6_given (wsV RX6 47 RX1 yX1_append wsX1_append) := goodIn_app (goodIn_of _ (by decide +kernel)) ggX6_given_X1_append
set_option maxRecDepth 20000 in
theorem ggX6_given_X3_stretch : GoodIn wsX6_given wsX3_stretch := goodIn_r _ [32, 33, 34, 35, 36, 37, 38, 39, 40, 41, 54, 55, 56] (by decide +kernel) (by decide +kernel)
set_option maxRecDepth 20000 in
theorem gX6_given_X3_stretch : GoodIn wsX6_given (wsV RX6 50 RX3 yX3_stretch wsX3_stretch) := goodIn_app (goodIn_of _ (by decide +kernel)) ggX6_given_X3_stretch
theorem dX6_given_0 : decode cX6_given 0 = .ok (.aload_n 0, 1) := by decide +kernel
theorem dX6_given_1 : decode cX6_given 1 = .ok (.iload_n 1, 1) := by decide +kernel
theorem dX6_given_2 : decode cX6_given 2 = .ok (.invokevirtual 32, 3) := by decide +kernel
theorem dX6_given_5 : decode cX6_given 5 = .ok (.aload_n 0, 1) := by decide +kernel
theorem dX6_given_6 : decode cX6_given 6 = .ok (.getfield 10, 3) := by decide +kernel
theorem dX6_given_9 : decode cX6_given 9 = .ok (.invokevirtual 36, 3) := by decide +kernel
theorem dX6_given_12 : decode cX6_given 12 = .ok (.bipush 14, 2) := by decide +kernel
theorem dX6_given_14 : decode cX6_given 14 = .ok (.if_icmp .lt 13, 3) := by decide +kernel
theorem dX6_given_17 : decode cX6_given 17 = .ok (.new 40, 3) := by decide +kernel
theorem dX6_given_20 : decode cX6_given 20 = .ok (.dup, 1) := by decide +kernel
theorem dX6_given_21 : decode cX6_given 21 = .ok (.ldc 42, 2) := by decide +kernel
theorem dX6_given_23 : decode cX6_given 23 = .ok (.invokespecial 44, 3) := by decide +kernel
theorem dX6_given_26 : decode cX6_given 26 = .ok (.athrow, 1) := by decide +kernel
theorem dX6_given_27 : decode cX6_given 27 = .ok (.aload_n 0, 1) := by decide +kernel
theorem dX6_given_28 : decode cX6_given 28 = .ok (.getfield 10, 3) := by decide +kernel
theorem dX6_given_31 : decode cX6_given 31 = .ok (.iload_n 1, 1) := by decide +kernel
theorem dX6_given_32 : decode cX6_given 32 = .ok (.invokevirtual 47, 3) := by decide +kernel
theorem dX6_given_35 : decode cX6_given 35 = .ok (.aload_n 0, 1) := by decide +kernel
theorem dX6_given_36 : decode cX6_given 36 = .ok (.getfield 21, 3) := by decide +kernel
theorem dX6_given_39 : decode cX6_given 39 = .ok (.iconst 0, 1) := by decide +kernel
theorem dX6_given_40 : decode cX6_given 40 = .ok (.invokevirtual 50, 3) := by decide +kernel
theorem dX6_given_43 : decode cX6_given 43 = .ok (.aload_n 0, 1) := by decide +kernel
theorem dX6_given_44 : decode cX6_given 44 = .ok (.getfield 10, 3) := by decide +kernel
theorem dX6_given_47 : decode cX6_given 47 = .ok (.invokevirtual 36, 3) := by decide +kernel
theorem dX6_given_50 : decode cX6_given 50 = .ok (.ireturn, 1) := by decide +kernel
set_option maxRecDepth 20000 in
theorem ggX6_other_X6_requireNote : GoodIn wsX6_other wsX6_requireNote := goodIn_ca (goodIn_r _ [8, 9, 10, 11, 12, 13, 14] (by decide +kernel) (by decide +kernel)) (goodIn_sub (fun _ h => List.mem_cons_of_mem _ (List.mem_append_left _ (List.mem_append_right _ h))) (by decide +kernel))
set_option maxRecDepth 20000 in
theorem gX6_other_X6_requireNote : GoodIn wsX6_other (wsV RX6 32 RX6 yX6_requireNote wsX6_requireNote) := goodIn_app (goodIn_of _ (by decide +kernel)) ggX6_other_X6_requireNote
set_option maxRecDepth 20000 in
theorem ggX6_other_X3_isFull : GoodIn wsX6_other wsX3_isFull := goodIn_r _ [19, 20, 21, 22, 23, 24, 25, 26, 27, 28, 42, 43, 44, 45, 46, 47, 48, 49, 50, 51, 52] (by decide +kernel) (by decide +kernel)
set_option maxRecDepth 20000 in
theorem gX6_other_X3_isFull : GoodIn wsX6_other (wsV RX6 53 RX3 yX3_isFull wsX3_isFull) := goodIn_app (goodIn_of _ (by decide +kernel)) ggX6_other_X3_isFull
set_option maxRecDepth 20000 in
theorem ggX6_other_X3_append : GoodIn wsX6_other wsX3_append := goodIn_ca (goodIn_r _ [32, 20, 33, 42, 43, 44] (by decide +kernel) (by decide +kernel)) (goodIn_sub (fun _ h => List.mem_cons_of_mem _ (List.mem_append_right _ h)) (by decide +kernel))
set_option maxRecDepth 20000 in
theorem gX6_other_X3_append : GoodIn wsX6_other (wsV RX6 59 RX3 yX3_append wsX3_append) := goodIn_app (goodIn_of _ (by decide +kernel)) ggX6_other_X3_append
set_option maxRecDepth 20000 in
theorem ggX6_other_X3_length : GoodIn wsX6_other wsX3_length := goodIn_r _ [37, 20, 42, 43, 44] (by decide +kernel) (by decide +kernel)
set_option maxRecDepth 20000 in
theorem gX6_other_X3_length : GoodIn wsX6_other (wsV RX6 60 RX3 yX3_length wsX3_length) := goodIn_app (goodIn_of _ (by decide +kernel)) ggX6_other_X3_length
theorem dX6_other_0 : decode cX6_other 0 = .ok (.aload_n 0, 1) := by decide +kernel
theorem dX6_other_1 : decode cX6_other 1 = .ok (.iload_n 1, 1) := by decide +kernel
theorem dX6_other_2 : decode cX6_other 2 = .ok (.invokevirtual 32, 3) := by decide +kernel
theorem dX6_other_5 : decode cX6_other 5 = .ok (.aload_n 0, 1) := by decide +kernel
theorem dX6_other_6 : decode cX6_other 6 = .ok (.getfield 21, 3) := by decide +kernel
theorem dX6_other_9 : decode cX6_other 9 = .ok (.invokevirtual 53, 3) := by decide +kernel
theorem dX6_other_12 : decode cX6_other 12 = .ok (.ifCond .eq 13, 3) := by decide +kernel
theorem dX6_other_15 : decode cX6_other 15 = .ok (.new 40, 3) := by decide +kernel
theorem dX6_other_18 : decode cX6_other 18 = .ok (.dup, 1) := by decide +kernel
theorem dX6_other_19 : decode cX6_other 19 = .ok (.ldc 57, 2) := by decide +kernel
theorem dX6_other_21 : decode cX6_other 21 = .ok (.invokespecial 44, 3) := by decide +kernel
theorem dX6_other_24 : decode cX6_other 24 = .ok (.athrow, 1) := by decide +kernel
theorem dX6_other_25 : decode cX6_other 25 = .ok (.aload_n 0, 1) := by decide +kernel
theorem dX6_other_26 : decode cX6_other 26 = .ok (.getfield 21, 3) := by decide +kernel
theorem dX6_other_29 : decode cX6_other 29 = .ok (.iload_n 1, 1) := by decide +kernel
theorem dX6_other_30 : decode cX6_other 30 = .ok (.invokevirtual 59, 3) := by decide +kernel
theorem dX6_other_33 : decode cX6_other 33 = .ok (.aload_n 0, 1) := by decide +kernel
theorem dX6_other_34 : decode cX6_other 34 = .ok (.getfield 21, 3) := by decide +kernel
theorem dX6_other_37 : decode cX6_other 37 = .ok (.invokevirtual 60, 3) := by decide +kernel
theorem dX6_other_40 : decode cX6_other 40 = .ok (.ireturn, 1) := by decide +kernel
set_option maxRecDepth 20000 in
theorem ggX6_change_X6_requireIndex : GoodIn wsX6_change wsX6_requireIndex := goodIn_ca (goodIn_r _ [6, 7, 8, 1, 9, 10, 11, 12, 13, 14, 34, 35, 36, 37, 38, 39, 40] (by decide +kernel) (by decide +kernel)) (goodIn_sub (fun _ h => List.mem_cons_of_mem _ (List.mem_append_left _ (List.mem_append_left _ (List.mem_append_right _ h)))) (by decide +kernel))
set_option maxRecDepth 20000 in
theorem gX6_change_X6_requireIndex : GoodIn wsX6_change (wsV RX6 63 RX6 yX6_requireIndex wsX6_requireIndex) := goodIn_app (goodIn_of _ (by decide +kernel)) ggX6_change_X6_requireIndex
set_option maxRecDepth 20000 in
theorem ggX6_change_X6_requireNote : GoodIn wsX6_change wsX6_requireNote := goodIn_ca (goodIn_r _ [18, 19, 20, 21, 22, 23, 24] (by decide +kernel) (by decide +kernel)) (goodIn_sub (fun _ h => List.mem_cons_of_mem _ (List.mem_append_left _ (List.mem_append_right _ h))) (by decide +kernel))
set_option maxRecDepth 20000 in
theorem gX6_change_X6_requireNote : GoodIn wsX6_change (wsV RX6 32 RX6 yX6_requireNote wsX6_requireNote) := goodIn_app (goodIn_of _ (by decide +kernel)) ggX6_change_X6_requireNote
set_option maxRecDepth 20000 in
theorem ggX6_change_X3_toneAt : GoodIn wsX6_change wsX3_toneAt := goodIn_ca (goodIn_r _ [28, 29, 38, 39, 40] (by decide +kernel) (by decide +kernel)) (goodIn_sub (fun _ h => List.mem_cons_of_mem _ (List.mem_append_right _ h)) (by decide +kernel))
set_option maxRecDepth 20000 in
theorem gX6_change_X3_toneAt : GoodIn wsX6_change (wsV RX6 66 RX3 yX3_toneAt wsX3_toneAt) := goodIn_app (goodIn_of _ (by decide +kernel)) ggX6_change_X3_toneAt
set_option maxRecDepth 20000 in
theorem ggX6_change_X3_put : GoodIn wsX6_change wsX3_put := goodIn_ca (goodIn_r _ [33, 29, 38, 39, 40] (by decide +kernel) (by decide +kernel)) (goodIn_sub (fun _ h => List.mem_cons_of_mem _ (List.mem_append_right _ h)) (by decide +kernel))
set_option maxRecDepth 20000 in
theorem gX6_change_X3_put : GoodIn wsX6_change (wsV RX6 70 RX3 yX3_put wsX3_put) := goodIn_app (goodIn_of _ (by decide +kernel)) ggX6_change_X3_put
theorem dX6_change_0 : decode cX6_change 0 = .ok (.aload_n 0, 1) := by decide +kernel
theorem dX6_change_1 : decode cX6_change 1 = .ok (.iload_n 1, 1) := by decide +kernel
theorem dX6_change_2 : decode cX6_change 2 = .ok (.invokevirtual 63, 3) := by decide +kernel
theorem dX6_change_5 : decode cX6_change 5 = .ok (.aload_n 0, 1) := by decide +kernel
theorem dX6_change_6 : decode cX6_change 6 = .ok (.iload_n 2, 1) := by decide +kernel
theorem dX6_change_7 : decode cX6_change 7 = .ok (.invokevirtual 32, 3) := by decide +kernel
theorem dX6_change_10 : decode cX6_change 10 = .ok (.aload_n 0, 1) := by decide +kernel
theorem dX6_change_11 : decode cX6_change 11 = .ok (.getfield 21, 3) := by decide +kernel
theorem dX6_change_14 : decode cX6_change 14 = .ok (.iload_n 1, 1) := by decide +kernel
theorem dX6_change_15 : decode cX6_change 15 = .ok (.invokevirtual 66, 3) := by decide +kernel
theorem dX6_change_18 : decode cX6_change 18 = .ok (.istore_n 3, 1) := by decide +kernel
theorem dX6_change_19 : decode cX6_change 19 = .ok (.aload_n 0, 1) := by decide +kernel
theorem dX6_change_20 : decode cX6_change 20 = .ok (.getfield 21, 3) := by decide +kernel
theorem dX6_change_23 : decode cX6_change 23 = .ok (.iload_n 1, 1) := by decide +kernel
theorem dX6_change_24 : decode cX6_change 24 = .ok (.iload_n 2, 1) := by decide +kernel
theorem dX6_change_25 : decode cX6_change 25 = .ok (.invokevirtual 70, 3) := by decide +kernel
theorem dX6_change_28 : decode cX6_change 28 = .ok (.iload_n 3, 1) := by decide +kernel
theorem dX6_change_29 : decode cX6_change 29 = .ok (.ireturn, 1) := by decide +kernel
set_option maxRecDepth 20000 in
theorem ggX6_clear_X3_length : GoodIn wsX6_clear wsX3_length := goodIn_r _ [7, 8, 32, 33, 34] (by decide +kernel) (by decide +kernel)
set_option maxRecDepth 20000 in
theorem gX6_clear_X3_length : GoodIn wsX6_clear (wsV RX6 60 RX3 yX3_length wsX3_length) := goodIn_app (goodIn_of _ (by decide +kernel)) ggX6_clear_X3_length
set_option maxRecDepth 20000 in
theorem ggX6_clear_X3_stretch : GoodIn wsX6_clear wsX3_stretch := goodIn_r _ [12, 13, 14, 15, 16, 17, 18, 19, 20, 8, 32, 33, 34] (by decide +kernel) (by decide +kernel)
set_option maxRecDepth 20000 in
theorem gX6_clear_X3_stretch : GoodIn wsX6_clear (wsV RX6 50 RX3 yX3_stretch wsX3_stretch) := goodIn_app (goodIn_of _ (by decide +kernel)) ggX6_clear_X3_stretch
set_option maxRecDepth 20000 in
theorem ggX6_clear_X1_empty : GoodIn wsX6_clear wsX1_empty := goodIn_r _ [25, 26, 27, 35, 36, 37, 38, 39, 40, 41, 42] (by decide +kernel) (by decide +kernel)
set_option maxRecDepth 20000 in
theorem gX6_clear_X1_empty : GoodIn wsX6_clear (wsV RX6 74 RX1 yX1_empty wsX1_empty) := goodIn_app (goodIn_of _ (by decide +kernel)) ggX6_clear_X1_empty
theorem dX6_clear_0 : decode cX6_clear 0 = .ok (.aload_n 0, 1) := by decide +kernel
theorem dX6_clear_1 : decode cX6_clear 1 = .ok (.getfield 21, 3) := by decide +kernel
theorem dX6_clear_4 : decode cX6_clear 4 = .ok (.invokevirtual 60, 3) := by decide +kernel
theorem dX6_clear_7 : decode cX6_clear 7 = .ok (.istore_n 2, 1) := by decide +kernel
theorem dX6_clear_8 : decode cX6_clear 8 = .ok (.aload_n 0, 1) := by decide +kernel
theorem dX6_clear_9 : decode cX6_clear 9 = .ok (.getfield 21, 3) := by decide +kernel
theorem dX6_clear_12 : decode cX6_clear 12 = .ok (.iconst 0, 1) := by decide +kernel
theorem dX6_clear_13 : decode cX6_clear 13 = .ok (.invokevirtual 50, 3) := by decide +kernel
theorem dX6_clear_16 : decode cX6_clear 16 = .ok (.iload_n 1, 1) := by decide +kernel
theorem dX6_clear_17 : decode cX6_clear 17 = .ok (.ifCond .eq 10, 3) := by decide +kernel
theorem dX6_clear_20 : decode cX6_clear 20 = .ok (.aload_n 0, 1) := by decide +kernel
theorem dX6_clear_21 : decode cX6_clear 21 = .ok (.getfield 10, 3) := by decide +kernel
theorem dX6_clear_24 : decode cX6_clear 24 = .ok (.invokevirtual 74, 3) := by decide +kernel
theorem dX6_clear_27 : decode cX6_clear 27 = .ok (.iload_n 2, 1) := by decide +kernel
theorem dX6_clear_28 : decode cX6_clear 28 = .ok (.ireturn, 1) := by decide +kernel
set_option maxRecDepth 20000 in
theorem ggX6_ratio_X1_perGiven : GoodIn wsX6_ratio wsX1_perGiven := goodIn_r _ [9, 10, 34, 35, 36, 37, 38, 39, 40, 41] (by decide +kernel) (by decide +kernel)
set_option maxRecDepth 20000 in
theorem gX6_ratio_X1_perGiven : GoodIn wsX6_ratio (wsV RX6 82 RX1 yX1_perGiven wsX1_perGiven) := goodIn_app (goodIn_of _ (by decide +kernel)) ggX6_ratio_X1_perGiven
set_option maxRecDepth 20000 in
theorem ggX6_ratio_X1_setPerGiven : GoodIn wsX6_ratio wsX1_setPerGiven := goodIn_r _ [14, 10, 15, 34, 35, 36, 37, 38, 39, 40, 41] (by decide +kernel) (by decide +kernel)
set_option maxRecDepth 20000 in
theorem gX6_ratio_X1_setPerGiven : GoodIn wsX6_ratio (wsV RX6 85 RX1 yX1_setPerGiven wsX1_setPerGiven) := goodIn_app (goodIn_of _ (by decide +kernel)) ggX6_ratio_X1_setPerGiven
set_option maxRecDepth 20000 in
theorem ggX6_ratio_X3_stretch : GoodIn wsX6_ratio wsX3_stretch := goodIn_r _ [20, 21, 22, 23, 24, 25, 26, 27, 28, 29, 42, 43, 44] (by decide +kernel) (by decide +kernel)
set_option maxRecDepth 20000 in
theorem gX6_ratio_X3_stretch : GoodIn wsX6_ratio (wsV RX6 50 RX3 yX3_stretch wsX3_stretch) := goodIn_app (goodIn_of _ (by decide +kernel)) ggX6_ratio_X3_stretch
theorem dX6_ratio_0 : decode cX6_ratio 0 = .ok (.iload_n 1, 1) := by decide +kernel
theorem dX6_ratio_1 : decode cX6_ratio 1 = .ok (.iconst 1, 1) := by decide +kernel
theorem dX6_ratio_2 : decode cX6_ratio 2 = .ok (.if_icmp .eq 23, 3) := by decide +kernel
theorem dX6_ratio_5 : decode cX6_ratio 5 = .ok (.iload_n 1, 1) := by decide +kernel
theorem dX6_ratio_6 : decode cX6_ratio 6 = .ok (.iconst 2, 1) := by decide +kernel
theorem dX6_ratio_7 : decode cX6_ratio 7 = .ok (.if_icmp .eq 18, 3) := by decide +kernel
theorem dX6_ratio_10 : decode cX6_ratio 10 = .ok (.iload_n 1, 1) := by decide +kernel
theorem dX6_ratio_11 : decode cX6_ratio 11 = .ok (.iconst 4, 1) := by decide +kernel
theorem dX6_ratio_12 : decode cX6_ratio 12 = .ok (.if_icmp .eq 13, 3) := by decide +kernel
theorem dX6_ratio_15 : decode cX6_ratio 15 = .ok (.new 77, 3) := by decide +kernel
theorem dX6_ratio_18 : decode cX6_ratio 18 = .ok (.dup, 1) := by decide +kernel
theorem dX6_ratio_19 : decode cX6_ratio 19 = .ok (.ldc 79, 2) := by decide +kernel
theorem dX6_ratio_21 : decode cX6_ratio 21 = .ok (.invokespecial 81, 3) := by decide +kernel
theorem dX6_ratio_24 : decode cX6_ratio 24 = .ok (.athrow, 1) := by decide +kernel
theorem dX6_ratio_25 : decode cX6_ratio 25 = .ok (.aload_n 0, 1) := by decide +kernel
theorem dX6_ratio_26 : decode cX6_ratio 26 = .ok (.getfield 10, 3) := by decide +kernel
theorem dX6_ratio_29 : decode cX6_ratio 29 = .ok (.invokevirtual 82, 3) := by decide +kernel
theorem dX6_ratio_32 : decode cX6_ratio 32 = .ok (.istore_n 2, 1) := by decide +kernel
theorem dX6_ratio_33 : decode cX6_ratio 33 = .ok (.aload_n 0, 1) := by decide +kernel
theorem dX6_ratio_34 : decode cX6_ratio 34 = .ok (.getfield 10, 3) := by decide +kernel
theorem dX6_ratio_37 : decode cX6_ratio 37 = .ok (.iload_n 1, 1) := by decide +kernel
theorem dX6_ratio_38 : decode cX6_ratio 38 = .ok (.invokevirtual 85, 3) := by decide +kernel
theorem dX6_ratio_41 : decode cX6_ratio 41 = .ok (.aload_n 0, 1) := by decide +kernel
theorem dX6_ratio_42 : decode cX6_ratio 42 = .ok (.getfield 21, 3) := by decide +kernel
theorem dX6_ratio_45 : decode cX6_ratio 45 = .ok (.iconst 0, 1) := by decide +kernel
theorem dX6_ratio_46 : decode cX6_ratio 46 = .ok (.invokevirtual 50, 3) := by decide +kernel
theorem dX6_ratio_49 : decode cX6_ratio 49 = .ok (.iload_n 2, 1) := by decide +kernel
theorem dX6_ratio_50 : decode cX6_ratio 50 = .ok (.ireturn, 1) := by decide +kernel
set_option maxRecDepth 20000 in
theorem ggX6_lower_X1_isBelow : GoodIn wsX6_lower wsX1_isBelow := goodIn_r _ [6, 7, 17, 18, 19, 20, 21, 22, 23, 24] (by decide +kernel) (by decide +kernel)
set_option maxRecDepth 20000 in
theorem gX6_lower_X1_isBelow : GoodIn wsX6_lower (wsV RX6 88 RX1 yX1_isBelow wsX1_isBelow) := goodIn_app (goodIn_of _ (by decide +kernel)) ggX6_lower_X1_isBelow
set_option maxRecDepth 20000 in
theorem ggX6_lower_X1_setBelow : GoodIn wsX6_lower wsX1_setBelow := goodIn_r _ [11, 7, 12, 17, 18, 19, 20, 21, 22, 23, 24] (by decide +kernel) (by decide +kernel)
set_option maxRecDepth 20000 in
theorem gX6_lower_X1_setBelow : GoodIn wsX6_lower (wsV RX6 91 RX1 yX1_setBelow wsX1_setBelow) := goodIn_app (goodIn_of _ (by decide +kernel)) ggX6_lower_X1_setBelow
theorem dX6_lower_0 : decode cX6_lower 0 = .ok (.aload_n 0, 1) := by decide +kernel
theorem dX6_lower_1 : decode cX6_lower 1 = .ok (.getfield 10, 3) := by decide +kernel
theorem dX6_lower_4 : decode cX6_lower 4 = .ok (.invokevirtual 88, 3) := by decide +kernel
theorem dX6_lower_7 : decode cX6_lower 7 = .ok (.istore_n 2, 1) := by decide +kernel
theorem dX6_lower_8 : decode cX6_lower 8 = .ok (.aload_n 0, 1) := by decide +kernel
theorem dX6_lower_9 : decode cX6_lower 9 = .ok (.getfield 10, 3) := by decide +kernel
theorem dX6_lower_12 : decode cX6_lower 12 = .ok (.iload_n 1, 1) := by decide +kernel
theorem dX6_lower_13 : decode cX6_lower 13 = .ok (.invokevirtual 91, 3) := by decide +kernel
theorem dX6_lower_16 : decode cX6_lower 16 = .ok (.iload_n 2, 1) := by decide +kernel
theorem dX6_lower_17 : decode cX6_lower 17 = .ok (.ireturn, 1) := by decide +kernel
set_option maxRecDepth 20000 in
theorem ggX6_feign_X1_isFeigning : GoodIn wsX6_feign wsX1_isFeigning := goodIn_r _ [6, 7, 17, 18, 19, 20, 21, 22, 23, 24] (by decide +kernel) (by decide +kernel)
set_option maxRecDepth 20000 in
theorem gX6_feign_X1_isFeigning : GoodIn wsX6_feign (wsV RX6 95 RX1 yX1_isFeigning wsX1_isFeigning) := goodIn_app (goodIn_of _ (by decide +kernel)) ggX6_feign_X1_isFeigning
set_option maxRecDepth 20000 in
theorem ggX6_feign_X1_setFeigning : GoodIn wsX6_feign wsX1_setFeigning := goodIn_r _ [11, 7, 12, 17, 18, 19, 20, 21, 22, 23, 24] (by decide +kernel) (by decide +kernel)
set_option maxRecDepth 20000 in
theorem gX6_feign_X1_setFeigning : GoodIn wsX6_feign (wsV RX6 98 RX1 yX1_setFeigning wsX1_setFeigning) := goodIn_app (goodIn_of _ (by decide +kernel)) ggX6_feign_X1_setFeigning
theorem dX6_feign_0 : decode cX6_feign 0 = .ok (.aload_n 0, 1) := by decide +kernel
theorem dX6_feign_1 : decode cX6_feign 1 = .ok (.getfield 10, 3) := by decide +kernel
theorem dX6_feign_4 : decode cX6_feign 4 = .ok (.invokevirtual 95, 3) := by decide +kernel
theorem dX6_feign_7 : decode cX6_feign 7 = .ok (.istore_n 2, 1) := by decide +kernel
theorem dX6_feign_8 : decode cX6_feign 8 = .ok (.aload_n 0, 1) := by decide +kernel
theorem dX6_feign_9 : decode cX6_feign 9 = .ok (.getfield 10, 3) := by decide +kernel
theorem dX6_feign_12 : decode cX6_feign 12 = .ok (.iload_n 1, 1) := by decide +kernel
theorem dX6_feign_13 : decode cX6_feign 13 = .ok (.invokevirtual 98, 3) := by decide +kernel
theorem dX6_feign_16 : decode cX6_feign 16 = .ok (.iload_n 2, 1) := by decide +kernel
theorem dX6_feign_17 : decode cX6_feign 17 = .ok (.ireturn, 1) := by decide +kernel
set_option maxRecDepth 20000 in
theorem ggX6_notes_X3_length : GoodIn wsX6_notes wsX3_length := goodIn_r _ [6, 7, 12, 13, 14] (by decide +kernel) (by decide +kernel)
set_option maxRecDepth 20000 in
theorem gX6_notes_X3_length : GoodIn wsX6_notes (wsV RX6 60 RX3 yX3_length wsX3_length) := goodIn_app (goodIn_of _ (by decide +kernel)) ggX6_notes_X3_length
theorem dX6_notes_0 : decode cX6_notes 0 = .ok (.aload_n 0, 1) := by decide +kernel
theorem dX6_notes_1 : decode cX6_notes 1 = .ok (.getfield 21, 3) := by decide +kernel
theorem dX6_notes_4 : decode cX6_notes 4 = .ok (.invokevirtual 60, 3) := by decide +kernel
theorem dX6_notes_7 : decode cX6_notes 7 = .ok (.ireturn, 1) := by decide +kernel
set_option maxRecDepth 20000 in
theorem ggX6_noteAt_X6_requireIndex : GoodIn wsX6_noteAt wsX6_requireIndex := goodIn_ca (goodIn_r _ [6, 7, 8, 1, 9, 10, 11, 12, 13, 14, 20, 21, 22, 23, 24, 25, 26] (by decide +kernel) (by decide +kernel)) (goodIn_sub (fun _ h => List.mem_cons_of_mem _ (List.mem_append_left _ (List.mem_append_right _ h))) (by decide +kernel))
set_option maxRecDepth 20000 in
theorem gX6_noteAt_X6_requireIndex : GoodIn wsX6_noteAt (wsV RX6 63 RX6 yX6_requireIndex wsX6_requireIndex) := goodIn_app (goodIn_of _ (by decide +kernel)) ggX6_noteAt_X6_requireIndex
set_option maxRecDepth 20000 in
theorem ggX6_noteAt_X3_toneAt : GoodIn wsX6_noteAt wsX3_toneAt := goodIn_ca (goodIn_r _ [18, 19, 24, 25, 26] (by decide +kernel) (by decide +kernel)) (goodIn_sub (fun _ h => List.mem_cons_of_mem _ (List.mem_append_right _ h)) (by decide +kernel))
set_option maxRecDepth 20000 in
theorem gX6_noteAt_X3_toneAt : GoodIn wsX6_noteAt (wsV RX6 66 RX3 yX3_toneAt wsX3_toneAt) := goodIn_app (goodIn_of _ (by decide +kernel)) ggX6_noteAt_X3_toneAt
theorem dX6_noteAt_0 : decode cX6_noteAt 0 = .ok (.aload_n 0, 1) := by decide +kernel
theorem dX6_noteAt_1 : decode cX6_noteAt 1 = .ok (.iload_n 1, 1) := by decide +kernel
theorem dX6_noteAt_2 : decode cX6_noteAt 2 = .ok (.invokevirtual 63, 3) := by decide +kernel
theorem dX6_noteAt_5 : decode cX6_noteAt 5 = .ok (.aload_n 0, 1) := by decide +kernel
theorem dX6_noteAt_6 : decode cX6_noteAt 6 = .ok (.getfield 21, 3) := by decide +kernel
theorem dX6_noteAt_9 : decode cX6_noteAt 9 = .ok (.iload_n 1, 1) := by decide +kernel
theorem dX6_noteAt_10 : decode cX6_noteAt 10 = .ok (.invokevirtual 66, 3) := by decide +kernel
theorem dX6_noteAt_13 : decode cX6_noteAt 13 = .ok (.ireturn, 1) := by decide +kernel
set_option maxRecDepth 20000 in
theorem ggX6_pitch_X6_requireIndex : GoodIn wsX6_pitch wsX6_requireIndex := goodIn_ca (goodIn_r _ [6, 7, 8, 1, 9, 10, 11, 12, 13, 14, 41, 42, 43, 44, 45, 46, 47] (by decide +kernel) (by decide +kernel)) (goodIn_sub (fun _ h => List.mem_cons_of_mem _ (List.mem_append_left _ (List.mem_append_right _ h))) (by decide +kernel))
set_option maxRecDepth 20000 in
theorem gX6_pitch_X6_requireIndex : GoodIn wsX6_pitch (wsV RX6 63 RX6 yX6_requireIndex wsX6_requireIndex) := goodIn_app (goodIn_of _ (by decide +kernel)) ggX6_pitch_X6_requireIndex
set_option maxRecDepth 20000 in
theorem ggX6_pitch_X3_heightAt : GoodIn wsX6_pitch wsX3_heightAt := goodIn_ca (goodIn_r _ [18, 19, 14, 20, 21, 22, 12, 23, 24, 25, 26, 27, 28, 29, 30, 31, 32, 33, 34, 35, 36, 37, 38, 39, 40, 45, 46, 47, 48, 49, 50, 51, 52, 53, 54, 55] (by decide +kernel) (by decide +kernel)) (goodIn_sub (fun _ h => List.mem_cons_of_mem _ (List.mem_append_right _ h)) (by decide +kernel))
set_option maxRecDepth 20000 in
theorem gX6_pitch_X3_heightAt : GoodIn wsX6_pitch (wsV RX6 101 RX3 yX3_heightAt wsX3_heightAt) := goodIn_app (goodIn_of _ (by decide +kernel)) ggX6_pitch_X3_heightAt
theorem dX6_pitch_0 : decode cX6_pitch 0 = .ok (.aload_n 0, 1) := by decide +kernel
theorem dX6_pitch_1 : decode cX6_pitch 1 = .ok (.iload_n 1, 1) := by decide +kernel
theorem dX6_pitch_2 : decode cX6_pitch 2 = .ok (.invokevirtual 63, 3) := by decide +kernel
theorem dX6_pitch_5 : decode cX6_pitch 5 = .ok (.aload_n 0, 1) := by decide +kernel
theorem dX6_pitch_6 : decode cX6_pitch 6 = .ok (.getfield 21, 3) := by decide +kernel
theorem dX6_pitch_9 : decode cX6_pitch 9 = .ok (.iload_n 1, 1) := by decide +kernel
theorem dX6_pitch_10 : decode cX6_pitch 10 = .ok (.invokevirtual 101, 3) := by decide +kernel
theorem dX6_pitch_13 : decode cX6_pitch 13 = .ok (.ireturn, 1) := by decide +kernel
set_option maxRecDepth 20000 in
theorem ggX6_interval_X6_requireIndex : GoodIn wsX6_interval wsX6_requireIndex := goodIn_ca (goodIn_r _ [6, 7, 8, 1, 9, 10, 11, 12, 13, 14, 63, 64, 65, 66, 67, 68, 69] (by decide +kernel) (by decide +kernel)) (goodIn_sub (fun _ h => List.mem_cons_of_mem _ (List.mem_append_left _ (List.mem_append_right _ h))) (by decide +kernel))
set_option maxRecDepth 20000 in
theorem gX6_interval_X6_requireIndex : GoodIn wsX6_interval (wsV RX6 63 RX6 yX6_requireIndex wsX6_requireIndex) := goodIn_app (goodIn_of _ (by decide +kernel)) ggX6_interval_X6_requireIndex
set_option maxRecDepth 20000 in
theorem ggX6_interval_X3_gapAt : GoodIn wsX6_interval wsX3_gapAt := goodIn_ca (goodIn_r _ [18, 19, 20, 21, 22, 23, 24, 25, 26, 27, 28, 29, 30, 12, 31, 32, 33, 34, 35, 36, 14, 37, 38, 39, 40, 41, 42, 43, 44, 45, 46, 47, 48, 49, 50, 51, 52, 53, 54, 55, 56, 67, 68, 69, 70, 71, 72, 73, 74, 75, 76, 77] (by decide +kernel) (by decide +kernel)) (goodIn_sub (fun _ h => List.mem_cons_of_mem _ (List.mem_append_right _ h)) (by decide +kernel))
set_option maxRecDepth 20000 in
theorem gX6_interval_X3_gapAt : GoodIn wsX6_interval (wsV RX6 104 RX3 yX3_gapAt wsX3_gapAt) := goodIn_app (goodIn_of _ (by decide +kernel)) ggX6_interval_X3_gapAt
set_option maxRecDepth 20000 in
theorem ggX6_interval_X5_signOf : GoodIn wsX6_interval wsX5_signOf := goodIn_r _ [59, 60, 61, 39, 62] (by decide +kernel) (by decide +kernel)
set_option maxRecDepth 20000 in
theorem gX6_interval_X5_signOf : GoodIn wsX6_interval (va_wsS RX6 107 yX5_signOf wsX5_signOf) := goodIn_app (goodIn_of _ (by decide +kernel)) ggX6_interval_X5_signOf
theorem dX6_interval_0 : decode cX6_interval 0 = .ok (.aload_n 0, 1) := by decide +kernel
theorem dX6_interval_1 : decode cX6_interval 1 = .ok (.iload_n 1, 1) := by decide +kernel
theorem dX6_interval_2 : decode cX6_interval 2 = .ok (.invokevirtual 63, 3) := by decide +kernel
theorem dX6_interval_5 : decode cX6_interval 5 = .ok (.aload_n 0, 1) := by decide +kernel
theorem dX6_interval_6 : decode cX6_interval 6 = .ok (.getfield 21, 3) := by decide +kernel
theorem dX6_interval_9 : decode cX6_interval 9 = .ok (.iload_n 1, 1) := by decide +kernel
theorem dX6_interval_10 : decode cX6_interval 10 = .ok (.invokevirtual 104, 3) := by decide +kernel
theorem dX6_interval_13 : decode cX6_interval 13 = .ok (.invokestatic 107, 3) := by decide +kernel
theorem dX6_interval_16 : decode cX6_interval 16 = .ok (.ireturn, 1) := by decide +kernel
set_option maxRecDepth 20000 in
theorem ggX6_setLaw_X6_requiredLaw : GoodIn wsX6_setLaw wsX6_requiredLaw := goodIn_ca (goodIn_r _ [8, 1, 2, 9, 10, 11, 12, 13, 14, 15, 16, 17, 18, 19, 20, 21, 22, 23, 24, 25, 26, 27, 28, 29, 30, 31, 32, 33, 34, 35, 36, 37, 38, 39, 40, 41, 42, 43, 44, 45, 46, 47, 48, 49, 50, 51, 52, 53, 54, 55, 56, 57, 58, 59, 60, 61, 62, 63, 64, 65, 66, 67, 68, 69, 70, 71, 72, 73, 74, 75, 76, 77, 78, 79, 80, 81, 82, 83, 84, 85, 86, 87, 88, 89, 90, 91, 92, 93, 94, 95, 96, 97, 113, 114] (by decide +kernel) (by decide +kernel)) (goodIn_sub (fun _ h => List.mem_cons_of_mem _ (List.mem_append_left _ (List.mem_append_right _ h))) (by decide +kernel))
set_option maxRecDepth 20000 in
theorem gX6_setLaw_X6_requiredLaw : GoodIn wsX6_setLaw (wsV RX6 113 RX6 yX6_requiredLaw wsX6_requiredLaw) := goodIn_app (goodIn_of _ (by decide +kernel)) ggX6_setLaw_X6_requiredLaw
set_option maxRecDepth 20000 in
theorem ggX6_setLaw_X2_weightOf : GoodIn wsX6_setLaw wsX2_weightOf := goodIn_ca (goodIn_r _ [102, 103, 115, 116] (by decide +kernel) (by decide +kernel)) (goodIn_sub (fun _ h => List.mem_cons_of_mem _ (List.mem_append_right _ h)) (by decide +kernel))
set_option maxRecDepth 20000 in
theorem gX6_setLaw_X2_weightOf : GoodIn wsX6_setLaw (wsV RX6 119 RX2 yX2_weightOf wsX2_weightOf) := goodIn_app (goodIn_of _ (by decide +kernel)) ggX6_setLaw_X2_weightOf
set_option maxRecDepth 20000 in
theorem ggX6_setLaw_X2_setWeight : GoodIn wsX6_setLaw wsX2_setWeight := goodIn_ca (goodIn_r _ [107, 103, 108, 115, 116] (by decide +kernel) (by decide +kernel)) (goodIn_sub (fun _ h => List.mem_cons_of_mem _ (List.mem_append_right _ h)) (by decide +kernel))
set_option maxRecDepth 20000 in
theorem gX6_setLaw_X2_setWeight : GoodIn wsX6_setLaw (wsV RX6 122 RX2 yX2_setWeight wsX2_setWeight) := goodIn_app (goodIn_of _ (by decide +kernel)) ggX6_setLaw_X2_setWeight
theorem dX6_setLaw_0 : decode cX6_setLaw 0 = .ok (.aload_n 0, 1) := by decide +kernel
theorem dX6_setLaw_1 : decode cX6_setLaw 1 = .ok (.iload_n 1, 1) := by decide +kernel
theorem dX6_setLaw_2 : decode cX6_setLaw 2 = .ok (.invokevirtual 113, 3) := by decide +kernel
theorem dX6_setLaw_5 : decode cX6_setLaw 5 = .ok (.istore_n 3, 1) := by decide +kernel
theorem dX6_setLaw_6 : decode cX6_setLaw 6 = .ok (.iload_n 2, 1) := by decide +kernel
theorem dX6_setLaw_7 : decode cX6_setLaw 7 = .ok (.ifCond .lt 9, 3) := by decide +kernel
theorem dX6_setLaw_10 : decode cX6_setLaw 10 = .ok (.iload_n 2, 1) := by decide +kernel
theorem dX6_setLaw_11 : decode cX6_setLaw 11 = .ok (.bipush 10, 2) := by decide +kernel
theorem dX6_setLaw_13 : decode cX6_setLaw 13 = .ok (.if_icmp .le 13, 3) := by decide +kernel
theorem dX6_setLaw_16 : decode cX6_setLaw 16 = .ok (.new 77, 3) := by decide +kernel
theorem dX6_setLaw_19 : decode cX6_setLaw 19 = .ok (.dup, 1) := by decide +kernel
theorem dX6_setLaw_20 : decode cX6_setLaw 20 = .ok (.ldc 117, 2) := by decide +kernel
theorem dX6_setLaw_22 : decode cX6_setLaw 22 = .ok (.invokespecial 81, 3) := by decide +kernel
theorem dX6_setLaw_25 : decode cX6_setLaw 25 = .ok (.athrow, 1) := by decide +kernel
theorem dX6_setLaw_26 : decode cX6_setLaw 26 = .ok (.aload_n 0, 1) := by decide +kernel
theorem dX6_setLaw_27 : decode cX6_setLaw 27 = .ok (.getfield 28, 3) := by decide +kernel
theorem dX6_setLaw_30 : decode cX6_setLaw 30 = .ok (.iload_n 3, 1) := by decide +kernel
theorem dX6_setLaw_31 : decode cX6_setLaw 31 = .ok (.invokevirtual 119, 3) := by decide +kernel
theorem dX6_setLaw_34 : decode cX6_setLaw 34 = .ok (.istore 4, 2) := by decide +kernel
theorem dX6_setLaw_36 : decode cX6_setLaw 36 = .ok (.aload_n 0, 1) := by decide +kernel
theorem dX6_setLaw_37 : decode cX6_setLaw 37 = .ok (.getfield 28, 3) := by decide +kernel
theorem dX6_setLaw_40 : decode cX6_setLaw 40 = .ok (.iload_n 3, 1) := by decide +kernel
theorem dX6_setLaw_41 : decode cX6_setLaw 41 = .ok (.iload_n 2, 1) := by decide +kernel
theorem dX6_setLaw_42 : decode cX6_setLaw 42 = .ok (.invokevirtual 122, 3) := by decide +kernel
theorem dX6_setLaw_45 : decode cX6_setLaw 45 = .ok (.iload 4, 2) := by decide +kernel
theorem dX6_setLaw_47 : decode cX6_setLaw 47 = .ok (.ireturn, 1) := by decide +kernel
set_option maxRecDepth 20000 in
theorem ggX6_weight_X6_requiredLaw : GoodIn wsX6_weight wsX6_requiredLaw := goodIn_ca (goodIn_r _ [6, 7, 8, 9, 10, 11, 12, 13, 14, 15, 16, 17, 18, 19, 20, 21, 22, 23, 24, 25, 26, 27, 28, 29, 30, 31, 32, 33, 34, 35, 36, 37, 38, 39, 40, 41, 42, 43, 44, 45, 46, 47, 48, 49, 50, 51, 52, 53, 54, 55, 56, 57, 58, 59, 60, 61, 62, 63, 64, 65, 66, 67, 68, 69, 70, 71, 72, 73, 74, 75, 76, 77, 78, 79, 80, 81, 82, 83, 84, 85, 86, 87, 88, 89, 90, 91, 92, 93, 94, 95, 96, 97, 108, 109] (by decide +kernel) (by decide +kernel)) (goodIn_sub (fun _ h => List.mem_cons_of_mem _ (List.mem_append_left _ (List.mem_append_right _ h))) (by decide +kernel))
set_option maxRecDepth 20000 in
theorem gX6_weight_X6_requiredLaw : GoodIn wsX6_weight (wsV RX6 113 RX6 yX6_requiredLaw wsX6_requiredLaw) := goodIn_app (goodIn_of _ (by decide +kernel)) ggX6_weight_X6_requiredLaw
set_option maxRecDepth 20000 in
theorem ggX6_weight_X2_weightOf : GoodIn wsX6_weight wsX2_weightOf := goodIn_ca (goodIn_r _ [102, 103, 110, 111] (by decide +kernel) (by decide +kernel)) (goodIn_sub (fun _ h => List.mem_cons_of_mem _ (List.mem_append_right _ h)) (by decide +kernel))
set_option maxRecDepth 20000 in
theorem gX6_weight_X2_weightOf : GoodIn wsX6_weight (wsV RX6 119 RX2 yX2_weightOf wsX2_weightOf) := goodIn_app (goodIn_of _ (by decide +kernel)) ggX6_weight_X2_weightOf
theorem dX6_weight_0 : decode cX6_weight 0 = .ok (.aload_n 0, 1) := by decide +kernel
theorem dX6_weight_1 : decode cX6_weight 1 = .ok (.iload_n 1, 1) := by decide +kernel
theorem dX6_weight_2 : decode cX6_weight 2 = .ok (.invokevirtual 113, 3) := by decide +kernel
theorem dX6_weight_5 : decode cX6_weight 5 = .ok (.istore_n 2, 1) := by decide +kernel
theorem dX6_weight_6 : decode cX6_weight 6 = .ok (.aload_n 0, 1) := by decide +kernel
theorem dX6_weight_7 : decode cX6_weight 7 = .ok (.getfield 28, 3) := by decide +kernel
theorem dX6_weight_10 : decode cX6_weight 10 = .ok (.iload_n 2, 1) := by decide +kernel
theorem dX6_weight_11 : decode cX6_weight 11 = .ok (.invokevirtual 119, 3) := by decide +kernel
theorem dX6_weight_14 : decode cX6_weight 14 = .ok (.ireturn, 1) := by decide +kernel
set_option maxRecDepth 20000 in
theorem ggX6_style_X2_adopt : GoodIn wsX6_style wsX2_adopt := goodIn_ca (goodIn_r _ [8, 9, 10, 11, 12, 7, 13, 14, 15, 16, 17, 18, 19, 24, 25] (by decide +kernel) (by decide +kernel)) (goodIn_sub (fun _ h => List.mem_cons_of_mem _ (List.mem_append_right _ h)) (by decide +kernel))
set_option maxRecDepth 20000 in
theorem gX6_style_X2_adopt : GoodIn wsX6_style (wsV RX6 127 RX2 yX2_adopt wsX2_adopt) := goodIn_app (goodIn_of _ (by decide +kernel)) ggX6_style_X2_adopt
theorem dX6_style_0 : decode cX6_style 0 = .ok (.iload_n 1, 1) := by decide +kernel
theorem dX6_style_1 : decode cX6_style 1 = .ok (.ifCond .lt 8, 3) := by decide +kernel
theorem dX6_style_4 : decode cX6_style 4 = .ok (.iload_n 1, 1) := by decide +kernel
theorem dX6_style_5 : decode cX6_style 5 = .ok (.iconst 3, 1) := by decide +kernel
theorem dX6_style_6 : decode cX6_style 6 = .ok (.if_icmp .lt 13, 3) := by decide +kernel
theorem dX6_style_9 : decode cX6_style 9 = .ok (.new 77, 3) := by decide +kernel
theorem dX6_style_12 : decode cX6_style 12 = .ok (.dup, 1) := by decide +kernel
theorem dX6_style_13 : decode cX6_style 13 = .ok (.ldc 125, 2) := by decide +kernel
theorem dX6_style_15 : decode cX6_style 15 = .ok (.invokespecial 81, 3) := by decide +kernel
theorem dX6_style_18 : decode cX6_style 18 = .ok (.athrow, 1) := by decide +kernel
theorem dX6_style_19 : decode cX6_style 19 = .ok (.aload_n 0, 1) := by decide +kernel
theorem dX6_style_20 : decode cX6_style 20 = .ok (.getfield 28, 3) := by decide +kernel
theorem dX6_style_23 : decode cX6_style 23 = .ok (.iload_n 1, 1) := by decide +kernel
theorem dX6_style_24 : decode cX6_style 24 = .ok (.invokevirtual 127, 3) := by decide +kernel
theorem dX6_style_27 : decode cX6_style 27 = .ok (.ireturn, 1) := by decide +kernel
set_option maxRecDepth 20000 in
theorem ggX6_faults_X2_weighing : GoodIn wsX6_faults wsX2_weighing := goodIn_ca (goodIn_r _ [7, 8, 9, 10, 6, 11, 12, 140, 141] (by decide +kernel) (by decide +kernel)) (goodIn_sub (fun _ h => List.mem_cons_of_mem _ (List.mem_append_right _ h)) (by decide +kernel))
set_option maxRecDepth 20000 in
theorem gX6_faults_X2_weighing : GoodIn wsX6_faults (wsV RX6 130 RX2 yX2_weighing wsX2_weighing) := goodIn_app (goodIn_of _ (by decide +kernel)) ggX6_faults_X2_weighing
set_option maxRecDepth 20000 in
theorem ggX6_faults_X3_length : GoodIn wsX6_faults wsX3_length := goodIn_r _ [17, 18, 142, 143, 144] (by decide +kernel) (by decide +kernel)
set_option maxRecDepth 20000 in
theorem gX6_faults_X3_length : GoodIn wsX6_faults (wsV RX6 60 RX3 yX3_length wsX3_length) := goodIn_app (goodIn_of _ (by decide +kernel)) ggX6_faults_X3_length
set_option maxRecDepth 20000 in
theorem ggX6_faults_X3_faultsAt : GoodIn wsX6_faults wsX3_faultsAt := goodIn_ca (goodIn_r _ [22, 23, 24, 25, 16, 26, 27, 28, 29, 30, 31, 32, 33, 34, 35, 36, 37, 38, 39, 40, 41, 42, 43, 44, 45, 46, 47, 48, 18, 49, 50, 51, 52, 53, 54, 55, 56, 57, 58, 59, 60, 61, 62, 63, 64, 65, 66, 67, 68, 69, 70, 71, 72, 73, 74, 75, 76, 77, 78, 79, 80, 81, 82, 83, 84, 85, 86, 87, 88, 89, 90, 91, 92, 93, 94, 95, 96, 97, 98, 99, 100, 101, 102, 103, 104, 105, 106, 107, 108, 109, 110, 111, 112, 113, 114, 115, 116, 117, 118, 119, 120, 121, 122, 123, 124, 125, 126, 127, 128, 142, 143, 144, 145, 146, 147, 148, 149, 150, 151, 152] (by decide +kernel) (by decide +kernel)) (goodIn_sub (fun _ h => List.mem_cons_of_mem _ (List.mem_append_right _ h)) (by decide +kernel))
set_option maxRecDepth 20000 in
theorem gX6_faults_X3_faultsAt : GoodIn wsX6_faults (wsV RX6 133 RX3 yX3_faultsAt wsX3_faultsAt) := goodIn_app (goodIn_of _ (by decide +kernel)) ggX6_faults_X3_faultsAt
set_option maxRecDepth 20000 in
theorem ggX6_faults_J6_bitCount_0f7a4 : GoodIn wsX6_faults wsJ6_bitCount_0f7a4 := goodIn_r _ [132, 133, 134, 135] (by decide +kernel) (by decide +kernel)
set_option maxRecDepth 20000 in
theorem gX6_faults_J6_bitCount_0f7a4 : GoodIn wsX6_faults (va_wsS RX6 136 yJ6_bitCount_0f7a4 wsJ6_bitCount_0f7a4) := goodIn_app (goodIn_of _ (by decide +kernel)) ggX6_faults_J6_bitCount_0f7a4
theorem dX6_faults_0 : decode cX6_faults 0 = .ok (.aload_n 0, 1) := by decide +kernel
theorem dX6_faults_1 : decode cX6_faults 1 = .ok (.getfield 28, 3) := by decide +kernel
theorem dX6_faults_4 : decode cX6_faults 4 = .ok (.iconst 1, 1) := by decide +kernel
theorem dX6_faults_5 : decode cX6_faults 5 = .ok (.invokevirtual 130, 3) := by decide +kernel
theorem dX6_faults_8 : decode cX6_faults 8 = .ok (.istore_n 1, 1) := by decide +kernel
theorem dX6_faults_9 : decode cX6_faults 9 = .ok (.iconst 0, 1) := by decide +kernel
theorem dX6_faults_10 : decode cX6_faults 10 = .ok (.istore_n 2, 1) := by decide +kernel
theorem dX6_faults_11 : decode cX6_faults 11 = .ok (.iconst 0, 1) := by decide +kernel
theorem dX6_faults_12 : decode cX6_faults 12 = .ok (.istore_n 3, 1) := by decide +kernel
theorem dX6_faults_13 : decode cX6_faults 13 = .ok (.iload_n 3, 1) := by decide +kernel
theorem dX6_faults_14 : decode cX6_faults 14 = .ok (.aload_n 0, 1) := by decide +kernel
theorem dX6_faults_15 : decode cX6_faults 15 = .ok (.getfield 21, 3) := by decide +kernel
theorem dX6_faults_18 : decode cX6_faults 18 = .ok (.invokevirtual 60, 3) := by decide +kernel
theorem dX6_faults_21 : decode cX6_faults 21 = .ok (.if_icmp .ge 25, 3) := by decide +kernel
theorem dX6_faults_24 : decode cX6_faults 24 = .ok (.iload_n 2, 1) := by decide +kernel
theorem dX6_faults_25 : decode cX6_faults 25 = .ok (.aload_n 0, 1) := by decide +kernel
theorem dX6_faults_26 : decode cX6_faults 26 = .ok (.getfield 21, 3) := by decide +kernel
theorem dX6_faults_29 : decode cX6_faults 29 = .ok (.iload_n 3, 1) := by decide +kernel
theorem dX6_faults_30 : decode cX6_faults 30 = .ok (.invokevirtual 133, 3) := by decide +kernel
theorem dX6_faults_33 : decode cX6_faults 33 = .ok (.iload_n 1, 1) := by decide +kernel
theorem dX6_faults_34 : decode cX6_faults 34 = .ok (.iand, 1) := by decide +kernel
theorem dX6_faults_35 : decode cX6_faults 35 = .ok (.invokestatic 136, 3) := by decide +kernel
theorem dX6_faults_38 : decode cX6_faults 38 = .ok (.iadd, 1) := by decide +kernel
theorem dX6_faults_39 : decode cX6_faults 39 = .ok (.istore_n 2, 1) := by decide +kernel
theorem dX6_faults_40 : decode cX6_faults 40 = .ok (.iinc 3 1, 3) := by decide +kernel
theorem dX6_faults_43 : decode cX6_faults 43 = .ok (.goto (-30), 3) := by decide +kernel
theorem dX6_faults_46 : decode cX6_faults 46 = .ok (.iload_n 2, 1) := by decide +kernel
theorem dX6_faults_47 : decode cX6_faults 47 = .ok (.ireturn, 1) := by decide +kernel
set_option maxRecDepth 20000 in
theorem ggX6_faultAt_X6_requiredFault : GoodIn wsX6_faultAt wsX6_requiredFault := goodIn_ca (goodIn_ca (goodIn_r _ [5, 6, 7, 8, 9, 10, 11, 12, 13, 14, 15, 16, 17, 18, 19, 20, 21, 22, 23, 24, 25, 26, 27, 28, 29, 30, 31, 32, 33, 34, 35, 36, 37, 38, 39, 40, 41, 42, 43, 44, 45, 46, 47, 48, 49, 50, 51, 52, 53, 54, 55, 56, 57, 58, 59, 60, 61, 62, 63, 64, 65, 66, 67, 68, 69, 70, 71, 72, 73, 74, 75, 76, 77, 78, 79, 80, 81, 82, 83, 84, 85, 86, 87, 88, 89, 90, 91, 92, 93, 94, 95, 96, 97, 98, 99, 100, 101, 102, 103, 104, 105, 106, 107, 108, 109, 110, 111, 112, 113, 114, 115, 116, 117, 118, 119, 120, 121, 122, 123, 124, 125, 126, 127, 128, 129, 130, 131, 132, 133, 134, 135, 136, 137, 138, 139, 140, 141, 142, 143, 144, 145, 146, 147, 148, 149, 150, 151, 152, 153, 154, 155, 156, 157, 158, 159, 160, 161, 162] (by decide +kernel) (by decide +kernel)) (goodIn_sub (fun _ h => List.mem_cons_of_mem _ (List.mem_append_left _ (List.mem_append_right _ h))) (by decide +kernel))) (goodIn_sub (fun _ h => List.mem_cons_of_mem _ (List.mem_append_right _ h)) (by decide +kernel))
set_option maxRecDepth 20000 in
theorem gX6_faultAt_X6_requiredFault : GoodIn wsX6_faultAt (wsV RX6 141 RX6 yX6_requiredFault wsX6_requiredFault) := goodIn_app (goodIn_of _ (by decide +kernel)) ggX6_faultAt_X6_requiredFault
theorem dX6_faultAt_0 : decode cX6_faultAt 0 = .ok (.aload_n 0, 1) := by decide +kernel
theorem dX6_faultAt_1 : decode cX6_faultAt 1 = .ok (.iload_n 1, 1) := by decide +kernel
theorem dX6_faultAt_2 : decode cX6_faultAt 2 = .ok (.invokevirtual 141, 3) := by decide +kernel
theorem dX6_faultAt_5 : decode cX6_faultAt 5 = .ok (.bipush 12, 2) := by decide +kernel
theorem dX6_faultAt_7 : decode cX6_faultAt 7 = .ok (.idiv, 1) := by decide +kernel
theorem dX6_faultAt_8 : decode cX6_faultAt 8 = .ok (.ireturn, 1) := by decide +kernel
set_option maxRecDepth 20000 in
theorem ggX6_faultOf_X6_requiredFault : GoodIn wsX6_faultOf wsX6_requiredFault := goodIn_ca (goodIn_ca (goodIn_r _ [5, 6, 7, 8, 9, 10, 11, 12, 13, 14, 15, 16, 17, 18, 19, 20, 21, 22, 23, 24, 25, 26, 27, 28, 29, 30, 31, 32, 33, 34, 35, 36, 37, 38, 39, 40, 41, 42, 43, 44, 45, 46, 47, 48, 49, 50, 51, 52, 53, 54, 55, 56, 57, 58, 59, 60, 61, 62, 63, 64, 65, 66, 67, 68, 69, 70, 71, 72, 73, 74, 75, 76, 77, 78, 79, 80, 81, 82, 83, 84, 85, 86, 87, 88, 89, 90, 91, 92, 93, 94, 95, 96, 97, 98, 99, 100, 101, 102, 103, 104, 105, 106, 107, 108, 109, 110, 111, 112, 113, 114, 115, 116, 117, 118, 119, 120, 121, 122, 123, 124, 125, 126, 127, 128, 129, 130, 131, 132, 133, 134, 135, 136, 137, 138, 139, 140, 141, 142, 143, 144, 145, 198, 199, 200, 201, 202, 203, 204, 205, 206, 207, 208, 209, 210, 211, 212, 213, 214] (by decide +kernel) (by decide +kernel)) (goodIn_sub (fun _ h => List.mem_cons_of_mem _ (List.mem_append_left _ (List.mem_append_right _ h))) (by decide +kernel))) (goodIn_sub (fun _ h => List.mem_cons_of_mem _ (List.mem_append_right _ h)) (by decide +kernel))
set_option maxRecDepth 20000 in
theorem gX6_faultOf_X6_requiredFault : GoodIn wsX6_faultOf (wsV RX6 141 RX6 yX6_requiredFault wsX6_requiredFault) := goodIn_app (goodIn_of _ (by decide +kernel)) ggX6_faultOf_X6_requiredFault
set_option maxRecDepth 20000 in
theorem ggX6_faultOf_X2_signOf : GoodIn wsX6_faultOf wsX2_signOf := goodIn_r _ [148, 149, 150, 151, 152, 153, 154, 155, 156, 157, 158, 159, 160, 161, 162, 163, 164, 165, 166, 167, 168, 169, 170, 171, 172, 173, 174, 175, 176, 177, 178, 179, 180, 181, 182, 183, 184, 185, 186, 187, 188, 189, 190, 191, 192, 193, 194, 195, 196, 197, 215, 216] (by decide +kernel) (by decide +kernel)
set_option maxRecDepth 20000 in
theorem gX6_faultOf_X2_signOf : GoodIn wsX6_faultOf (va_wsS RX6 144 yX2_signOf wsX2_signOf) := goodIn_app (goodIn_of _ (by decide +kernel)) ggX6_faultOf_X2_signOf
theorem dX6_faultOf_0 : decode cX6_faultOf 0 = .ok (.aload_n 0, 1) := by decide +kernel
theorem dX6_faultOf_1 : decode cX6_faultOf 1 = .ok (.iload_n 1, 1) := by decide +kernel
theorem dX6_faultOf_2 : decode cX6_faultOf 2 = .ok (.invokevirtual 141, 3) := by decide +kernel
theorem dX6_faultOf_5 : decode cX6_faultOf 5 = .ok (.bipush 12, 2) := by decide +kernel
theorem dX6_faultOf_7 : decode cX6_faultOf 7 = .ok (.irem, 1) := by decide +kernel
theorem dX6_faultOf_8 : decode cX6_faultOf 8 = .ok (.invokestatic 144, 3) := by decide +kernel
theorem dX6_faultOf_11 : decode cX6_faultOf 11 = .ok (.ireturn, 1) := by decide +kernel
set_option maxRecDepth 20000 in
theorem ggX6_cost_X3_length : GoodIn wsX6_cost wsX3_length := goodIn_r _ [7, 8, 140, 141, 142] (by decide +kernel) (by decide +kernel)
set_option maxRecDepth 20000 in
theorem gX6_cost_X3_length : GoodIn wsX6_cost (wsV RX6 60 RX3 yX3_length wsX3_length) := goodIn_app (goodIn_of _ (by decide +kernel)) ggX6_cost_X3_length
set_option maxRecDepth 20000 in
theorem ggX6_cost_X3_costBetween : GoodIn wsX6_cost wsX3_costBetween := goodIn_ca (goodIn_r _ [12, 13, 14, 15, 16, 8, 17, 18, 19, 6, 20, 21, 22, 23, 24, 25, 26, 27, 28, 29, 30, 31, 32, 33, 34, 35, 36, 37, 38, 39, 40, 41, 42, 43, 44, 45, 46, 47, 48, 49, 50, 51, 52, 53, 54, 55, 56, 57, 58, 59, 60, 61, 62, 63, 64, 65, 66, 67, 68, 69, 70, 71, 72, 73, 74, 75, 76, 77, 78, 79, 80, 81, 82, 83, 84, 85, 86, 87, 88, 89, 90, 91, 92, 93, 94, 95, 96, 97, 98, 99, 100, 101, 102, 103, 104, 105, 106, 107, 108, 109, 110, 111, 112, 113, 114, 115, 116, 117, 118, 119, 120, 121, 122, 123, 124, 125, 126, 127, 128, 129, 130, 131, 132, 133, 134, 135, 140, 141, 142, 143, 144, 145, 146, 147, 148, 149, 150, 151, 152] (by decide +kernel) (by decide +kernel)) (goodIn_sub (fun _ h => List.mem_cons_of_mem _ (List.mem_append_right _ h)) (by decide +kernel))
set_option maxRecDepth 20000 in
theorem gX6_cost_X3_costBetween : GoodIn wsX6_cost (wsV RX6 145 RX3 yX3_costBetween wsX3_costBetween) := goodIn_app (goodIn_of _ (by decide +kernel)) ggX6_cost_X3_costBetween
theorem dX6_cost_0 : decode cX6_cost 0 = .ok (.aload_n 0, 1) := by decide +kernel
theorem dX6_cost_1 : decode cX6_cost 1 = .ok (.getfield 21, 3) := by decide +kernel
theorem dX6_cost_4 : decode cX6_cost 4 = .ok (.aload_n 0, 1) := by decide +kernel
theorem dX6_cost_5 : decode cX6_cost 5 = .ok (.getfield 28, 3) := by decide +kernel
theorem dX6_cost_8 : decode cX6_cost 8 = .ok (.iconst 0, 1) := by decide +kernel
theorem dX6_cost_9 : decode cX6_cost 9 = .ok (.aload_n 0, 1) := by decide +kernel
theorem dX6_cost_10 : decode cX6_cost 10 = .ok (.getfield 21, 3) := by decide +kernel
theorem dX6_cost_13 : decode cX6_cost 13 = .ok (.invokevirtual 60, 3) := by decide +kernel
theorem dX6_cost_16 : decode cX6_cost 16 = .ok (.iconst 1, 1) := by decide +kernel
theorem dX6_cost_17 : decode cX6_cost 17 = .ok (.isub, 1) := by decide +kernel
theorem dX6_cost_18 : decode cX6_cost 18 = .ok (.invokevirtual 145, 3) := by decide +kernel
theorem dX6_cost_21 : decode cX6_cost 21 = .ok (.ireturn, 1) := by decide +kernel
set_option maxRecDepth 20000 in
theorem ggX6_isGood_X3_isWhole : GoodIn wsX6_isGood wsX3_isWhole := goodIn_r _ [7, 8, 9, 10, 11, 12, 13, 14, 15, 16, 17, 18, 19, 20, 141, 142, 143, 144, 145, 146, 147, 148, 149, 150, 151] (by decide +kernel) (by decide +kernel)
set_option maxRecDepth 20000 in
theorem gX6_isGood_X3_isWhole : GoodIn wsX6_isGood (wsV RX6 149 RX3 yX3_isWhole wsX3_isWhole) := goodIn_app (goodIn_of _ (by decide +kernel)) ggX6_isGood_X3_isWhole
set_option maxRecDepth 20000 in
theorem ggX6_isGood_X2_weighing : GoodIn wsX6_isGood wsX2_weighing := goodIn_ca (goodIn_r _ [25, 26, 27, 28, 24, 29, 30, 152, 153] (by decide +kernel) (by decide +kernel)) (goodIn_sub (fun _ h => List.mem_cons_of_mem _ (List.mem_append_right _ h)) (by decide +kernel))
set_option maxRecDepth 20000 in
theorem gX6_isGood_X2_weighing : GoodIn wsX6_isGood (wsV RX6 130 RX2 yX2_weighing wsX2_weighing) := goodIn_app (goodIn_of _ (by decide +kernel)) ggX6_isGood_X2_weighing
set_option maxRecDepth 20000 in
theorem ggX6_isGood_X3_isFree : GoodIn wsX6_isGood wsX3_isFree := goodIn_ca (goodIn_r _ [34, 9, 35, 36, 37, 6, 38, 39, 40, 41, 42, 8, 43, 44, 45, 46, 47, 48, 49, 13, 50, 20, 15, 51, 52, 53, 54, 55, 56, 57, 58, 59, 60, 61, 62, 63, 64, 65, 66, 67, 68, 69, 16, 17, 18, 19, 70, 71, 72, 73, 74, 75, 76, 77, 78, 79, 80, 81, 82, 83, 84, 85, 86, 87, 88, 89, 90, 91, 92, 93, 94, 95, 96, 97, 98, 99, 100, 101, 102, 103, 104, 105, 106, 107, 108, 109, 110, 111, 112, 113, 114, 115, 116, 117, 118, 119, 120, 121, 122, 123, 124, 125, 126, 127, 128, 129, 130, 131, 132, 133, 134, 135, 136, 141, 142, 143, 144, 145, 146, 147, 148, 149, 150, 151] (by decide +kernel) (by decide +kernel)) (goodIn_sub (fun _ h => List.mem_cons_of_mem _ (List.mem_append_right _ h)) (by decide +kernel))
set_option maxRecDepth 20000 in
theorem gX6_isGood_X3_isFree : GoodIn wsX6_isGood (wsV RX6 152 RX3 yX3_isFree wsX3_isFree) := goodIn_app (goodIn_of _ (by decide +kernel)) ggX6_isGood_X3_isFree
theorem dX6_isGood_0 : decode cX6_isGood 0 = .ok (.aload_n 0, 1) := by decide +kernel
theorem dX6_isGood_1 : decode cX6_isGood 1 = .ok (.getfield 21, 3) := by decide +kernel
theorem dX6_isGood_4 : decode cX6_isGood 4 = .ok (.invokevirtual 149, 3) := by decide +kernel
theorem dX6_isGood_7 : decode cX6_isGood 7 = .ok (.ifCond .eq 26, 3) := by decide +kernel
theorem dX6_isGood_10 : decode cX6_isGood 10 = .ok (.aload_n 0, 1) := by decide +kernel
theorem dX6_isGood_11 : decode cX6_isGood 11 = .ok (.getfield 21, 3) := by decide +kernel
theorem dX6_isGood_14 : decode cX6_isGood 14 = .ok (.aload_n 0, 1) := by decide +kernel
theorem dX6_isGood_15 : decode cX6_isGood 15 = .ok (.getfield 28, 3) := by decide +kernel
theorem dX6_isGood_18 : decode cX6_isGood 18 = .ok (.bipush 10, 2) := by decide +kernel
theorem dX6_isGood_20 : decode cX6_isGood 20 = .ok (.invokevirtual 130, 3) := by decide +kernel
theorem dX6_isGood_23 : decode cX6_isGood 23 = .ok (.invokevirtual 152, 3) := by decide +kernel
theorem dX6_isGood_26 : decode cX6_isGood 26 = .ok (.ifCond .eq 7, 3) := by decide +kernel
theorem dX6_isGood_29 : decode cX6_isGood 29 = .ok (.iconst 1, 1) := by decide +kernel
theorem dX6_isGood_30 : decode cX6_isGood 30 = .ok (.goto 4, 3) := by decide +kernel
theorem dX6_isGood_33 : decode cX6_isGood 33 = .ok (.iconst 0, 1) := by decide +kernel
theorem dX6_isGood_34 : decode cX6_isGood 34 = .ok (.ireturn, 1) := by decide +kernel
set_option maxRecDepth 20000 in
theorem ggX6_mend_X6_requireWhole : GoodIn wsX6_mend wsX6_requireWhole := goodIn_ca (goodIn_r _ [9, 10, 11, 3, 12, 13, 14, 15, 16, 17, 18, 19, 20, 21, 22, 23, 24, 25, 26, 27, 28, 29, 162, 163, 164, 165, 166, 167, 168, 169, 170, 171, 172, 173, 174, 175, 176] (by decide +kernel) (by decide +kernel)) (goodIn_sub (fun _ h => List.mem_cons_of_mem _ (List.mem_append_left _ (List.mem_append_right _ h))) (by decide +kernel))
set_option maxRecDepth 20000 in
theorem gX6_mend_X6_requireWhole : GoodIn wsX6_mend (wsV RX6 156 RX6 yX6_requireWhole wsX6_requireWhole) := goodIn_app (goodIn_of _ (by decide +kernel)) ggX6_mend_X6_requireWhole
set_option maxRecDepth 20000 in
theorem ggX6_mend_X3_length : GoodIn wsX6_mend wsX3_length := goodIn_r _ [33, 18, 166, 167, 168] (by decide +kernel) (by decide +kernel)
set_option maxRecDepth 20000 in
theorem gX6_mend_X3_length : GoodIn wsX6_mend (wsV RX6 60 RX3 yX3_length wsX3_length) := goodIn_app (goodIn_of _ (by decide +kernel)) ggX6_mend_X3_length
set_option maxRecDepth 20000 in
theorem ggX6_mend_X3_toneAt : GoodIn wsX6_mend wsX3_toneAt := goodIn_ca (goodIn_r _ [37, 38, 166, 167, 168] (by decide +kernel) (by decide +kernel)) (goodIn_sub (fun _ h => List.mem_cons_of_mem _ (List.mem_append_right _ h)) (by decide +kernel))
set_option maxRecDepth 20000 in
theorem gX6_mend_X3_toneAt : GoodIn wsX6_mend (wsV RX6 66 RX3 yX3_toneAt wsX3_toneAt) := goodIn_app (goodIn_of _ (by decide +kernel)) ggX6_mend_X3_toneAt
set_option maxRecDepth 20000 in
theorem ggX6_mend_X3_costAround : GoodIn wsX6_mend wsX3_costAround := goodIn_ca (goodIn_r _ [42, 17, 43, 44, 45, 46, 47, 48, 49, 22, 50, 29, 51, 52, 53, 15, 54, 18, 55, 56, 57, 58, 59, 60, 61, 62, 63, 64, 65, 66, 67, 68, 69, 70, 24, 71, 72, 35, 36, 37, 38, 73, 74, 75, 76, 77, 78, 79, 80, 81, 82, 83, 84, 85, 25, 26, 27, 28, 86, 87, 88, 89, 90, 91, 92, 93, 94, 95, 96, 97, 98, 99, 100, 101, 102, 103, 104, 105, 106, 107, 108, 109, 110, 111, 112, 113, 114, 115, 116, 117, 118, 119, 120, 121, 122, 123, 124, 125, 126, 127, 128, 129, 130, 131, 132, 133, 134, 135, 136, 137, 138, 139, 140, 141, 142, 143, 144, 145, 146, 147, 148, 149, 150, 151, 152, 153, 154, 155, 156, 157, 166, 167, 168, 169, 170, 171, 172, 173, 174, 175, 176, 177, 178] (by decide +kernel) (by decide +kernel)) (goodIn_sub (fun _ h => List.mem_cons_of_mem _ (List.mem_append_right _ h)) (by decide +kernel))
set_option maxRecDepth 20000 in
theorem gX6_mend_X3_costAround : GoodIn wsX6_mend (wsV RX6 159 RX3 yX3_costAround wsX3_costAround) := goodIn_app (goodIn_of _ (by decide +kernel)) ggX6_mend_X3_costAround
set_option maxRecDepth 20000 in
theorem ggX6_mend_X3_put : GoodIn wsX6_mend wsX3_put := goodIn_ca (goodIn_r _ [161, 38, 166, 167, 168] (by decide +kernel) (by decide +kernel)) (goodIn_sub (fun _ h => List.mem_cons_of_mem _ (List.mem_append_right _ h)) (by decide +kernel))
set_option maxRecDepth 20000 in
theorem gX6_mend_X3_put : GoodIn wsX6_mend (wsV RX6 70 RX3 yX3_put wsX3_put) := goodIn_app (goodIn_of _ (by decide +kernel)) ggX6_mend_X3_put
theorem dX6_mend_0 : decode cX6_mend 0 = .ok (.aload_n 0, 1) := by decide +kernel
theorem dX6_mend_1 : decode cX6_mend 1 = .ok (.invokevirtual 156, 3) := by decide +kernel
theorem dX6_mend_4 : decode cX6_mend 4 = .ok (.iconst (-1), 1) := by decide +kernel
theorem dX6_mend_5 : decode cX6_mend 5 = .ok (.istore_n 1, 1) := by decide +kernel
theorem dX6_mend_6 : decode cX6_mend 6 = .ok (.iconst 0, 1) := by decide +kernel
theorem dX6_mend_7 : decode cX6_mend 7 = .ok (.istore_n 2, 1) := by decide +kernel
theorem dX6_mend_8 : decode cX6_mend 8 = .ok (.iconst 0, 1) := by decide +kernel
theorem dX6_mend_9 : decode cX6_mend 9 = .ok (.istore_n 3, 1) := by decide +kernel
theorem dX6_mend_10 : decode cX6_mend 10 = .ok (.iconst 0, 1) := by decide +kernel
theorem dX6_mend_11 : decode cX6_mend 11 = .ok (.istore 4, 2) := by decide +kernel
theorem dX6_mend_13 : decode cX6_mend 13 = .ok (.iload 4, 2) := by decide +kernel
theorem dX6_mend_15 : decode cX6_mend 15 = .ok (.aload_n 0, 1) := by decide +kernel
theorem dX6_mend_16 : decode cX6_mend 16 = .ok (.getfield 21, 3) := by decide +kernel
theorem dX6_mend_19 : decode cX6_mend 19 = .ok (.invokevirtual 60, 3) := by decide +kernel
theorem dX6_mend_22 : decode cX6_mend 22 = .ok (.if_icmp .ge 106, 3) := by decide +kernel
theorem dX6_mend_25 : decode cX6_mend 25 = .ok (.aload_n 0, 1) := by decide +kernel
theorem dX6_mend_26 : decode cX6_mend 26 = .ok (.getfield 21, 3) := by decide +kernel
theorem dX6_mend_29 : decode cX6_mend 29 = .ok (.iload 4, 2) := by decide +kernel
theorem dX6_mend_31 : decode cX6_mend 31 = .ok (.invokevirtual 66, 3) := by decide +kernel
theorem dX6_mend_34 : decode cX6_mend 34 = .ok (.istore 5, 2) := by decide +kernel
theorem dX6_mend_36 : decode cX6_mend 36 = .ok (.aload_n 0, 1) := by decide +kernel
theorem dX6_mend_37 : decode cX6_mend 37 = .ok (.getfield 21, 3) := by decide +kernel
theorem dX6_mend_40 : decode cX6_mend 40 = .ok (.aload_n 0, 1) := by decide +kernel
theorem dX6_mend_41 : decode cX6_mend 41 = .ok (.getfield 28, 3) := by decide +kernel
theorem dX6_mend_44 : decode cX6_mend 44 = .ok (.iload 4, 2) := by decide +kernel
theorem dX6_mend_46 : decode cX6_mend 46 = .ok (.invokevirtual 159, 3) := by decide +kernel
theorem dX6_mend_49 : decode cX6_mend 49 = .ok (.istore 6, 2) := by decide +kernel
theorem dX6_mend_51 : decode cX6_mend 51 = .ok (.iconst 0, 1) := by decide +kernel
theorem dX6_mend_52 : decode cX6_mend 52 = .ok (.istore 7, 2) := by decide +kernel
theorem dX6_mend_54 : decode cX6_mend 54 = .ok (.iload 7, 2) := by decide +kernel
theorem dX6_mend_56 : decode cX6_mend 56 = .ok (.bipush 28, 2) := by decide +kernel
theorem dX6_mend_58 : decode cX6_mend 58 = .ok (.if_icmp .ge 53, 3) := by decide +kernel
theorem dX6_mend_61 : decode cX6_mend 61 = .ok (.aload_n 0, 1) := by decide +kernel
theorem dX6_mend_62 : decode cX6_mend 62 = .ok (.getfield 21, 3) := by decide +kernel
theorem dX6_mend_65 : decode cX6_mend 65 = .ok (.iload 4, 2) := by decide +kernel
theorem dX6_mend_67 : decode cX6_mend 67 = .ok (.iload 7, 2) := by decide +kernel
theorem dX6_mend_69 : decode cX6_mend 69 = .ok (.invokevirtual 70, 3) := by decide +kernel
theorem dX6_mend_72 : decode cX6_mend 72 = .ok (.iload 6, 2) := by decide +kernel
theorem dX6_mend_74 : decode cX6_mend 74 = .ok (.aload_n 0, 1) := by decide +kernel
theorem dX6_mend_75 : decode cX6_mend 75 = .ok (.getfield 21, 3) := by decide +kernel
theorem dX6_mend_78 : decode cX6_mend 78 = .ok (.aload_n 0, 1) := by decide +kernel
theorem dX6_mend_79 : decode cX6_mend 79 = .ok (.getfield 28, 3) := by decide +kernel
theorem dX6_mend_82 : decode cX6_mend 82 = .ok (.iload 4, 2) := by decide +kernel
theorem dX6_mend_84 : decode cX6_mend 84 = .ok (.invokevirtual 159, 3) := by decide +kernel
theorem dX6_mend_87 : decode cX6_mend 87 = .ok (.isub, 1) := by decide +kernel
theorem dX6_mend_88 : decode cX6_mend 88 = .ok (.istore 8, 2) := by decide +kernel
theorem dX6_mend_90 : decode cX6_mend 90 = .ok (.iload 8, 2) := by decide +kernel
theorem dX6_mend_92 : decode cX6_mend 92 = .ok (.iload_n 3, 1) := by decide +kernel
theorem dX6_mend_93 : decode cX6_mend 93 = .ok (.if_icmp .le 12, 3) := by decide +kernel
theorem dX6_mend_96 : decode cX6_mend 96 = .ok (.iload 8, 2) := by decide +kernel
theorem dX6_mend_98 : decode cX6_mend 98 = .ok (.istore_n 3, 1) := by decide +kernel
theorem dX6_mend_99 : decode cX6_mend 99 = .ok (.iload 4, 2) := by decide +kernel
theorem dX6_mend_101 : decode cX6_mend 101 = .ok (.istore_n 1, 1) := by decide +kernel
theorem dX6_mend_102 : decode cX6_mend 102 = .ok (.iload 7, 2) := by decide +kernel
theorem dX6_mend_104 : decode cX6_mend 104 = .ok (.istore_n 2, 1) := by decide +kernel
theorem dX6_mend_105 : decode cX6_mend 105 = .ok (.iinc 7 1, 3) := by decide +kernel
theorem dX6_mend_108 : decode cX6_mend 108 = .ok (.goto (-54), 3) := by decide +kernel
theorem dX6_mend_111 : decode cX6_mend 111 = .ok (.aload_n 0, 1) := by decide +kernel
theorem dX6_mend_112 : decode cX6_mend 112 = .ok (.getfield 21, 3) := by decide +kernel
theorem dX6_mend_115 : decode cX6_mend 115 = .ok (.iload 4, 2) := by decide +kernel
theorem dX6_mend_117 : decode cX6_mend 117 = .ok (.iload 5, 2) := by decide +kernel
theorem dX6_mend_119 : decode cX6_mend 119 = .ok (.invokevirtual 70, 3) := by decide +kernel
theorem dX6_mend_122 : decode cX6_mend 122 = .ok (.iinc 4 1, 3) := by decide +kernel
theorem dX6_mend_125 : decode cX6_mend 125 = .ok (.goto (-112), 3) := by decide +kernel
theorem dX6_mend_128 : decode cX6_mend 128 = .ok (.iload_n 1, 1) := by decide +kernel
theorem dX6_mend_129 : decode cX6_mend 129 = .ok (.ifCond .ge 13, 3) := by decide +kernel
theorem dX6_mend_132 : decode cX6_mend 132 = .ok (.new 163, 3) := by decide +kernel
theorem dX6_mend_135 : decode cX6_mend 135 = .ok (.dup, 1) := by decide +kernel
theorem dX6_mend_136 : decode cX6_mend 136 = .ok (.ldc 165, 2) := by decide +kernel
theorem dX6_mend_138 : decode cX6_mend 138 = .ok (.invokespecial 167, 3) := by decide +kernel
theorem dX6_mend_141 : decode cX6_mend 141 = .ok (.athrow, 1) := by decide +kernel
theorem dX6_mend_142 : decode cX6_mend 142 = .ok (.aload_n 0, 1) := by decide +kernel
theorem dX6_mend_143 : decode cX6_mend 143 = .ok (.getfield 21, 3) := by decide +kernel
theorem dX6_mend_146 : decode cX6_mend 146 = .ok (.iload_n 1, 1) := by decide +kernel
theorem dX6_mend_147 : decode cX6_mend 147 = .ok (.iload_n 2, 1) := by decide +kernel
theorem dX6_mend_148 : decode cX6_mend 148 = .ok (.invokevirtual 70, 3) := by decide +kernel
theorem dX6_mend_151 : decode cX6_mend 151 = .ok (.iload_n 1, 1) := by decide +kernel
theorem dX6_mend_152 : decode cX6_mend 152 = .ok (.ireturn, 1) := by decide +kernel
set_option maxRecDepth 20000 in
theorem ggX6_range_X6_requireNote : GoodIn wsX6_range wsX6_requireNote := goodIn_ca (goodIn_r _ [8, 1, 2, 9, 10, 11, 12] (by decide +kernel) (by decide +kernel)) (goodIn_sub (fun _ h => List.mem_cons_of_mem _ (List.mem_append_right _ h)) (by decide +kernel))
set_option maxRecDepth 20000 in
theorem gX6_range_X6_requireNote : GoodIn wsX6_range (wsV RX6 32 RX6 yX6_requireNote wsX6_requireNote) := goodIn_app (goodIn_of _ (by decide +kernel)) ggX6_range_X6_requireNote
set_option maxRecDepth 20000 in
theorem ggX6_range_X1_setRange : GoodIn wsX6_range wsX1_setRange := goodIn_r _ [17, 18, 19, 20, 29, 30, 31, 32, 33, 34, 35, 36] (by decide +kernel) (by decide +kernel)
set_option maxRecDepth 20000 in
theorem gX6_range_X1_setRange : GoodIn wsX6_range (wsV RX6 172 RX1 yX1_setRange wsX1_setRange) := goodIn_app (goodIn_of _ (by decide +kernel)) ggX6_range_X1_setRange
set_option maxRecDepth 20000 in
theorem ggX6_range_X1_width : GoodIn wsX6_range wsX1_width := goodIn_r _ [24, 19, 18, 29, 30, 31, 32, 33, 34, 35, 36] (by decide +kernel) (by decide +kernel)
set_option maxRecDepth 20000 in
theorem gX6_range_X1_width : GoodIn wsX6_range (wsV RX6 175 RX1 yX1_width wsX1_width) := goodIn_app (goodIn_of _ (by decide +kernel)) ggX6_range_X1_width
theorem dX6_range_0 : decode cX6_range 0 = .ok (.aload_n 0, 1) := by decide +kernel
theorem dX6_range_1 : decode cX6_range 1 = .ok (.iload_n 1, 1) := by decide +kernel
theorem dX6_range_2 : decode cX6_range 2 = .ok (.invokevirtual 32, 3) := by decide +kernel
theorem dX6_range_5 : decode cX6_range 5 = .ok (.aload_n 0, 1) := by decide +kernel
theorem dX6_range_6 : decode cX6_range 6 = .ok (.iload_n 2, 1) := by decide +kernel
theorem dX6_range_7 : decode cX6_range 7 = .ok (.invokevirtual 32, 3) := by decide +kernel
theorem dX6_range_10 : decode cX6_range 10 = .ok (.iload_n 2, 1) := by decide +kernel
theorem dX6_range_11 : decode cX6_range 11 = .ok (.iload_n 1, 1) := by decide +kernel
theorem dX6_range_12 : decode cX6_range 12 = .ok (.if_icmp .lt 11, 3) := by decide +kernel
theorem dX6_range_15 : decode cX6_range 15 = .ok (.iload_n 2, 1) := by decide +kernel
theorem dX6_range_16 : decode cX6_range 16 = .ok (.iload_n 1, 1) := by decide +kernel
theorem dX6_range_17 : decode cX6_range 17 = .ok (.isub, 1) := by decide +kernel
theorem dX6_range_18 : decode cX6_range 18 = .ok (.bipush 10, 2) := by decide +kernel
theorem dX6_range_20 : decode cX6_range 20 = .ok (.if_icmp .lt 13, 3) := by decide +kernel
theorem dX6_range_23 : decode cX6_range 23 = .ok (.new 77, 3) := by decide +kernel
theorem dX6_range_26 : decode cX6_range 26 = .ok (.dup, 1) := by decide +kernel
theorem dX6_range_27 : decode cX6_range 27 = .ok (.ldc 170, 2) := by decide +kernel
theorem dX6_range_29 : decode cX6_range 29 = .ok (.invokespecial 81, 3) := by decide +kernel
theorem dX6_range_32 : decode cX6_range 32 = .ok (.athrow, 1) := by decide +kernel
theorem dX6_range_33 : decode cX6_range 33 = .ok (.aload_n 0, 1) := by decide +kernel
theorem dX6_range_34 : decode cX6_range 34 = .ok (.getfield 10, 3) := by decide +kernel
theorem dX6_range_37 : decode cX6_range 37 = .ok (.iload_n 1, 1) := by decide +kernel
theorem dX6_range_38 : decode cX6_range 38 = .ok (.iload_n 2, 1) := by decide +kernel
theorem dX6_range_39 : decode cX6_range 39 = .ok (.invokevirtual 172, 3) := by decide +kernel
theorem dX6_range_42 : decode cX6_range 42 = .ok (.aload_n 0, 1) := by decide +kernel
theorem dX6_range_43 : decode cX6_range 43 = .ok (.getfield 10, 3) := by decide +kernel
theorem dX6_range_46 : decode cX6_range 46 = .ok (.invokevirtual 175, 3) := by decide +kernel
theorem dX6_range_49 : decode cX6_range 49 = .ok (.ireturn, 1) := by decide +kernel
set_option maxRecDepth 20000 in
theorem ggX6_find_X6_requireSearchable : GoodIn wsX6_find wsX6_requireSearchable := goodIn_ca (goodIn_ca (goodIn_r _ [10, 11, 12, 13, 14, 15, 16, 17, 18, 19, 20, 21, 22, 23, 24, 25, 26, 282, 283, 284, 285, 286, 287, 288, 289, 290, 291, 292, 293] (by decide +kernel) (by decide +kernel)) (goodIn_sub (fun _ h => List.mem_cons_of_mem _ (List.mem_append_left _ (List.mem_append_left _ (List.mem_append_right _ h)))) (by decide +kernel))) (goodIn_sub (fun _ h => List.mem_cons_of_mem _ (List.mem_append_left _ (List.mem_append_right _ h))) (by decide +kernel))
set_option maxRecDepth 20000 in
theorem gX6_find_X6_requireSearchable : GoodIn wsX6_find (wsV RX6 178 RX6 yX6_requireSearchable wsX6_requireSearchable) := goodIn_app (goodIn_of _ (by decide +kernel)) ggX6_find_X6_requireSearchable
set_option maxRecDepth 20000 in
theorem ggX6_find_X6_readySearch : GoodIn wsX6_find wsX6_readySearch := goodIn_ca (goodIn_r _ [30, 31, 32, 33, 34, 15, 3, 35, 36, 37, 38, 39, 40, 41, 42, 43, 44, 45, 46, 47, 48, 49, 50, 51, 52, 53, 54, 55, 56, 57, 58, 59, 60, 61, 62, 63, 64, 65, 66, 67, 68, 69, 70, 71, 72, 73, 74, 75, 19, 76, 77, 78, 79, 80, 81, 21, 26, 82, 83, 84, 85, 86, 87, 88, 89, 90, 91, 92, 93, 94, 95, 96, 97, 98, 99, 100, 101, 102, 103, 104, 105, 106, 107, 108, 109, 110, 111, 112, 113, 114, 115, 116, 117, 118, 119, 120, 121, 122, 123, 124, 125, 126, 127, 128, 129, 130, 131, 132, 133, 134, 135, 136, 137, 138, 139, 140, 141, 142, 143, 144, 145, 146, 147, 148, 149, 150, 151, 152, 153, 154, 155, 156, 157, 158, 159, 160, 161, 162, 163, 164, 165, 166, 167, 168, 169, 170, 171, 172, 173, 174, 175, 176, 177, 178, 179, 180, 181, 182, 183, 184, 185, 23, 24, 25, 186, 187, 188, 189, 190, 191, 192, 193, 194, 195, 196, 197, 198, 199, 200, 201, 202, 203, 204, 205, 206, 207, 208, 209, 210, 282, 283, 284, 285, 294, 295, 296, 297, 298, 299, 300, 301, 302, 303, 304, 305, 306, 307, 308, 309, 310, 286, 287, 288, 289, 290, 291, 292, 293] (by decide +kernel) (by decide +kernel)) (goodIn_sub (fun _ h => List.mem_cons_of_mem _ (List.mem_append_right _ h)) (by decide +kernel))
set_option maxRecDepth 20000 in
theorem gX6_find_X6_readySearch : GoodIn wsX6_find (wsV RX6 181 RX6 yX6_readySearch wsX6_readySearch) := goodIn_app (goodIn_of _ (by decide +kernel)) ggX6_find_X6_readySearch
set_option maxRecDepth 20000 in
theorem ggX6_find_X2_weighing : GoodIn wsX6_find wsX2_weighing := goodIn_ca (goodIn_r _ [215, 216, 217, 218, 214, 219, 220, 311, 312] (by decide +kernel) (by decide +kernel)) (goodIn_sub (fun _ h => List.mem_cons_of_mem _ (List.mem_append_right _ h)) (by decide +kernel))
set_option maxRecDepth 20000 in
theorem gX6_find_X2_weighing : GoodIn wsX6_find (wsV RX6 130 RX2 yX2_weighing wsX2_weighing) := goodIn_app (goodIn_of _ (by decide +kernel)) ggX6_find_X2_weighing
set_option maxRecDepth 20000 in
theorem ggX6_find_X4_sweep : GoodIn wsX6_find wsX4_sweep := goodIn_ca (goodIn_r _ [224, 70, 225, 226, 227, 34, 228, 71, 229, 230, 231, 232, 233, 50, 52, 234, 235, 236, 237, 105, 106, 107, 108, 238, 239, 240, 241, 49, 198, 199, 200, 201, 242, 243, 244, 245, 42, 246, 247, 248, 214, 249, 216, 217, 218, 219, 220, 250, 251, 252, 253, 254, 255, 256, 257, 66, 67, 68, 69, 258, 259, 260, 261, 262, 263, 264, 265, 266, 267, 268, 269, 294, 295, 296, 297, 298, 299, 300, 301, 302, 303, 304, 305, 306, 307, 311, 312] (by decide +kernel) (by decide +kernel)) (goodIn_sub (fun _ h => List.mem_cons_of_mem _ (List.mem_append_right _ h)) (by decide +kernel))
set_option maxRecDepth 20000 in
theorem gX6_find_X4_sweep : GoodIn wsX6_find (wsV RX6 185 RX4 yX4_sweep wsX4_sweep) := goodIn_app (goodIn_of _ (by decide +kernel)) ggX6_find_X4_sweep
set_option maxRecDepth 20000 in
theorem ggX6_find_X4_writeBest : GoodIn wsX6_find wsX4_writeBest := goodIn_ca (goodIn_r _ [273, 70, 72, 92, 93, 94, 45, 95, 61, 96, 67, 68, 69, 97, 98, 99, 100, 274, 275, 276, 34, 277, 71, 238, 239, 240, 241, 49, 198, 199, 200, 201, 242, 243, 244, 245, 229, 42, 246, 247, 248, 214, 249, 216, 217, 218, 219, 220, 262, 263, 264, 265, 50, 234, 235, 236, 237, 109, 110, 111, 112, 278, 279, 280, 281, 250, 251, 252, 253, 294, 295, 296, 297, 298, 299, 300, 301, 302, 303, 304, 305, 306, 307, 308, 309, 310, 311, 312] (by decide +kernel) (by decide +kernel)) (goodIn_sub (fun _ h => List.mem_cons_of_mem _ (List.mem_append_right _ h)) (by decide +kernel))
set_option maxRecDepth 20000 in
theorem gX6_find_X4_writeBest : GoodIn wsX6_find (wsV RX6 191 RX4 yX4_writeBest wsX4_writeBest) := goodIn_app (goodIn_of _ (by decide +kernel)) ggX6_find_X4_writeBest
theorem dX6_find_0 : decode cX6_find 0 = .ok (.aload_n 0, 1) := by decide +kernel
theorem dX6_find_1 : decode cX6_find 1 = .ok (.invokevirtual 178, 3) := by decide +kernel
theorem dX6_find_4 : decode cX6_find 4 = .ok (.aload_n 0, 1) := by decide +kernel
theorem dX6_find_5 : decode cX6_find 5 = .ok (.invokevirtual 181, 3) := by decide +kernel
theorem dX6_find_8 : decode cX6_find 8 = .ok (.astore_n 1, 1) := by decide +kernel
theorem dX6_find_9 : decode cX6_find 9 = .ok (.aload_n 0, 1) := by decide +kernel
theorem dX6_find_10 : decode cX6_find 10 = .ok (.getfield 28, 3) := by decide +kernel
theorem dX6_find_13 : decode cX6_find 13 = .ok (.bipush 10, 2) := by decide +kernel
theorem dX6_find_15 : decode cX6_find 15 = .ok (.invokevirtual 130, 3) := by decide +kernel
theorem dX6_find_18 : decode cX6_find 18 = .ok (.istore_n 2, 1) := by decide +kernel
theorem dX6_find_19 : decode cX6_find 19 = .ok (.aload_n 1, 1) := by decide +kernel
theorem dX6_find_20 : decode cX6_find 20 = .ok (.iload_n 2, 1) := by decide +kernel
theorem dX6_find_21 : decode cX6_find 21 = .ok (.invokevirtual 185, 3) := by decide +kernel
theorem dX6_find_24 : decode cX6_find 24 = .ok (.istore_n 3, 1) := by decide +kernel
theorem dX6_find_25 : decode cX6_find 25 = .ok (.iload_n 3, 1) := by decide +kernel
theorem dX6_find_26 : decode cX6_find 26 = .ok (.ldc 188, 2) := by decide +kernel
theorem dX6_find_28 : decode cX6_find 28 = .ok (.if_icmp .lt 13, 3) := by decide +kernel
theorem dX6_find_31 : decode cX6_find 31 = .ok (.new 163, 3) := by decide +kernel
theorem dX6_find_34 : decode cX6_find 34 = .ok (.dup, 1) := by decide +kernel
theorem dX6_find_35 : decode cX6_find 35 = .ok (.ldc 189, 2) := by decide +kernel
theorem dX6_find_37 : decode cX6_find 37 = .ok (.invokespecial 167, 3) := by decide +kernel
theorem dX6_find_40 : decode cX6_find 40 = .ok (.athrow, 1) := by decide +kernel
theorem dX6_find_41 : decode cX6_find 41 = .ok (.aload_n 1, 1) := by decide +kernel
theorem dX6_find_42 : decode cX6_find 42 = .ok (.aload_n 0, 1) := by decide +kernel
theorem dX6_find_43 : decode cX6_find 43 = .ok (.getfield 21, 3) := by decide +kernel
theorem dX6_find_46 : decode cX6_find 46 = .ok (.iload_n 2, 1) := by decide +kernel
theorem dX6_find_47 : decode cX6_find 47 = .ok (.invokevirtual 191, 3) := by decide +kernel
theorem dX6_find_50 : decode cX6_find 50 = .ok (.iload_n 3, 1) := by decide +kernel
theorem dX6_find_51 : decode cX6_find 51 = .ok (.ireturn, 1) := by decide +kernel
set_option maxRecDepth 20000 in
theorem ggX6_goodLines_X6_requireSearchable : GoodIn wsX6_goodLines wsX6_requireSearchable := goodIn_ca (goodIn_ca (goodIn_r _ [6, 7, 8, 9, 10, 11, 12, 13, 14, 15, 16, 17, 18, 19, 20, 21, 22, 270, 271, 272, 273, 274, 275, 276, 277, 278, 279, 280, 281] (by decide +kernel) (by decide +kernel)) (goodIn_sub (fun _ h => List.mem_cons_of_mem _ (List.mem_append_left _ (List.mem_append_left _ (List.mem_append_right _ h)))) (by decide +kernel))) (goodIn_sub (fun _ h => List.mem_cons_of_mem _ (List.mem_append_left _ (List.mem_append_right _ h))) (by decide +kernel))
set_option maxRecDepth 20000 in
theorem gX6_goodLines_X6_requireSearchable : GoodIn wsX6_goodLines (wsV RX6 178 RX6 yX6_requireSearchable wsX6_requireSearchable) := goodIn_app (goodIn_of _ (by decide +kernel)) ggX6_goodLines_X6_requireSearchable
set_option maxRecDepth 20000 in
theorem ggX6_goodLines_X6_readySearch : GoodIn wsX6_goodLines wsX6_readySearch := goodIn_ca (goodIn_r _ [26, 27, 28, 29, 30, 11, 1, 31, 32, 33, 34, 35, 36, 37, 38, 39, 40, 41, 42, 43, 44, 45, 46, 47, 48, 49, 50, 51, 52, 53, 54, 55, 56, 57, 58, 59, 60, 61, 62, 63, 64, 65, 66, 67, 68, 69, 70, 71, 15, 72, 73, 74, 75, 76, 77, 17, 22, 78, 79, 80, 81, 82, 83, 84, 85, 86, 87, 88, 89, 90, 91, 92, 93, 94, 95, 96, 97, 98, 99, 100, 101, 102, 103, 104, 105, 106, 107, 108, 109, 110, 111, 112, 113, 114, 115, 116, 117, 118, 119, 120, 121, 122, 123, 124, 125, 126, 127, 128, 129, 130, 131, 132, 133, 134, 135, 136, 137, 138, 139, 140, 141, 142, 143, 144, 145, 146, 147, 148, 149, 150, 151, 152, 153, 154, 155, 156, 157, 158, 159, 160, 161, 162, 163, 164, 165, 166, 167, 168, 169, 170, 171, 172, 173, 174, 175, 176, 177, 178, 179, 180, 181, 19, 20, 21, 182, 183, 184, 185, 186, 187, 188, 189, 190, 191, 192, 193, 194, 195, 196, 197, 198, 199, 200, 201, 202, 203, 204, 205, 206, 270, 271, 272, 273, 282, 283, 284, 285, 286, 287, 288, 289, 290, 291, 292, 293, 294, 295, 296, 297, 298, 274, 275, 276, 277, 278, 279, 280, 281] (by decide +kernel) (by decide +kernel)) (goodIn_sub (fun _ h => List.mem_cons_of_mem _ (List.mem_append_right _ h)) (by decide +kernel))
set_option maxRecDepth 20000 in
theorem gX6_goodLines_X6_readySearch : GoodIn wsX6_goodLines (wsV RX6 181 RX6 yX6_readySearch wsX6_readySearch) := goodIn_app (goodIn_of _ (by decide +kernel)) ggX6_goodLines_X6_readySearch
set_option maxRecDepth 20000 in
theorem ggX6_goodLines_X2_weighing : GoodIn wsX6_goodLines wsX2_weighing := goodIn_ca (goodIn_r _ [211, 212, 213, 214, 210, 215, 216, 299, 300] (by decide +kernel) (by decide +kernel)) (goodIn_sub (fun _ h => List.mem_cons_of_mem _ (List.mem_append_right _ h)) (by decide +kernel))
set_option maxRecDepth 20000 in
theorem gX6_goodLines_X2_weighing : GoodIn wsX6_goodLines (wsV RX6 130 RX2 yX2_weighing wsX2_weighing) := goodIn_app (goodIn_of _ (by decide +kernel)) ggX6_goodLines_X2_weighing
set_option maxRecDepth 20000 in
theorem ggX6_goodLines_X4_sweep : GoodIn wsX6_goodLines wsX4_sweep := goodIn_ca (goodIn_r _ [220, 66, 221, 222, 223, 30, 224, 67, 225, 226, 227, 228, 229, 46, 48, 230, 231, 232, 233, 101, 102, 103, 104, 234, 235, 236, 237, 45, 194, 195, 196, 197, 238, 239, 240, 241, 38, 242, 243, 244, 210, 245, 212, 213, 214, 215, 216, 246, 247, 248, 249, 250, 251, 252, 253, 62, 63, 64, 65, 254, 255, 256, 257, 258, 259, 260, 261, 262, 263, 264, 265, 282, 283, 284, 285, 286, 287, 288, 289, 290, 291, 292, 293, 294, 295, 299, 300] (by decide +kernel) (by decide +kernel)) (goodIn_sub (fun _ h => List.mem_cons_of_mem _ (List.mem_append_right _ h)) (by decide +kernel))
set_option maxRecDepth 20000 in
theorem gX6_goodLines_X4_sweep : GoodIn wsX6_goodLines (wsV RX6 185 RX4 yX4_sweep wsX4_sweep) := goodIn_app (goodIn_of _ (by decide +kernel)) ggX6_goodLines_X4_sweep
set_option maxRecDepth 20000 in
theorem ggX6_goodLines_X4_goodCount : GoodIn wsX6_goodLines wsX4_goodCount := goodIn_ca (goodIn_r _ [269, 262, 263, 264, 30, 265, 48, 230, 231, 232, 233, 282, 283, 284, 285, 286, 287, 288, 289, 290, 291, 292, 293, 294, 295] (by decide +kernel) (by decide +kernel)) (goodIn_sub (fun _ h => List.mem_cons_of_mem _ (List.mem_append_right _ h)) (by decide +kernel))
set_option maxRecDepth 20000 in
theorem gX6_goodLines_X4_goodCount : GoodIn wsX6_goodLines (wsV RX6 195 RX4 yX4_goodCount wsX4_goodCount) := goodIn_app (goodIn_of _ (by decide +kernel)) ggX6_goodLines_X4_goodCount
theorem dX6_goodLines_0 : decode cX6_goodLines 0 = .ok (.aload_n 0, 1) := by decide +kernel
theorem dX6_goodLines_1 : decode cX6_goodLines 1 = .ok (.invokevirtual 178, 3) := by decide +kernel
theorem dX6_goodLines_4 : decode cX6_goodLines 4 = .ok (.aload_n 0, 1) := by decide +kernel
theorem dX6_goodLines_5 : decode cX6_goodLines 5 = .ok (.invokevirtual 181, 3) := by decide +kernel
theorem dX6_goodLines_8 : decode cX6_goodLines 8 = .ok (.astore_n 1, 1) := by decide +kernel
theorem dX6_goodLines_9 : decode cX6_goodLines 9 = .ok (.aload_n 1, 1) := by decide +kernel
theorem dX6_goodLines_10 : decode cX6_goodLines 10 = .ok (.aload_n 0, 1) := by decide +kernel
theorem dX6_goodLines_11 : decode cX6_goodLines 11 = .ok (.getfield 28, 3) := by decide +kernel
theorem dX6_goodLines_14 : decode cX6_goodLines 14 = .ok (.bipush 10, 2) := by decide +kernel
theorem dX6_goodLines_16 : decode cX6_goodLines 16 = .ok (.invokevirtual 130, 3) := by decide +kernel
theorem dX6_goodLines_19 : decode cX6_goodLines 19 = .ok (.invokevirtual 185, 3) := by decide +kernel
theorem dX6_goodLines_22 : decode cX6_goodLines 22 = .ok (.pop, 1) := by decide +kernel
theorem dX6_goodLines_23 : decode cX6_goodLines 23 = .ok (.aload_n 1, 1) := by decide +kernel
theorem dX6_goodLines_24 : decode cX6_goodLines 24 = .ok (.invokevirtual 195, 3) := by decide +kernel
theorem dX6_goodLines_27 : decode cX6_goodLines 27 = .ok (.lreturn, 1) := by decide +kernel
set_option maxRecDepth 20000 in
theorem ggX6_bars_X6_requireSearchable : GoodIn wsX6_bars wsX6_requireSearchable := goodIn_ca (goodIn_ca (goodIn_r _ [5, 6, 7, 8, 9, 10, 11, 12, 13, 14, 15, 16, 17, 18, 19, 20, 21, 283, 284, 285, 286, 287, 288, 289, 290, 291, 292, 293, 294] (by decide +kernel) (by decide +kernel)) (goodIn_sub (fun _ h => List.mem_cons_of_mem _ (List.mem_append_left _ (List.mem_append_left _ (List.mem_append_right _ h)))) (by decide +kernel))) (goodIn_sub (fun _ h => List.mem_cons_of_mem _ (List.mem_append_left _ (List.mem_append_right _ h))) (by decide +kernel))
set_option maxRecDepth 20000 in
theorem gX6_bars_X6_requireSearchable : GoodIn wsX6_bars (wsV RX6 178 RX6 yX6_requireSearchable wsX6_requireSearchable) := goodIn_app (goodIn_of _ (by decide +kernel)) ggX6_bars_X6_requireSearchable
set_option maxRecDepth 20000 in
theorem ggX6_bars_X6_readySearch : GoodIn wsX6_bars wsX6_readySearch := goodIn_ca (goodIn_r _ [25, 26, 27, 28, 29, 10, 30, 31, 32, 33, 34, 35, 36, 37, 38, 39, 40, 41, 42, 43, 44, 45, 46, 47, 48, 49, 50, 51, 52, 53, 54, 55, 56, 57, 58, 59, 60, 61, 62, 63, 64, 65, 66, 67, 68, 69, 70, 71, 14, 72, 73, 74, 75, 76, 77, 16, 21, 78, 79, 80, 81, 82, 83, 84, 85, 86, 87, 88, 89, 90, 91, 92, 93, 94, 95, 96, 97, 98, 99, 100, 101, 102, 103, 104, 105, 106, 107, 108, 109, 110, 111, 112, 113, 114, 115, 116, 117, 118, 119, 120, 121, 122, 123, 124, 125, 126, 127, 128, 129, 130, 131, 132, 133, 134, 135, 136, 137, 138, 139, 140, 141, 142, 143, 144, 145, 146, 147, 148, 149, 150, 151, 152, 153, 154, 155, 156, 157, 158, 159, 160, 161, 162, 163, 164, 165, 166, 167, 168, 169, 170, 171, 172, 173, 174, 175, 176, 177, 178, 179, 180, 181, 18, 19, 20, 182, 183, 184, 185, 186, 187, 188, 189, 190, 191, 192, 193, 194, 195, 196, 197, 198, 199, 200, 201, 202, 203, 204, 205, 206, 283, 284, 285, 286, 295, 296, 297, 298, 299, 300, 301, 302, 303, 304, 305, 306, 307, 308, 309, 310, 311, 287, 288, 289, 290, 291, 292, 293, 294] (by decide +kernel) (by decide +kernel)) (goodIn_sub (fun _ h => List.mem_cons_of_mem _ (List.mem_append_right _ h)) (by decide +kernel))
set_option maxRecDepth 20000 in
theorem gX6_bars_X6_readySearch : GoodIn wsX6_bars (wsV RX6 181 RX6 yX6_readySearch wsX6_readySearch) := goodIn_app (goodIn_of _ (by decide +kernel)) ggX6_bars_X6_readySearch
set_option maxRecDepth 20000 in
theorem ggX6_bars_X4_barring : GoodIn wsX6_bars wsX4_barring := goodIn_ca (goodIn_r _ [210, 50, 49, 51, 38, 211, 212, 213, 214, 215, 216, 217, 218, 219, 220, 221, 222, 223, 224, 225, 226, 227, 228, 229, 230, 29, 231, 66, 232, 233, 234, 235, 67, 236, 237, 238, 239, 46, 48, 240, 241, 242, 243, 101, 102, 103, 104, 244, 245, 246, 247, 45, 194, 195, 196, 197, 248, 249, 250, 251, 252, 253, 254, 255, 256, 257, 258, 259, 260, 261, 262, 263, 62, 63, 64, 65, 264, 265, 266, 267, 268, 269, 270, 271, 272, 273, 274, 275, 295, 296, 297, 298, 299, 300, 301, 302, 303, 304, 305, 306, 307, 308, 312, 313] (by decide +kernel) (by decide +kernel)) (goodIn_sub (fun _ h => List.mem_cons_of_mem _ (List.mem_append_right _ h)) (by decide +kernel))
set_option maxRecDepth 20000 in
theorem gX6_bars_X4_barring : GoodIn wsX6_bars (wsV RX6 199 RX4 yX4_barring wsX4_barring) := goodIn_app (goodIn_of _ (by decide +kernel)) ggX6_bars_X4_barring
set_option maxRecDepth 20000 in
theorem ggX6_bars_J6_bitCount_0f7a4 : GoodIn wsX6_bars wsJ6_bitCount_0f7a4 := goodIn_r _ [279, 280, 281, 282] (by decide +kernel) (by decide +kernel)
set_option maxRecDepth 20000 in
theorem gX6_bars_J6_bitCount_0f7a4 : GoodIn wsX6_bars (va_wsS RX6 136 yJ6_bitCount_0f7a4 wsJ6_bitCount_0f7a4) := goodIn_app (goodIn_of _ (by decide +kernel)) ggX6_bars_J6_bitCount_0f7a4
theorem dX6_bars_0 : decode cX6_bars 0 = .ok (.aload_n 0, 1) := by decide +kernel
theorem dX6_bars_1 : decode cX6_bars 1 = .ok (.invokevirtual 178, 3) := by decide +kernel
theorem dX6_bars_4 : decode cX6_bars 4 = .ok (.aload_n 0, 1) := by decide +kernel
theorem dX6_bars_5 : decode cX6_bars 5 = .ok (.invokevirtual 181, 3) := by decide +kernel
theorem dX6_bars_8 : decode cX6_bars 8 = .ok (.invokevirtual 199, 3) := by decide +kernel
theorem dX6_bars_11 : decode cX6_bars 11 = .ok (.invokestatic 136, 3) := by decide +kernel
theorem dX6_bars_14 : decode cX6_bars 14 = .ok (.ireturn, 1) := by decide +kernel
set_option maxRecDepth 20000 in
theorem ggX6_barAt_X6_requireSearchable : GoodIn wsX6_barAt wsX6_requireSearchable := goodIn_ca (goodIn_ca (goodIn_r _ [7, 8, 9, 10, 11, 12, 13, 14, 15, 16, 17, 18, 19, 20, 21, 22, 23, 340, 341, 342, 343, 344, 345, 346, 347, 348, 349, 350, 351] (by decide +kernel) (by decide +kernel)) (goodIn_sub (fun _ h => List.mem_cons_of_mem _ (List.mem_append_left _ (List.mem_append_left _ (List.mem_append_right _ h)))) (by decide +kernel))) (goodIn_sub (fun _ h => List.mem_cons_of_mem _ (List.mem_append_left _ (List.mem_append_right _ h))) (by decide +kernel))
set_option maxRecDepth 20000 in
theorem gX6_barAt_X6_requireSearchable : GoodIn wsX6_barAt (wsV RX6 178 RX6 yX6_requireSearchable wsX6_requireSearchable) := goodIn_app (goodIn_of _ (by decide +kernel)) ggX6_barAt_X6_requireSearchable
set_option maxRecDepth 20000 in
theorem ggX6_barAt_X6_readySearch : GoodIn wsX6_barAt wsX6_readySearch := goodIn_ca (goodIn_r _ [27, 28, 29, 30, 31, 12, 32, 33, 34, 35, 36, 37, 38, 39, 40, 41, 42, 43, 44, 45, 46, 47, 48, 49, 50, 51, 52, 53, 54, 55, 56, 57, 58, 59, 60, 61, 62, 63, 64, 65, 66, 67, 68, 69, 70, 71, 72, 73, 16, 74, 75, 76, 77, 78, 79, 18, 23, 80, 81, 82, 83, 84, 85, 86, 87, 88, 89, 90, 91, 92, 93, 94, 95, 96, 97, 98, 99, 100, 101, 102, 103, 104, 105, 106, 107, 108, 109, 110, 111, 112, 113, 114, 115, 116, 117, 118, 119, 120, 121, 122, 123, 124, 125, 126, 127, 128, 129, 130, 131, 132, 133, 134, 135, 136, 137, 138, 139, 140, 141, 142, 143, 144, 145, 146, 147, 148, 149, 150, 151, 152, 153, 154, 155, 156, 157, 158, 159, 160, 161, 162, 163, 164, 165, 166, 167, 168, 169, 170, 171, 172, 173, 174, 175, 176, 177, 178, 179, 180, 181, 182, 183, 20, 21, 22, 184, 185, 186, 187, 188, 189, 190, 191, 192, 193, 194, 195, 196, 197, 198, 199, 200, 201, 202, 203, 204, 205, 206, 207, 208, 340, 341, 342, 343, 352, 353, 354, 355, 356, 357, 358, 359, 360, 361, 362, 363, 364, 365, 366, 367, 368, 344, 345, 346, 347, 348, 349, 350, 351] (by decide +kernel) (by decide +kernel)) (goodIn_sub (fun _ h => List.mem_cons_of_mem _ (List.mem_append_right _ h)) (by decide +kernel))
set_option maxRecDepth 20000 in
theorem gX6_barAt_X6_readySearch : GoodIn wsX6_barAt (wsV RX6 181 RX6 yX6_readySearch wsX6_readySearch) := goodIn_app (goodIn_of _ (by decide +kernel)) ggX6_barAt_X6_readySearch
set_option maxRecDepth 20000 in
theorem ggX6_barAt_X4_barring : GoodIn wsX6_barAt wsX4_barring := goodIn_ca (goodIn_r _ [212, 52, 51, 53, 40, 213, 214, 215, 216, 217, 218, 219, 220, 221, 222, 223, 224, 225, 226, 227, 228, 229, 230, 231, 232, 31, 233, 68, 234, 235, 236, 237, 69, 238, 239, 240, 241, 48, 50, 242, 243, 244, 245, 103, 104, 105, 106, 246, 247, 248, 249, 47, 196, 197, 198, 199, 250, 251, 252, 253, 254, 255, 256, 257, 258, 259, 260, 261, 262, 263, 264, 265, 64, 65, 66, 67, 266, 267, 268, 269, 270, 271, 272, 273, 274, 275, 276, 277, 352, 353, 354, 355, 356, 357, 358, 359, 360, 361, 362, 363, 364, 365, 369, 370] (by decide +kernel) (by decide +kernel)) (goodIn_sub (fun _ h => List.mem_cons_of_mem _ (List.mem_append_right _ h)) (by decide +kernel))
set_option maxRecDepth 20000 in
theorem gX6_barAt_X4_barring : GoodIn wsX6_barAt (wsV RX6 199 RX4 yX4_barring wsX4_barring) := goodIn_app (goodIn_of _ (by decide +kernel)) ggX6_barAt_X4_barring
set_option maxRecDepth 20000 in
theorem ggX6_barAt_J6_bitCount_0f7a4 : GoodIn wsX6_barAt wsJ6_bitCount_0f7a4 := goodIn_r _ [281, 282, 283, 284] (by decide +kernel) (by decide +kernel)
set_option maxRecDepth 20000 in
theorem gX6_barAt_J6_bitCount_0f7a4 : GoodIn wsX6_barAt (va_wsS RX6 136 yJ6_bitCount_0f7a4 wsJ6_bitCount_0f7a4) := goodIn_app (goodIn_of _ (by decide +kernel)) ggX6_barAt_J6_bitCount_0f7a4
set_option maxRecDepth 20000 in
theorem ggX6_barAt_X2_nthOf : GoodIn wsX6_barAt wsX2_nthOf := goodIn_r _ [287] (by decide +kernel) (by decide +kernel)
set_option maxRecDepth 20000 in
theorem gX6_barAt_X2_nthOf : GoodIn wsX6_barAt (va_wsS RX6 207 yX2_nthOf wsX2_nthOf) := goodIn_app (goodIn_of _ (by decide +kernel)) ggX6_barAt_X2_nthOf
set_option maxRecDepth 20000 in
theorem ggX6_barAt_X2_signOf : GoodIn wsX6_barAt wsX2_signOf := goodIn_r _ [290, 291, 292, 293, 294, 295, 296, 297, 298, 299, 300, 301, 302, 303, 304, 305, 306, 307, 308, 309, 310, 311, 312, 313, 314, 315, 316, 317, 318, 319, 320, 321, 322, 323, 324, 325, 326, 327, 328, 329, 330, 331, 332, 333, 334, 335, 336, 337, 338, 339, 371, 372] (by decide +kernel) (by decide +kernel)
set_option maxRecDepth 20000 in
theorem gX6_barAt_X2_signOf : GoodIn wsX6_barAt (va_wsS RX6 144 yX2_signOf wsX2_signOf) := goodIn_app (goodIn_of _ (by decide +kernel)) ggX6_barAt_X2_signOf
theorem dX6_barAt_0 : decode cX6_barAt 0 = .ok (.aload_n 0, 1) := by decide +kernel
theorem dX6_barAt_1 : decode cX6_barAt 1 = .ok (.invokevirtual 178, 3) := by decide +kernel
theorem dX6_barAt_4 : decode cX6_barAt 4 = .ok (.aload_n 0, 1) := by decide +kernel
theorem dX6_barAt_5 : decode cX6_barAt 5 = .ok (.invokevirtual 181, 3) := by decide +kernel
theorem dX6_barAt_8 : decode cX6_barAt 8 = .ok (.invokevirtual 199, 3) := by decide +kernel
theorem dX6_barAt_11 : decode cX6_barAt 11 = .ok (.istore_n 2, 1) := by decide +kernel
theorem dX6_barAt_12 : decode cX6_barAt 12 = .ok (.iload_n 1, 1) := by decide +kernel
theorem dX6_barAt_13 : decode cX6_barAt 13 = .ok (.ifCond .lt 11, 3) := by decide +kernel
theorem dX6_barAt_16 : decode cX6_barAt 16 = .ok (.iload_n 1, 1) := by decide +kernel
theorem dX6_barAt_17 : decode cX6_barAt 17 = .ok (.iload_n 2, 1) := by decide +kernel
theorem dX6_barAt_18 : decode cX6_barAt 18 = .ok (.invokestatic 136, 3) := by decide +kernel
theorem dX6_barAt_21 : decode cX6_barAt 21 = .ok (.if_icmp .lt 13, 3) := by decide +kernel
theorem dX6_barAt_24 : decode cX6_barAt 24 = .ok (.new 202, 3) := by decide +kernel
theorem dX6_barAt_27 : decode cX6_barAt 27 = .ok (.dup, 1) := by decide +kernel
theorem dX6_barAt_28 : decode cX6_barAt 28 = .ok (.ldc 204, 2) := by decide +kernel
theorem dX6_barAt_30 : decode cX6_barAt 30 = .ok (.invokespecial 206, 3) := by decide +kernel
theorem dX6_barAt_33 : decode cX6_barAt 33 = .ok (.athrow, 1) := by decide +kernel
theorem dX6_barAt_34 : decode cX6_barAt 34 = .ok (.iload_n 2, 1) := by decide +kernel
theorem dX6_barAt_35 : decode cX6_barAt 35 = .ok (.iload_n 1, 1) := by decide +kernel
theorem dX6_barAt_36 : decode cX6_barAt 36 = .ok (.invokestatic 207, 3) := by decide +kernel
theorem dX6_barAt_39 : decode cX6_barAt 39 = .ok (.invokestatic 144, 3) := by decide +kernel
theorem dX6_barAt_42 : decode cX6_barAt 42 = .ok (.ireturn, 1) := by decide +kernel
set_option maxRecDepth 20000 in
theorem ggX6_readySearch_X4_init : GoodIn wsX6_readySearch wsX4_init := goodIn_r _ [9, 10, 11, 12, 13, 14, 15, 16, 17, 18, 19, 20, 21, 22, 23, 24, 25, 26, 27, 28, 29, 30, 31, 32, 33, 193, 194, 195, 196, 197, 198, 199, 200, 201, 202, 203, 204, 205, 206, 207, 208, 209] (by decide +kernel) (by decide +kernel)
set_option maxRecDepth 20000 in
theorem gX6_readySearch_X4_init : GoodIn wsX6_readySearch (wsX4_init) := ggX6_readySearch_X4_init
set_option maxRecDepth 20000 in
theorem ggX6_readySearch_X4_prepare : GoodIn wsX6_readySearch wsX4_prepare := goodIn_ca (goodIn_r _ [37, 25, 13, 38, 39, 40, 41, 42, 43, 44, 18, 45, 46, 47, 48, 49, 50, 51, 52, 53, 54, 55, 56, 57, 58, 59, 60, 61, 62, 63, 64, 65, 66, 67, 68, 69, 17, 70, 33, 71, 72, 73, 74, 75, 76, 77, 78, 4, 79, 21, 80, 81, 82, 83, 84, 85, 86, 87, 88, 89, 90, 91, 32, 92, 93, 94, 95, 96, 97, 98, 99, 100, 101, 102, 103, 104, 105, 106, 107, 108, 109, 110, 111, 112, 113, 114, 115, 116, 117, 118, 119, 120, 121, 122, 123, 124, 125, 126, 127, 128, 129, 130, 131, 132, 133, 134, 135, 136, 137, 138, 139, 140, 141, 142, 143, 144, 145, 146, 147, 148, 149, 150, 151, 152, 153, 154, 155, 156, 157, 158, 159, 160, 161, 162, 163, 164, 165, 166, 167, 168, 169, 170, 171, 172, 173, 174, 175, 176, 177, 178, 179, 180, 181, 182, 183, 184, 185, 186, 187, 188, 193, 194, 195, 196, 197, 198, 199, 200, 201, 202, 203, 204, 205, 206, 210, 211, 212, 213, 214, 215, 216, 217, 207, 208, 209] (by decide +kernel) (by decide +kernel)) (goodIn_sub (fun _ h => List.mem_cons_of_mem _ (List.mem_append_right _ h)) (by decide +kernel))
set_option maxRecDepth 20000 in
theorem gX6_readySearch_X4_prepare : GoodIn wsX6_readySearch (wsV RX6 218 RX4 yX4_prepare wsX4_prepare) := goodIn_app (goodIn_of _ (by decide +kernel)) ggX6_readySearch_X4_prepare
theorem dX6_readySearch_0 : decode cX6_readySearch 0 = .ok (.aload_n 0, 1) := by decide +kernel
theorem dX6_readySearch_1 : decode cX6_readySearch 1 = .ok (.getfield 211, 3) := by decide +kernel
theorem dX6_readySearch_4 : decode cX6_readySearch 4 = .ok (.ifnonnull 22, 3) := by decide +kernel
theorem dX6_readySearch_7 : decode cX6_readySearch 7 = .ok (.aload_n 0, 1) := by decide +kernel
theorem dX6_readySearch_8 : decode cX6_readySearch 8 = .ok (.new 168, 3) := by decide +kernel
theorem dX6_readySearch_11 : decode cX6_readySearch 11 = .ok (.dup, 1) := by decide +kernel
theorem dX6_readySearch_12 : decode cX6_readySearch 12 = .ok (.aload_n 0, 1) := by decide +kernel
theorem dX6_readySearch_13 : decode cX6_readySearch 13 = .ok (.getfield 10, 3) := by decide +kernel
theorem dX6_readySearch_16 : decode cX6_readySearch 16 = .ok (.aload_n 0, 1) := by decide +kernel
theorem dX6_readySearch_17 : decode cX6_readySearch 17 = .ok (.getfield 28, 3) := by decide +kernel
theorem dX6_readySearch_20 : decode cX6_readySearch 20 = .ok (.invokespecial 215, 3) := by decide +kernel
theorem dX6_readySearch_23 : decode cX6_readySearch 23 = .ok (.putfield 211, 3) := by decide +kernel
theorem dX6_readySearch_26 : decode cX6_readySearch 26 = .ok (.aload_n 0, 1) := by decide +kernel
theorem dX6_readySearch_27 : decode cX6_readySearch 27 = .ok (.getfield 211, 3) := by decide +kernel
theorem dX6_readySearch_30 : decode cX6_readySearch 30 = .ok (.invokevirtual 218, 3) := by decide +kernel
theorem dX6_readySearch_33 : decode cX6_readySearch 33 = .ok (.aload_n 0, 1) := by decide +kernel
theorem dX6_readySearch_34 : decode cX6_readySearch 34 = .ok (.getfield 211, 3) := by decide +kernel
theorem dX6_readySearch_37 : decode cX6_readySearch 37 = .ok (.areturn, 1) := by decide +kernel
set_option maxRecDepth 20000 in
theorem ggX6_exchanged_X6_requireWhole : GoodIn wsX6_exchanged wsX6_requireWhole := goodIn_ca (goodIn_r _ [9, 10, 11, 3, 12, 13, 14, 15, 16, 17, 18, 19, 20, 21, 22, 23, 24, 25, 26, 27, 28, 29, 75, 76, 77, 78, 79, 80, 81, 82, 83, 84, 85, 86, 87, 88, 89] (by decide +kernel) (by decide +kernel)) (goodIn_sub (fun _ h => List.mem_cons_of_mem _ (List.mem_append_left _ (List.mem_append_right _ h))) (by decide +kernel))
set_option maxRecDepth 20000 in
theorem gX6_exchanged_X6_requireWhole : GoodIn wsX6_exchanged (wsV RX6 156 RX6 yX6_requireWhole wsX6_requireWhole) := goodIn_app (goodIn_of _ (by decide +kernel)) ggX6_exchanged_X6_requireWhole
set_option maxRecDepth 20000 in
theorem ggX6_exchanged_X3_length : GoodIn wsX6_exchanged wsX3_length := goodIn_r _ [33, 18, 79, 80, 81] (by decide +kernel) (by decide +kernel)
set_option maxRecDepth 20000 in
theorem gX6_exchanged_X3_length : GoodIn wsX6_exchanged (wsV RX6 60 RX3 yX3_length wsX3_length) := goodIn_app (goodIn_of _ (by decide +kernel)) ggX6_exchanged_X3_length
set_option maxRecDepth 20000 in
theorem ggX6_exchanged_X3_toneAt : GoodIn wsX6_exchanged wsX3_toneAt := goodIn_ca (goodIn_r _ [37, 38, 79, 80, 81] (by decide +kernel) (by decide +kernel)) (goodIn_sub (fun _ h => List.mem_cons_of_mem _ (List.mem_append_right _ h)) (by decide +kernel))
set_option maxRecDepth 20000 in
theorem gX6_exchanged_X3_toneAt : GoodIn wsX6_exchanged (wsV RX6 66 RX3 yX3_toneAt wsX3_toneAt) := goodIn_app (goodIn_of _ (by decide +kernel)) ggX6_exchanged_X3_toneAt
set_option maxRecDepth 20000 in
theorem ggX6_exchanged_X1_against : GoodIn wsX6_exchanged wsX1_against := goodIn_ca (goodIn_r _ [42, 29, 24, 43, 82, 83, 84, 85, 86, 87, 88, 89] (by decide +kernel) (by decide +kernel)) (goodIn_sub (fun _ h => List.mem_cons_of_mem _ (List.mem_append_right _ h)) (by decide +kernel))
set_option maxRecDepth 20000 in
theorem gX6_exchanged_X1_against : GoodIn wsX6_exchanged (wsV RX6 223 RX1 yX1_against wsX1_against) := goodIn_app (goodIn_of _ (by decide +kernel)) ggX6_exchanged_X1_against
set_option maxRecDepth 20000 in
theorem ggX6_exchanged_X5_plainGap : GoodIn wsX6_exchanged wsX5_plainGap := goodIn_r _ [47, 48, 49, 46, 50, 51, 52, 53, 54, 55, 56, 57] (by decide +kernel) (by decide +kernel)
set_option maxRecDepth 20000 in
theorem gX6_exchanged_X5_plainGap : GoodIn wsX6_exchanged (va_wsS RX6 226 yX5_plainGap wsX5_plainGap) := goodIn_app (goodIn_of _ (by decide +kernel)) ggX6_exchanged_X5_plainGap
set_option maxRecDepth 20000 in
theorem ggX6_exchanged_X1_isStrong : GoodIn wsX6_exchanged wsX1_isStrong := goodIn_r _ [61, 62, 63, 64, 22, 65, 29, 82, 83, 84, 85, 86, 87, 88, 89] (by decide +kernel) (by decide +kernel)
set_option maxRecDepth 20000 in
theorem gX6_exchanged_X1_isStrong : GoodIn wsX6_exchanged (wsV RX6 229 RX1 yX1_isStrong wsX1_isStrong) := goodIn_app (goodIn_of _ (by decide +kernel)) ggX6_exchanged_X1_isStrong
set_option maxRecDepth 20000 in
theorem ggX6_exchanged_X5_isDissonant : GoodIn wsX6_exchanged wsX5_isDissonant := goodIn_r _ [68, 69, 70, 46, 71, 72, 73, 74] (by decide +kernel) (by decide +kernel)
set_option maxRecDepth 20000 in
theorem gX6_exchanged_X5_isDissonant : GoodIn wsX6_exchanged (va_wsS RX6 232 yX5_isDissonant wsX5_isDissonant) := goodIn_app (goodIn_of _ (by decide +kernel)) ggX6_exchanged_X5_isDissonant
theorem dX6_exchanged_0 : decode cX6_exchanged 0 = .ok (.iload_n 1, 1) := by decide +kernel
theorem dX6_exchanged_1 : decode cX6_exchanged 1 = .ok (.bipush 7, 2) := by decide +kernel
theorem dX6_exchanged_3 : decode cX6_exchanged 3 = .ok (.if_icmp .lt 9, 3) := by decide +kernel
theorem dX6_exchanged_6 : decode cX6_exchanged 6 = .ok (.iload_n 1, 1) := by decide +kernel
theorem dX6_exchanged_7 : decode cX6_exchanged 7 = .ok (.bipush 14, 2) := by decide +kernel
theorem dX6_exchanged_9 : decode cX6_exchanged 9 = .ok (.if_icmp .le 13, 3) := by decide +kernel
theorem dX6_exchanged_12 : decode cX6_exchanged 12 = .ok (.new 77, 3) := by decide +kernel
theorem dX6_exchanged_15 : decode cX6_exchanged 15 = .ok (.dup, 1) := by decide +kernel
theorem dX6_exchanged_16 : decode cX6_exchanged 16 = .ok (.ldc 221, 2) := by decide +kernel
theorem dX6_exchanged_18 : decode cX6_exchanged 18 = .ok (.invokespecial 81, 3) := by decide +kernel
theorem dX6_exchanged_21 : decode cX6_exchanged 21 = .ok (.athrow, 1) := by decide +kernel
theorem dX6_exchanged_22 : decode cX6_exchanged 22 = .ok (.aload_n 0, 1) := by decide +kernel
theorem dX6_exchanged_23 : decode cX6_exchanged 23 = .ok (.invokevirtual 156, 3) := by decide +kernel
theorem dX6_exchanged_26 : decode cX6_exchanged 26 = .ok (.iconst 0, 1) := by decide +kernel
theorem dX6_exchanged_27 : decode cX6_exchanged 27 = .ok (.istore_n 2, 1) := by decide +kernel
theorem dX6_exchanged_28 : decode cX6_exchanged 28 = .ok (.iconst 0, 1) := by decide +kernel
theorem dX6_exchanged_29 : decode cX6_exchanged 29 = .ok (.istore_n 3, 1) := by decide +kernel
theorem dX6_exchanged_30 : decode cX6_exchanged 30 = .ok (.iload_n 3, 1) := by decide +kernel
theorem dX6_exchanged_31 : decode cX6_exchanged 31 = .ok (.aload_n 0, 1) := by decide +kernel
theorem dX6_exchanged_32 : decode cX6_exchanged 32 = .ok (.getfield 21, 3) := by decide +kernel
theorem dX6_exchanged_35 : decode cX6_exchanged 35 = .ok (.invokevirtual 60, 3) := by decide +kernel
theorem dX6_exchanged_38 : decode cX6_exchanged 38 = .ok (.if_icmp .ge 54, 3) := by decide +kernel
theorem dX6_exchanged_41 : decode cX6_exchanged 41 = .ok (.aload_n 0, 1) := by decide +kernel
theorem dX6_exchanged_42 : decode cX6_exchanged 42 = .ok (.getfield 21, 3) := by decide +kernel
theorem dX6_exchanged_45 : decode cX6_exchanged 45 = .ok (.iload_n 3, 1) := by decide +kernel
theorem dX6_exchanged_46 : decode cX6_exchanged 46 = .ok (.invokevirtual 66, 3) := by decide +kernel
theorem dX6_exchanged_49 : decode cX6_exchanged 49 = .ok (.iload_n 1, 1) := by decide +kernel
theorem dX6_exchanged_50 : decode cX6_exchanged 50 = .ok (.isub, 1) := by decide +kernel
theorem dX6_exchanged_51 : decode cX6_exchanged 51 = .ok (.aload_n 0, 1) := by decide +kernel
theorem dX6_exchanged_52 : decode cX6_exchanged 52 = .ok (.getfield 10, 3) := by decide +kernel
theorem dX6_exchanged_55 : decode cX6_exchanged 55 = .ok (.iload_n 3, 1) := by decide +kernel
theorem dX6_exchanged_56 : decode cX6_exchanged 56 = .ok (.invokevirtual 223, 3) := by decide +kernel
theorem dX6_exchanged_59 : decode cX6_exchanged 59 = .ok (.invokestatic 226, 3) := by decide +kernel
theorem dX6_exchanged_62 : decode cX6_exchanged 62 = .ok (.istore 4, 2) := by decide +kernel
theorem dX6_exchanged_64 : decode cX6_exchanged 64 = .ok (.aload_n 0, 1) := by decide +kernel
theorem dX6_exchanged_65 : decode cX6_exchanged 65 = .ok (.getfield 10, 3) := by decide +kernel
theorem dX6_exchanged_68 : decode cX6_exchanged 68 = .ok (.iload_n 3, 1) := by decide +kernel
theorem dX6_exchanged_69 : decode cX6_exchanged 69 = .ok (.invokevirtual 229, 3) := by decide +kernel
theorem dX6_exchanged_72 : decode cX6_exchanged 72 = .ok (.ifCond .eq 14, 3) := by decide +kernel
theorem dX6_exchanged_75 : decode cX6_exchanged 75 = .ok (.iload 4, 2) := by decide +kernel
theorem dX6_exchanged_77 : decode cX6_exchanged 77 = .ok (.invokestatic 232, 3) := by decide +kernel
theorem dX6_exchanged_80 : decode cX6_exchanged 80 = .ok (.ifCond .eq 6, 3) := by decide +kernel
theorem dX6_exchanged_83 : decode cX6_exchanged 83 = .ok (.iinc 2 1, 3) := by decide +kernel
theorem dX6_exchanged_86 : decode cX6_exchanged 86 = .ok (.iinc 3 1, 3) := by decide +kernel
theorem dX6_exchanged_89 : decode cX6_exchanged 89 = .ok (.goto (-59), 3) := by decide +kernel
theorem dX6_exchanged_92 : decode cX6_exchanged 92 = .ok (.iload_n 2, 1) := by decide +kernel
theorem dX6_exchanged_93 : decode cX6_exchanged 93 = .ok (.ireturn, 1) := by decide +kernel
set_option maxRecDepth 20000 in
theorem ggX6_canon_X3_length : GoodIn wsX6_canon wsX3_length := goodIn_r _ [10, 11, 55, 56, 57] (by decide +kernel) (by decide +kernel)
set_option maxRecDepth 20000 in
theorem gX6_canon_X3_length : GoodIn wsX6_canon (wsV RX6 60 RX3 yX3_length wsX3_length) := goodIn_app (goodIn_of _ (by decide +kernel)) ggX6_canon_X3_length
set_option maxRecDepth 20000 in
theorem ggX6_canon_X0_faultsOf : GoodIn wsX6_canon wsX0_faultsOf := goodIn_ca (goodIn_r _ [15, 16, 7, 8, 9, 10, 11, 17, 18, 19, 20, 21, 22, 23, 24, 25, 26, 27, 28, 29, 30, 31, 32, 33, 34, 35, 36, 37, 38, 39, 40, 41, 42, 43, 44, 45, 46, 47, 48, 49, 50, 55, 56, 57] (by decide +kernel) (by decide +kernel)) (goodIn_sub (fun _ h => List.mem_cons_of_mem _ (List.mem_append_right _ h)) (by decide +kernel))
set_option maxRecDepth 20000 in
theorem gX6_canon_X0_faultsOf : GoodIn wsX6_canon (va_wsS RX6 243 yX0_faultsOf wsX0_faultsOf) := goodIn_app (goodIn_of _ (by decide +kernel)) ggX6_canon_X0_faultsOf
theorem dX6_canon_0 : decode cX6_canon 0 = .ok (.iload_n 1, 1) := by decide +kernel
theorem dX6_canon_1 : decode cX6_canon 1 = .ok (.iconst 1, 1) := by decide +kernel
theorem dX6_canon_2 : decode cX6_canon 2 = .ok (.if_icmp .lt 9, 3) := by decide +kernel
theorem dX6_canon_5 : decode cX6_canon 5 = .ok (.iload_n 1, 1) := by decide +kernel
theorem dX6_canon_6 : decode cX6_canon 6 = .ok (.bipush 12, 2) := by decide +kernel
theorem dX6_canon_8 : decode cX6_canon 8 = .ok (.if_icmp .le 13, 3) := by decide +kernel
theorem dX6_canon_11 : decode cX6_canon 11 = .ok (.new 77, 3) := by decide +kernel
theorem dX6_canon_14 : decode cX6_canon 14 = .ok (.dup, 1) := by decide +kernel
theorem dX6_canon_15 : decode cX6_canon 15 = .ok (.ldc 237, 2) := by decide +kernel
theorem dX6_canon_17 : decode cX6_canon 17 = .ok (.invokespecial 81, 3) := by decide +kernel
theorem dX6_canon_20 : decode cX6_canon 20 = .ok (.athrow, 1) := by decide +kernel
theorem dX6_canon_21 : decode cX6_canon 21 = .ok (.iload_n 2, 1) := by decide +kernel
theorem dX6_canon_22 : decode cX6_canon 22 = .ok (.bipush (-7), 2) := by decide +kernel
theorem dX6_canon_24 : decode cX6_canon 24 = .ok (.if_icmp .lt 9, 3) := by decide +kernel
theorem dX6_canon_27 : decode cX6_canon 27 = .ok (.iload_n 2, 1) := by decide +kernel
theorem dX6_canon_28 : decode cX6_canon 28 = .ok (.bipush 7, 2) := by decide +kernel
theorem dX6_canon_30 : decode cX6_canon 30 = .ok (.if_icmp .le 13, 3) := by decide +kernel
theorem dX6_canon_33 : decode cX6_canon 33 = .ok (.new 77, 3) := by decide +kernel
theorem dX6_canon_36 : decode cX6_canon 36 = .ok (.dup, 1) := by decide +kernel
theorem dX6_canon_37 : decode cX6_canon 37 = .ok (.ldc 239, 2) := by decide +kernel
theorem dX6_canon_39 : decode cX6_canon 39 = .ok (.invokespecial 81, 3) := by decide +kernel
theorem dX6_canon_42 : decode cX6_canon 42 = .ok (.athrow, 1) := by decide +kernel
theorem dX6_canon_43 : decode cX6_canon 43 = .ok (.aload_n 0, 1) := by decide +kernel
theorem dX6_canon_44 : decode cX6_canon 44 = .ok (.getfield 21, 3) := by decide +kernel
theorem dX6_canon_47 : decode cX6_canon 47 = .ok (.invokevirtual 60, 3) := by decide +kernel
theorem dX6_canon_50 : decode cX6_canon 50 = .ok (.iload_n 1, 1) := by decide +kernel
theorem dX6_canon_51 : decode cX6_canon 51 = .ok (.if_icmp .gt 13, 3) := by decide +kernel
theorem dX6_canon_54 : decode cX6_canon 54 = .ok (.new 40, 3) := by decide +kernel
theorem dX6_canon_57 : decode cX6_canon 57 = .ok (.dup, 1) := by decide +kernel
theorem dX6_canon_58 : decode cX6_canon 58 = .ok (.ldc 241, 2) := by decide +kernel
theorem dX6_canon_60 : decode cX6_canon 60 = .ok (.invokespecial 44, 3) := by decide +kernel
theorem dX6_canon_63 : decode cX6_canon 63 = .ok (.athrow, 1) := by decide +kernel
theorem dX6_canon_64 : decode cX6_canon 64 = .ok (.aload_n 0, 1) := by decide +kernel
theorem dX6_canon_65 : decode cX6_canon 65 = .ok (.getfield 21, 3) := by decide +kernel
theorem dX6_canon_68 : decode cX6_canon 68 = .ok (.iload_n 1, 1) := by decide +kernel
theorem dX6_canon_69 : decode cX6_canon 69 = .ok (.iload_n 2, 1) := by decide +kernel
theorem dX6_canon_70 : decode cX6_canon 70 = .ok (.invokestatic 243, 3) := by decide +kernel
theorem dX6_canon_73 : decode cX6_canon 73 = .ok (.ireturn, 1) := by decide +kernel
set_option maxRecDepth 20000 in
theorem ggX6_canons_X6_requireTwoNotes : GoodIn wsX6_canons wsX6_requireTwoNotes := goodIn_ca (goodIn_r _ [6, 7, 8, 1, 9, 10, 11, 12, 13, 14, 63, 64, 65, 66, 67, 68, 69] (by decide +kernel) (by decide +kernel)) (goodIn_sub (fun _ h => List.mem_cons_of_mem _ (List.mem_append_left _ (List.mem_append_right _ h))) (by decide +kernel))
set_option maxRecDepth 20000 in
theorem gX6_canons_X6_requireTwoNotes : GoodIn wsX6_canons (wsV RX6 247 RX6 yX6_requireTwoNotes wsX6_requireTwoNotes) := goodIn_app (goodIn_of _ (by decide +kernel)) ggX6_canons_X6_requireTwoNotes
set_option maxRecDepth 20000 in
theorem ggX6_canons_X0_faultlessCount : GoodIn wsX6_canons wsX0_faultlessCount := goodIn_ca (goodIn_r _ [18, 19, 20, 17, 21, 22, 23, 24, 25, 26, 10, 11, 12, 13, 14, 27, 28, 29, 30, 31, 32, 33, 34, 35, 36, 37, 38, 39, 40, 41, 42, 43, 44, 45, 46, 47, 48, 49, 50, 51, 52, 53, 54, 55, 56, 57, 58, 59, 60, 61, 62, 67, 68, 69] (by decide +kernel) (by decide +kernel)) (goodIn_sub (fun _ h => List.mem_cons_of_mem _ (List.mem_append_right _ h)) (by decide +kernel))
set_option maxRecDepth 20000 in
theorem gX6_canons_X0_faultlessCount : GoodIn wsX6_canons (va_wsS RX6 250 yX0_faultlessCount wsX0_faultlessCount) := goodIn_app (goodIn_of _ (by decide +kernel)) ggX6_canons_X0_faultlessCount
theorem dX6_canons_0 : decode cX6_canons 0 = .ok (.aload_n 0, 1) := by decide +kernel
theorem dX6_canons_1 : decode cX6_canons 1 = .ok (.invokevirtual 247, 3) := by decide +kernel
theorem dX6_canons_4 : decode cX6_canons 4 = .ok (.aload_n 0, 1) := by decide +kernel
theorem dX6_canons_5 : decode cX6_canons 5 = .ok (.getfield 21, 3) := by decide +kernel
theorem dX6_canons_8 : decode cX6_canons 8 = .ok (.invokestatic 250, 3) := by decide +kernel
theorem dX6_canons_11 : decode cX6_canons 11 = .ok (.ireturn, 1) := by decide +kernel
set_option maxRecDepth 20000 in
theorem ggX6_canonAt_X6_requireTwoNotes : GoodIn wsX6_canonAt wsX6_requireTwoNotes := goodIn_ca (goodIn_r _ [8, 9, 10, 3, 11, 12, 13, 14, 15, 16, 65, 66, 67, 68, 69, 70, 71] (by decide +kernel) (by decide +kernel)) (goodIn_sub (fun _ h => List.mem_cons_of_mem _ (List.mem_append_left _ (List.mem_append_right _ h))) (by decide +kernel))
set_option maxRecDepth 20000 in
theorem gX6_canonAt_X6_requireTwoNotes : GoodIn wsX6_canonAt (wsV RX6 247 RX6 yX6_requireTwoNotes wsX6_requireTwoNotes) := goodIn_app (goodIn_of _ (by decide +kernel)) ggX6_canonAt_X6_requireTwoNotes
set_option maxRecDepth 20000 in
theorem ggX6_canonAt_X0_faultlessNumber : GoodIn wsX6_canonAt wsX0_faultlessNumber := goodIn_ca (goodIn_r _ [20, 21, 22, 19, 23, 24, 25, 26, 27, 28, 12, 13, 14, 15, 16, 29, 30, 31, 32, 33, 34, 35, 36, 37, 38, 39, 40, 41, 42, 43, 44, 45, 46, 47, 48, 49, 50, 51, 52, 53, 54, 55, 56, 57, 58, 59, 60, 61, 62, 63, 64, 69, 70, 71] (by decide +kernel) (by decide +kernel)) (goodIn_sub (fun _ h => List.mem_cons_of_mem _ (List.mem_append_right _ h)) (by decide +kernel))
set_option maxRecDepth 20000 in
theorem gX6_canonAt_X0_faultlessNumber : GoodIn wsX6_canonAt (va_wsS RX6 254 yX0_faultlessNumber wsX0_faultlessNumber) := goodIn_app (goodIn_of _ (by decide +kernel)) ggX6_canonAt_X0_faultlessNumber
theorem dX6_canonAt_0 : decode cX6_canonAt 0 = .ok (.aload_n 0, 1) := by decide +kernel
theorem dX6_canonAt_1 : decode cX6_canonAt 1 = .ok (.invokevirtual 247, 3) := by decide +kernel
theorem dX6_canonAt_4 : decode cX6_canonAt 4 = .ok (.aload_n 0, 1) := by decide +kernel
theorem dX6_canonAt_5 : decode cX6_canonAt 5 = .ok (.getfield 21, 3) := by decide +kernel
theorem dX6_canonAt_8 : decode cX6_canonAt 8 = .ok (.iload_n 1, 1) := by decide +kernel
theorem dX6_canonAt_9 : decode cX6_canonAt 9 = .ok (.invokestatic 254, 3) := by decide +kernel
theorem dX6_canonAt_12 : decode cX6_canonAt 12 = .ok (.istore_n 2, 1) := by decide +kernel
theorem dX6_canonAt_13 : decode cX6_canonAt 13 = .ok (.iload_n 2, 1) := by decide +kernel
theorem dX6_canonAt_14 : decode cX6_canonAt 14 = .ok (.ifCond .ge 14, 3) := by decide +kernel
theorem dX6_canonAt_17 : decode cX6_canonAt 17 = .ok (.new 202, 3) := by decide +kernel
theorem dX6_canonAt_20 : decode cX6_canonAt 20 = .ok (.dup, 1) := by decide +kernel
theorem dX6_canonAt_21 : decode cX6_canonAt 21 = .ok (.ldc_w 258, 3) := by decide +kernel
theorem dX6_canonAt_24 : decode cX6_canonAt 24 = .ok (.invokespecial 206, 3) := by decide +kernel
theorem dX6_canonAt_27 : decode cX6_canonAt 27 = .ok (.athrow, 1) := by decide +kernel
theorem dX6_canonAt_28 : decode cX6_canonAt 28 = .ok (.iload_n 2, 1) := by decide +kernel
theorem dX6_canonAt_29 : decode cX6_canonAt 29 = .ok (.ireturn, 1) := by decide +kernel
set_option maxRecDepth 20000 in
theorem ggX6_stepShare_X3_length : GoodIn wsX6_stepShare wsX3_length := goodIn_r _ [12, 13, 27, 28, 29] (by decide +kernel) (by decide +kernel)
set_option maxRecDepth 20000 in
theorem gX6_stepShare_X3_length : GoodIn wsX6_stepShare (wsV RX6 60 RX3 yX3_length wsX3_length) := goodIn_app (goodIn_of _ (by decide +kernel)) ggX6_stepShare_X3_length
set_option maxRecDepth 20000 in
theorem ggX6_stepShare_X3_stepTo : GoodIn wsX6_stepShare wsX3_stepTo := goodIn_ca (goodIn_r _ [17, 18, 19, 20, 11, 21, 22, 27, 28, 29] (by decide +kernel) (by decide +kernel)) (goodIn_sub (fun _ h => List.mem_cons_of_mem _ (List.mem_append_right _ h)) (by decide +kernel))
set_option maxRecDepth 20000 in
theorem gX6_stepShare_X3_stepTo : GoodIn wsX6_stepShare (wsV RX6 265 RX3 yX3_stepTo wsX3_stepTo) := goodIn_app (goodIn_of _ (by decide +kernel)) ggX6_stepShare_X3_stepTo
theorem dX6_stepShare_0 : decode cX6_stepShare 0 = .ok (.aload_n 0, 1) := by decide +kernel
theorem dX6_stepShare_1 : decode cX6_stepShare 1 = .ok (.getfield 21, 3) := by decide +kernel
theorem dX6_stepShare_4 : decode cX6_stepShare 4 = .ok (.invokevirtual 60, 3) := by decide +kernel
theorem dX6_stepShare_7 : decode cX6_stepShare 7 = .ok (.iconst 1, 1) := by decide +kernel
theorem dX6_stepShare_8 : decode cX6_stepShare 8 = .ok (.isub, 1) := by decide +kernel
theorem dX6_stepShare_9 : decode cX6_stepShare 9 = .ok (.istore_n 1, 1) := by decide +kernel
theorem dX6_stepShare_10 : decode cX6_stepShare 10 = .ok (.iload_n 1, 1) := by decide +kernel
theorem dX6_stepShare_11 : decode cX6_stepShare 11 = .ok (.iconst 1, 1) := by decide +kernel
theorem dX6_stepShare_12 : decode cX6_stepShare 12 = .ok (.if_icmp .ge 14, 3) := by decide +kernel
theorem dX6_stepShare_15 : decode cX6_stepShare 15 = .ok (.new 260, 3) := by decide +kernel
theorem dX6_stepShare_18 : decode cX6_stepShare 18 = .ok (.dup, 1) := by decide +kernel
theorem dX6_stepShare_19 : decode cX6_stepShare 19 = .ok (.ldc_w 262, 3) := by decide +kernel
theorem dX6_stepShare_22 : decode cX6_stepShare 22 = .ok (.invokespecial 264, 3) := by decide +kernel
theorem dX6_stepShare_25 : decode cX6_stepShare 25 = .ok (.athrow, 1) := by decide +kernel
theorem dX6_stepShare_26 : decode cX6_stepShare 26 = .ok (.iconst 0, 1) := by decide +kernel
theorem dX6_stepShare_27 : decode cX6_stepShare 27 = .ok (.istore_n 2, 1) := by decide +kernel
theorem dX6_stepShare_28 : decode cX6_stepShare 28 = .ok (.iconst 1, 1) := by decide +kernel
theorem dX6_stepShare_29 : decode cX6_stepShare 29 = .ok (.istore_n 3, 1) := by decide +kernel
theorem dX6_stepShare_30 : decode cX6_stepShare 30 = .ok (.iload_n 3, 1) := by decide +kernel
theorem dX6_stepShare_31 : decode cX6_stepShare 31 = .ok (.iload_n 1, 1) := by decide +kernel
theorem dX6_stepShare_32 : decode cX6_stepShare 32 = .ok (.if_icmp .gt 27, 3) := by decide +kernel
theorem dX6_stepShare_35 : decode cX6_stepShare 35 = .ok (.aload_n 0, 1) := by decide +kernel
theorem dX6_stepShare_36 : decode cX6_stepShare 36 = .ok (.getfield 21, 3) := by decide +kernel
theorem dX6_stepShare_39 : decode cX6_stepShare 39 = .ok (.iload_n 3, 1) := by decide +kernel
theorem dX6_stepShare_40 : decode cX6_stepShare 40 = .ok (.invokevirtual 265, 3) := by decide +kernel
theorem dX6_stepShare_43 : decode cX6_stepShare 43 = .ok (.invokestatic 268, 3) := by decide +kernel
theorem dX6_stepShare_46 : decode cX6_stepShare 46 = .ok (.iconst 1, 1) := by decide +kernel
theorem dX6_stepShare_47 : decode cX6_stepShare 47 = .ok (.if_icmp .ne 6, 3) := by decide +kernel
theorem dX6_stepShare_50 : decode cX6_stepShare 50 = .ok (.iinc 2 1, 3) := by decide +kernel
theorem dX6_stepShare_53 : decode cX6_stepShare 53 = .ok (.iinc 3 1, 3) := by decide +kernel
theorem dX6_stepShare_56 : decode cX6_stepShare 56 = .ok (.goto (-26), 3) := by decide +kernel
theorem dX6_stepShare_59 : decode cX6_stepShare 59 = .ok (.iload_n 2, 1) := by decide +kernel
theorem dX6_stepShare_60 : decode cX6_stepShare 60 = .ok (.i2f, 1) := by decide +kernel
theorem dX6_stepShare_61 : decode cX6_stepShare 61 = .ok (.iload_n 1, 1) := by decide +kernel
theorem dX6_stepShare_62 : decode cX6_stepShare 62 = .ok (.i2f, 1) := by decide +kernel
theorem dX6_stepShare_63 : decode cX6_stepShare 63 = .ok (.fdiv, 1) := by decide +kernel
theorem dX6_stepShare_64 : decode cX6_stepShare 64 = .ok (.freturn, 1) := by decide +kernel
set_option maxRecDepth 20000 in
theorem ggX6_meanPitch_X3_length : GoodIn wsX6_meanPitch wsX3_length := goodIn_r _ [8, 9, 40, 41, 42] (by decide +kernel) (by decide +kernel)
set_option maxRecDepth 20000 in
theorem gX6_meanPitch_X3_length : GoodIn wsX6_meanPitch (wsV RX6 60 RX3 yX3_length wsX3_length) := goodIn_app (goodIn_of _ (by decide +kernel)) ggX6_meanPitch_X3_length
set_option maxRecDepth 20000 in
theorem ggX6_meanPitch_X3_heightAt : GoodIn wsX6_meanPitch wsX3_heightAt := goodIn_ca (goodIn_r _ [13, 14, 9, 15, 16, 17, 7, 18, 19, 20, 21, 22, 23, 24, 25, 26, 27, 28, 29, 30, 31, 32, 33, 34, 35, 40, 41, 42, 43, 44, 45, 46, 47, 48, 49, 50] (by decide +kernel) (by decide +kernel)) (goodIn_sub (fun _ h => List.mem_cons_of_mem _ (List.mem_append_right _ h)) (by decide +kernel))
set_option maxRecDepth 20000 in
theorem gX6_meanPitch_X3_heightAt : GoodIn wsX6_meanPitch (wsV RX6 101 RX3 yX3_heightAt wsX3_heightAt) := goodIn_app (goodIn_of _ (by decide +kernel)) ggX6_meanPitch_X3_heightAt
theorem dX6_meanPitch_0 : decode cX6_meanPitch 0 = .ok (.aload_n 0, 1) := by decide +kernel
theorem dX6_meanPitch_1 : decode cX6_meanPitch 1 = .ok (.getfield 21, 3) := by decide +kernel
theorem dX6_meanPitch_4 : decode cX6_meanPitch 4 = .ok (.invokevirtual 60, 3) := by decide +kernel
theorem dX6_meanPitch_7 : decode cX6_meanPitch 7 = .ok (.istore_n 1, 1) := by decide +kernel
theorem dX6_meanPitch_8 : decode cX6_meanPitch 8 = .ok (.iload_n 1, 1) := by decide +kernel
theorem dX6_meanPitch_9 : decode cX6_meanPitch 9 = .ok (.iconst 1, 1) := by decide +kernel
theorem dX6_meanPitch_10 : decode cX6_meanPitch 10 = .ok (.if_icmp .ge 14, 3) := by decide +kernel
theorem dX6_meanPitch_13 : decode cX6_meanPitch 13 = .ok (.new 260, 3) := by decide +kernel
theorem dX6_meanPitch_16 : decode cX6_meanPitch 16 = .ok (.dup, 1) := by decide +kernel
theorem dX6_meanPitch_17 : decode cX6_meanPitch 17 = .ok (.ldc_w 273, 3) := by decide +kernel
theorem dX6_meanPitch_20 : decode cX6_meanPitch 20 = .ok (.invokespecial 264, 3) := by decide +kernel
theorem dX6_meanPitch_23 : decode cX6_meanPitch 23 = .ok (.athrow, 1) := by decide +kernel
theorem dX6_meanPitch_24 : decode cX6_meanPitch 24 = .ok (.iconst 0, 1) := by decide +kernel
theorem dX6_meanPitch_25 : decode cX6_meanPitch 25 = .ok (.istore_n 2, 1) := by decide +kernel
theorem dX6_meanPitch_26 : decode cX6_meanPitch 26 = .ok (.iconst 0, 1) := by decide +kernel
theorem dX6_meanPitch_27 : decode cX6_meanPitch 27 = .ok (.istore_n 3, 1) := by decide +kernel
theorem dX6_meanPitch_28 : decode cX6_meanPitch 28 = .ok (.iload_n 3, 1) := by decide +kernel
theorem dX6_meanPitch_29 : decode cX6_meanPitch 29 = .ok (.iload_n 1, 1) := by decide +kernel
theorem dX6_meanPitch_30 : decode cX6_meanPitch 30 = .ok (.if_icmp .ge 20, 3) := by decide +kernel
theorem dX6_meanPitch_33 : decode cX6_meanPitch 33 = .ok (.iload_n 2, 1) := by decide +kernel
theorem dX6_meanPitch_34 : decode cX6_meanPitch 34 = .ok (.aload_n 0, 1) := by decide +kernel
theorem dX6_meanPitch_35 : decode cX6_meanPitch 35 = .ok (.getfield 21, 3) := by decide +kernel
theorem dX6_meanPitch_38 : decode cX6_meanPitch 38 = .ok (.iload_n 3, 1) := by decide +kernel
theorem dX6_meanPitch_39 : decode cX6_meanPitch 39 = .ok (.invokevirtual 101, 3) := by decide +kernel
theorem dX6_meanPitch_42 : decode cX6_meanPitch 42 = .ok (.iadd, 1) := by decide +kernel
theorem dX6_meanPitch_43 : decode cX6_meanPitch 43 = .ok (.istore_n 2, 1) := by decide +kernel
theorem dX6_meanPitch_44 : decode cX6_meanPitch 44 = .ok (.iinc 3 1, 3) := by decide +kernel
theorem dX6_meanPitch_47 : decode cX6_meanPitch 47 = .ok (.goto (-19), 3) := by decide +kernel
theorem dX6_meanPitch_50 : decode cX6_meanPitch 50 = .ok (.iload_n 2, 1) := by decide +kernel
theorem dX6_meanPitch_51 : decode cX6_meanPitch 51 = .ok (.i2d, 1) := by decide +kernel
theorem dX6_meanPitch_52 : decode cX6_meanPitch 52 = .ok (.iload_n 1, 1) := by decide +kernel
theorem dX6_meanPitch_53 : decode cX6_meanPitch 53 = .ok (.i2d, 1) := by decide +kernel
theorem dX6_meanPitch_54 : decode cX6_meanPitch 54 = .ok (.ddiv, 1) := by decide +kernel
theorem dX6_meanPitch_55 : decode cX6_meanPitch 55 = .ok (.dreturn, 1) := by decide +kernel
set_option maxRecDepth 20000 in
theorem ggX6_isConsistent_X6_costIsSumOfFaults : GoodIn wsX6_isConsistent wsX6_costIsSumOfFaults := goodIn_ca (goodIn_r _ [5, 6, 7, 8, 9, 10, 11, 12, 13, 14, 15, 16, 17, 18, 19, 20, 21, 22, 23, 24, 25, 26, 27, 28, 29, 30, 31, 32, 33, 34, 35, 36, 37, 38, 39, 40, 41, 42, 43, 44, 45, 46, 47, 48, 49, 50, 51, 52, 53, 54, 55, 56, 57, 58, 59, 60, 61, 62, 63, 64, 65, 66, 67, 68, 69, 70, 71, 72, 73, 74, 75, 76, 77, 78, 79, 80, 81, 82, 83, 84, 85, 86, 87, 88, 89, 90, 91, 92, 93, 94, 95, 96, 97, 98, 99, 100, 101, 102, 103, 104, 105, 106, 107, 108, 109, 110, 111, 112, 113, 114, 115, 116, 117, 118, 119, 120, 121, 122, 123, 124, 125, 126, 127, 128, 129, 130, 131, 132, 133, 134, 135, 136, 137, 138, 139, 140, 141, 142, 143, 144, 145, 146, 147, 148, 149, 150, 151, 152, 153, 154, 155, 156, 334, 335, 336, 337, 338, 339, 340, 341, 342, 343, 344, 345, 346, 347, 348, 349, 350] (by decide +kernel) (by decide +kernel)) (goodIn_sub (fun _ h => List.mem_cons_of_mem _ (List.mem_append_right _ h)) (by decide +kernel))
set_option maxRecDepth 20000 in
theorem gX6_isConsistent_X6_costIsSumOfFaults : GoodIn wsX6_isConsistent (wsV RX6 275 RX6 yX6_costIsSumOfFaults wsX6_costIsSumOfFaults) := goodIn_app (goodIn_of _ (by decide +kernel)) ggX6_isConsistent_X6_costIsSumOfFaults
set_option maxRecDepth 20000 in
theorem ggX6_isConsistent_X6_canTryAll : GoodIn wsX6_isConsistent wsX6_canTryAll := goodIn_r _ [160, 161, 162, 110, 111, 40, 112, 42, 163, 164, 165, 166, 43, 167, 168, 169, 170, 171, 172, 334, 335, 336, 337, 343, 344, 345, 346, 347, 348, 349, 350] (by decide +kernel) (by decide +kernel)
set_option maxRecDepth 20000 in
theorem gX6_isConsistent_X6_canTryAll : GoodIn wsX6_isConsistent (wsV RX6 278 RX6 yX6_canTryAll wsX6_canTryAll) := goodIn_app (goodIn_of _ (by decide +kernel)) ggX6_isConsistent_X6_canTryAll
set_option maxRecDepth 20000 in
theorem ggX6_isConsistent_X6_readySearch : GoodIn wsX6_isConsistent wsX6_readySearch := goodIn_ca (goodIn_r _ [176, 177, 178, 179, 180, 161, 6, 181, 182, 183, 184, 185, 186, 187, 188, 189, 190, 21, 191, 192, 193, 194, 195, 196, 197, 198, 199, 200, 201, 202, 203, 204, 32, 49, 205, 206, 207, 208, 209, 210, 72, 211, 212, 213, 214, 215, 216, 217, 40, 218, 219, 220, 64, 65, 66, 43, 42, 221, 168, 169, 170, 171, 172, 222, 223, 224, 225, 226, 227, 228, 229, 230, 149, 150, 151, 23, 231, 232, 233, 234, 235, 236, 237, 238, 239, 240, 241, 242, 243, 29, 30, 31, 33, 34, 35, 36, 37, 38, 39, 41, 44, 45, 46, 47, 48, 50, 51, 52, 53, 54, 55, 56, 57, 58, 59, 60, 61, 62, 63, 67, 68, 69, 70, 71, 73, 74, 75, 76, 77, 78, 79, 80, 81, 82, 83, 84, 85, 86, 87, 88, 89, 90, 91, 92, 93, 94, 95, 96, 97, 98, 99, 100, 101, 102, 103, 104, 105, 106, 107, 108, 109, 110, 111, 112, 113, 114, 115, 116, 117, 118, 119, 120, 121, 122, 123, 124, 244, 245, 246, 247, 248, 126, 127, 128, 129, 130, 131, 132, 133, 334, 335, 336, 337, 351, 352, 353, 354, 355, 356, 357, 358, 359, 360, 361, 362, 363, 364, 340, 341, 342, 343, 344, 345, 346, 347, 348, 349, 350] (by decide +kernel) (by decide +kernel)) (goodIn_sub (fun _ h => List.mem_cons_of_mem _ (List.mem_append_right _ h)) (by decide +kernel))
set_option maxRecDepth 20000 in
theorem gX6_isConsistent_X6_readySearch : GoodIn wsX6_isConsistent (wsV RX6 181 RX6 yX6_readySearch wsX6_readySearch) := goodIn_app (goodIn_of _ (by decide +kernel)) ggX6_isConsistent_X6_readySearch
set_option maxRecDepth 20000 in
theorem ggX6_isConsistent_X4_agreesWithTryingAll : GoodIn wsX6_isConsistent wsX4_agreesWithTryingAll := goodIn_ca (goodIn_r _ [252, 188, 191, 253, 192, 212, 254, 9, 10, 11, 12, 13, 14, 15, 16, 17, 255, 256, 257, 180, 258, 259, 260, 261, 262, 213, 263, 264, 265, 266, 195, 197, 267, 268, 269, 270, 235, 236, 237, 238, 271, 272, 273, 274, 194, 244, 245, 246, 247, 275, 276, 277, 278, 279, 154, 155, 156, 280, 281, 282, 283, 284, 285, 286, 287, 209, 210, 72, 211, 288, 289, 290, 291, 292, 293, 294, 295, 296, 297, 298, 299, 300, 301, 302, 303, 214, 226, 227, 228, 21, 229, 49, 230, 149, 150, 151, 23, 304, 305, 306, 307, 239, 240, 241, 242, 308, 309, 310, 311, 312, 313, 314, 315, 316, 317, 318, 319, 152, 25, 26, 27, 28, 29, 30, 31, 32, 33, 34, 35, 36, 37, 38, 39, 40, 41, 42, 43, 44, 45, 46, 47, 48, 50, 51, 52, 53, 54, 55, 56, 57, 58, 59, 60, 61, 62, 63, 64, 65, 66, 67, 68, 69, 70, 71, 73, 74, 75, 76, 77, 78, 79, 80, 81, 82, 83, 84, 85, 86, 87, 88, 89, 90, 91, 92, 93, 94, 95, 96, 97, 98, 99, 100, 101, 102, 103, 104, 105, 106, 107, 108, 109, 110, 111, 112, 113, 114, 115, 116, 117, 118, 119, 120, 121, 122, 123, 124, 125, 126, 127, 128, 129, 130, 131, 132, 133, 320, 146, 147, 148, 153, 321, 322, 323, 324, 325, 326, 327, 328, 329, 330, 331, 332, 333, 351, 352, 353, 354, 355, 356, 357, 358, 359, 360, 361, 362, 363, 364, 338, 339, 340, 341, 342, 343, 344, 345, 346, 347, 348, 349, 350] (by decide +kernel) (by decide +kernel)) (goodIn_sub (fun _ h => List.mem_cons_of_mem _ (List.mem_append_right _ h)) (by decide +kernel))
set_option maxRecDepth 20000 in
theorem gX6_isConsistent_X4_agreesWithTryingAll : GoodIn wsX6_isConsistent (wsV RX6 281 RX4 yX4_agreesWithTryingAll wsX4_agreesWithTryingAll) := goodIn_app (goodIn_of _ (by decide +kernel)) ggX6_isConsistent_X4_agreesWithTryingAll
theorem dX6_isConsistent_0 : decode cX6_isConsistent 0 = .ok (.aload_n 0, 1) := by decide +kernel
theorem dX6_isConsistent_1 : decode cX6_isConsistent 1 = .ok (.invokevirtual 275, 3) := by decide +kernel
theorem dX6_isConsistent_4 : decode cX6_isConsistent 4 = .ok (.ifCond .eq 24, 3) := by decide +kernel
theorem dX6_isConsistent_7 : decode cX6_isConsistent 7 = .ok (.aload_n 0, 1) := by decide +kernel
theorem dX6_isConsistent_8 : decode cX6_isConsistent 8 = .ok (.invokevirtual 278, 3) := by decide +kernel
theorem dX6_isConsistent_11 : decode cX6_isConsistent 11 = .ok (.ifCond .eq 13, 3) := by decide +kernel
theorem dX6_isConsistent_14 : decode cX6_isConsistent 14 = .ok (.aload_n 0, 1) := by decide +kernel
theorem dX6_isConsistent_15 : decode cX6_isConsistent 15 = .ok (.invokevirtual 181, 3) := by decide +kernel
theorem dX6_isConsistent_18 : decode cX6_isConsistent 18 = .ok (.invokevirtual 281, 3) := by decide +kernel
theorem dX6_isConsistent_21 : decode cX6_isConsistent 21 = .ok (.ifCond .eq 7, 3) := by decide +kernel
theorem dX6_isConsistent_24 : decode cX6_isConsistent 24 = .ok (.iconst 1, 1) := by decide +kernel
theorem dX6_isConsistent_25 : decode cX6_isConsistent 25 = .ok (.goto 4, 3) := by decide +kernel
theorem dX6_isConsistent_28 : decode cX6_isConsistent 28 = .ok (.iconst 0, 1) := by decide +kernel
theorem dX6_isConsistent_29 : decode cX6_isConsistent 29 = .ok (.ireturn, 1) := by decide +kernel
set_option maxRecDepth 20000 in
theorem ggX6_costIsSumOfFaults_X2_weighing : GoodIn wsX6_costIsSumOfFaults wsX2_weighing := goodIn_ca (goodIn_r _ [7, 8, 9, 10, 6, 11, 12, 156, 157] (by decide +kernel) (by decide +kernel)) (goodIn_sub (fun _ h => List.mem_cons_of_mem _ (List.mem_append_right _ h)) (by decide +kernel))
set_option maxRecDepth 20000 in
theorem gX6_costIsSumOfFaults_X2_weighing : GoodIn wsX6_costIsSumOfFaults (wsV RX6 130 RX2 yX2_weighing wsX2_weighing) := goodIn_app (goodIn_of _ (by decide +kernel)) ggX6_costIsSumOfFaults_X2_weighing
set_option maxRecDepth 20000 in
theorem ggX6_costIsSumOfFaults_X3_length : GoodIn wsX6_costIsSumOfFaults wsX3_length := goodIn_r _ [17, 18, 158, 159, 160] (by decide +kernel) (by decide +kernel)
set_option maxRecDepth 20000 in
theorem gX6_costIsSumOfFaults_X3_length : GoodIn wsX6_costIsSumOfFaults (wsV RX6 60 RX3 yX3_length wsX3_length) := goodIn_app (goodIn_of _ (by decide +kernel)) ggX6_costIsSumOfFaults_X3_length
set_option maxRecDepth 20000 in
theorem ggX6_costIsSumOfFaults_X3_faultsAt : GoodIn wsX6_costIsSumOfFaults wsX3_faultsAt := goodIn_ca (goodIn_r _ [22, 23, 24, 25, 16, 26, 27, 28, 29, 30, 31, 32, 33, 34, 35, 36, 37, 38, 39, 40, 41, 42, 43, 44, 45, 46, 47, 48, 18, 49, 50, 51, 52, 53, 54, 55, 56, 57, 58, 59, 60, 61, 62, 63, 64, 65, 66, 67, 68, 69, 70, 71, 72, 73, 74, 75, 76, 77, 78, 79, 80, 81, 82, 83, 84, 85, 86, 87, 88, 89, 90, 91, 92, 93, 94, 95, 96, 97, 98, 99, 100, 101, 102, 103, 104, 105, 106, 107, 108, 109, 110, 111, 112, 113, 114, 115, 116, 117, 118, 119, 120, 121, 122, 123, 124, 125, 126, 127, 128, 158, 159, 160, 161, 162, 163, 164, 165, 166, 167, 168] (by decide +kernel) (by decide +kernel)) (goodIn_sub (fun _ h => List.mem_cons_of_mem _ (List.mem_append_right _ h)) (by decide +kernel))
set_option maxRecDepth 20000 in
theorem gX6_costIsSumOfFaults_X3_faultsAt : GoodIn wsX6_costIsSumOfFaults (wsV RX6 133 RX3 yX3_faultsAt wsX3_faultsAt) := goodIn_app (goodIn_of _ (by decide +kernel)) ggX6_costIsSumOfFaults_X3_faultsAt
set_option maxRecDepth 20000 in
theorem ggX6_costIsSumOfFaults_J6_bitCount_0f7a4 : GoodIn wsX6_costIsSumOfFaults wsJ6_bitCount_0f7a4 := goodIn_r _ [132, 133, 134, 135] (by decide +kernel) (by decide +kernel)
set_option maxRecDepth 20000 in
theorem gX6_costIsSumOfFaults_J6_bitCount_0f7a4 : GoodIn wsX6_costIsSumOfFaults (va_wsS RX6 136 yJ6_bitCount_0f7a4 wsJ6_bitCount_0f7a4) := goodIn_app (goodIn_of _ (by decide +kernel)) ggX6_costIsSumOfFaults_J6_bitCount_0f7a4
set_option maxRecDepth 20000 in
theorem ggX6_costIsSumOfFaults_X2_nthOf : GoodIn wsX6_costIsSumOfFaults wsX2_nthOf := goodIn_r _ [138] (by decide +kernel) (by decide +kernel)
set_option maxRecDepth 20000 in
theorem gX6_costIsSumOfFaults_X2_nthOf : GoodIn wsX6_costIsSumOfFaults (va_wsS RX6 207 yX2_nthOf wsX2_nthOf) := goodIn_app (goodIn_of _ (by decide +kernel)) ggX6_costIsSumOfFaults_X2_nthOf
set_option maxRecDepth 20000 in
theorem ggX6_costIsSumOfFaults_X2_weightOf : GoodIn wsX6_costIsSumOfFaults wsX2_weightOf := goodIn_ca (goodIn_r _ [11, 12, 156, 157] (by decide +kernel) (by decide +kernel)) (goodIn_sub (fun _ h => List.mem_cons_of_mem _ (List.mem_append_right _ h)) (by decide +kernel))
set_option maxRecDepth 20000 in
theorem gX6_costIsSumOfFaults_X2_weightOf : GoodIn wsX6_costIsSumOfFaults (wsV RX6 119 RX2 yX2_weightOf wsX2_weightOf) := goodIn_app (goodIn_of _ (by decide +kernel)) ggX6_costIsSumOfFaults_X2_weightOf
set_option maxRecDepth 20000 in
theorem ggX6_costIsSumOfFaults_X3_costBetween : GoodIn wsX6_costIsSumOfFaults wsX3_costBetween := goodIn_ca (goodIn_r _ [143, 144, 145, 67, 146, 18, 147, 20, 21, 16, 22, 23, 24, 25, 26, 27, 28, 29, 30, 31, 32, 33, 34, 35, 36, 37, 38, 39, 40, 41, 42, 43, 44, 45, 46, 47, 48, 49, 50, 51, 52, 53, 54, 55, 56, 57, 58, 59, 60, 61, 62, 63, 64, 65, 66, 68, 69, 70, 71, 72, 73, 74, 75, 76, 77, 78, 79, 80, 81, 82, 83, 84, 85, 86, 87, 88, 89, 90, 91, 92, 93, 94, 95, 96, 97, 98, 99, 100, 101, 102, 103, 104, 105, 106, 107, 108, 109, 110, 111, 112, 113, 114, 115, 116, 117, 118, 119, 120, 121, 122, 123, 124, 125, 126, 127, 128, 148, 149, 150, 6, 151, 8, 9, 10, 11, 12, 158, 159, 160, 161, 162, 163, 164, 165, 166, 167, 168, 156, 157] (by decide +kernel) (by decide +kernel)) (goodIn_sub (fun _ h => List.mem_cons_of_mem _ (List.mem_append_right _ h)) (by decide +kernel))
set_option maxRecDepth 20000 in
theorem gX6_costIsSumOfFaults_X3_costBetween : GoodIn wsX6_costIsSumOfFaults (wsV RX6 145 RX3 yX3_costBetween wsX3_costBetween) := goodIn_app (goodIn_of _ (by decide +kernel)) ggX6_costIsSumOfFaults_X3_costBetween
theorem dX6_costIsSumOfFaults_0 : decode cX6_costIsSumOfFaults 0 = .ok (.aload_n 0, 1) := by decide +kernel
theorem dX6_costIsSumOfFaults_1 : decode cX6_costIsSumOfFaults 1 = .ok (.getfield 28, 3) := by decide +kernel
theorem dX6_costIsSumOfFaults_4 : decode cX6_costIsSumOfFaults 4 = .ok (.iconst 1, 1) := by decide +kernel
theorem dX6_costIsSumOfFaults_5 : decode cX6_costIsSumOfFaults 5 = .ok (.invokevirtual 130, 3) := by decide +kernel
theorem dX6_costIsSumOfFaults_8 : decode cX6_costIsSumOfFaults 8 = .ok (.istore_n 1, 1) := by decide +kernel
theorem dX6_costIsSumOfFaults_9 : decode cX6_costIsSumOfFaults 9 = .ok (.iconst 0, 1) := by decide +kernel
theorem dX6_costIsSumOfFaults_10 : decode cX6_costIsSumOfFaults 10 = .ok (.istore_n 2, 1) := by decide +kernel
theorem dX6_costIsSumOfFaults_11 : decode cX6_costIsSumOfFaults 11 = .ok (.iconst 0, 1) := by decide +kernel
theorem dX6_costIsSumOfFaults_12 : decode cX6_costIsSumOfFaults 12 = .ok (.istore_n 3, 1) := by decide +kernel
theorem dX6_costIsSumOfFaults_13 : decode cX6_costIsSumOfFaults 13 = .ok (.iload_n 3, 1) := by decide +kernel
theorem dX6_costIsSumOfFaults_14 : decode cX6_costIsSumOfFaults 14 = .ok (.aload_n 0, 1) := by decide +kernel
theorem dX6_costIsSumOfFaults_15 : decode cX6_costIsSumOfFaults 15 = .ok (.getfield 21, 3) := by decide +kernel
theorem dX6_costIsSumOfFaults_18 : decode cX6_costIsSumOfFaults 18 = .ok (.invokevirtual 60, 3) := by decide +kernel
theorem dX6_costIsSumOfFaults_21 : decode cX6_costIsSumOfFaults 21 = .ok (.if_icmp .ge 61, 3) := by decide +kernel
theorem dX6_costIsSumOfFaults_24 : decode cX6_costIsSumOfFaults 24 = .ok (.aload_n 0, 1) := by decide +kernel
theorem dX6_costIsSumOfFaults_25 : decode cX6_costIsSumOfFaults 25 = .ok (.getfield 21, 3) := by decide +kernel
theorem dX6_costIsSumOfFaults_28 : decode cX6_costIsSumOfFaults 28 = .ok (.iload_n 3, 1) := by decide +kernel
theorem dX6_costIsSumOfFaults_29 : decode cX6_costIsSumOfFaults 29 = .ok (.invokevirtual 133, 3) := by decide +kernel
theorem dX6_costIsSumOfFaults_32 : decode cX6_costIsSumOfFaults 32 = .ok (.iload_n 1, 1) := by decide +kernel
theorem dX6_costIsSumOfFaults_33 : decode cX6_costIsSumOfFaults 33 = .ok (.iand, 1) := by decide +kernel
theorem dX6_costIsSumOfFaults_34 : decode cX6_costIsSumOfFaults 34 = .ok (.istore 4, 2) := by decide +kernel
theorem dX6_costIsSumOfFaults_36 : decode cX6_costIsSumOfFaults 36 = .ok (.iload 4, 2) := by decide +kernel
theorem dX6_costIsSumOfFaults_38 : decode cX6_costIsSumOfFaults 38 = .ok (.invokestatic 136, 3) := by decide +kernel
theorem dX6_costIsSumOfFaults_41 : decode cX6_costIsSumOfFaults 41 = .ok (.istore 5, 2) := by decide +kernel
theorem dX6_costIsSumOfFaults_43 : decode cX6_costIsSumOfFaults 43 = .ok (.iconst 0, 1) := by decide +kernel
theorem dX6_costIsSumOfFaults_44 : decode cX6_costIsSumOfFaults 44 = .ok (.istore 6, 2) := by decide +kernel
theorem dX6_costIsSumOfFaults_46 : decode cX6_costIsSumOfFaults 46 = .ok (.iload 6, 2) := by decide +kernel
theorem dX6_costIsSumOfFaults_48 : decode cX6_costIsSumOfFaults 48 = .ok (.iload 5, 2) := by decide +kernel
theorem dX6_costIsSumOfFaults_50 : decode cX6_costIsSumOfFaults 50 = .ok (.if_icmp .ge 26, 3) := by decide +kernel
theorem dX6_costIsSumOfFaults_53 : decode cX6_costIsSumOfFaults 53 = .ok (.iload_n 2, 1) := by decide +kernel
theorem dX6_costIsSumOfFaults_54 : decode cX6_costIsSumOfFaults 54 = .ok (.aload_n 0, 1) := by decide +kernel
theorem dX6_costIsSumOfFaults_55 : decode cX6_costIsSumOfFaults 55 = .ok (.getfield 28, 3) := by decide +kernel
theorem dX6_costIsSumOfFaults_58 : decode cX6_costIsSumOfFaults 58 = .ok (.iload 4, 2) := by decide +kernel
theorem dX6_costIsSumOfFaults_60 : decode cX6_costIsSumOfFaults 60 = .ok (.iload 6, 2) := by decide +kernel
theorem dX6_costIsSumOfFaults_62 : decode cX6_costIsSumOfFaults 62 = .ok (.invokestatic 207, 3) := by decide +kernel
theorem dX6_costIsSumOfFaults_65 : decode cX6_costIsSumOfFaults 65 = .ok (.invokevirtual 119, 3) := by decide +kernel
theorem dX6_costIsSumOfFaults_68 : decode cX6_costIsSumOfFaults 68 = .ok (.iadd, 1) := by decide +kernel
theorem dX6_costIsSumOfFaults_69 : decode cX6_costIsSumOfFaults 69 = .ok (.istore_n 2, 1) := by decide +kernel
theorem dX6_costIsSumOfFaults_70 : decode cX6_costIsSumOfFaults 70 = .ok (.iinc 6 1, 3) := by decide +kernel
theorem dX6_costIsSumOfFaults_73 : decode cX6_costIsSumOfFaults 73 = .ok (.goto (-27), 3) := by decide +kernel
theorem dX6_costIsSumOfFaults_76 : decode cX6_costIsSumOfFaults 76 = .ok (.iinc 3 1, 3) := by decide +kernel
theorem dX6_costIsSumOfFaults_79 : decode cX6_costIsSumOfFaults 79 = .ok (.goto (-66), 3) := by decide +kernel
theorem dX6_costIsSumOfFaults_82 : decode cX6_costIsSumOfFaults 82 = .ok (.iload_n 2, 1) := by decide +kernel
theorem dX6_costIsSumOfFaults_83 : decode cX6_costIsSumOfFaults 83 = .ok (.aload_n 0, 1) := by decide +kernel
theorem dX6_costIsSumOfFaults_84 : decode cX6_costIsSumOfFaults 84 = .ok (.getfield 21, 3) := by decide +kernel
theorem dX6_costIsSumOfFaults_87 : decode cX6_costIsSumOfFaults 87 = .ok (.aload_n 0, 1) := by decide +kernel
theorem dX6_costIsSumOfFaults_88 : decode cX6_costIsSumOfFaults 88 = .ok (.getfield 28, 3) := by decide +kernel
theorem dX6_costIsSumOfFaults_91 : decode cX6_costIsSumOfFaults 91 = .ok (.iconst 0, 1) := by decide +kernel
theorem dX6_costIsSumOfFaults_92 : decode cX6_costIsSumOfFaults 92 = .ok (.aload_n 0, 1) := by decide +kernel
theorem dX6_costIsSumOfFaults_93 : decode cX6_costIsSumOfFaults 93 = .ok (.getfield 21, 3) := by decide +kernel
theorem dX6_costIsSumOfFaults_96 : decode cX6_costIsSumOfFaults 96 = .ok (.invokevirtual 60, 3) := by decide +kernel
theorem dX6_costIsSumOfFaults_99 : decode cX6_costIsSumOfFaults 99 = .ok (.iconst 1, 1) := by decide +kernel
theorem dX6_costIsSumOfFaults_100 : decode cX6_costIsSumOfFaults 100 = .ok (.isub, 1) := by decide +kernel
theorem dX6_costIsSumOfFaults_101 : decode cX6_costIsSumOfFaults 101 = .ok (.invokevirtual 145, 3) := by decide +kernel
theorem dX6_costIsSumOfFaults_104 : decode cX6_costIsSumOfFaults 104 = .ok (.if_icmp .ne 7, 3) := by decide +kernel
theorem dX6_costIsSumOfFaults_107 : decode cX6_costIsSumOfFaults 107 = .ok (.iconst 1, 1) := by decide +kernel
theorem dX6_costIsSumOfFaults_108 : decode cX6_costIsSumOfFaults 108 = .ok (.goto 4, 3) := by decide +kernel
theorem dX6_costIsSumOfFaults_111 : decode cX6_costIsSumOfFaults 111 = .ok (.iconst 0, 1) := by decide +kernel
theorem dX6_costIsSumOfFaults_112 : decode cX6_costIsSumOfFaults 112 = .ok (.ireturn, 1) := by decide +kernel
set_option maxRecDepth 20000 in
theorem ggX6_canTryAll_X1_perGiven : GoodIn wsX6_canTryAll wsX1_perGiven := goodIn_r _ [6, 7, 23, 24, 25, 26, 27, 28, 29, 30] (by decide +kernel) (by decide +kernel)
set_option maxRecDepth 20000 in
theorem gX6_canTryAll_X1_perGiven : GoodIn wsX6_canTryAll (wsV RX6 82 RX1 yX1_perGiven wsX1_perGiven) := goodIn_app (goodIn_of _ (by decide +kernel)) ggX6_canTryAll_X1_perGiven
set_option maxRecDepth 20000 in
theorem ggX6_canTryAll_X1_size : GoodIn wsX6_canTryAll wsX1_size := goodIn_r _ [11, 12, 23, 24, 25, 26, 27, 28, 29, 30] (by decide +kernel) (by decide +kernel)
set_option maxRecDepth 20000 in
theorem gX6_canTryAll_X1_size : GoodIn wsX6_canTryAll (wsV RX6 36 RX1 yX1_size wsX1_size) := goodIn_app (goodIn_of _ (by decide +kernel)) ggX6_canTryAll_X1_size
set_option maxRecDepth 20000 in
theorem ggX6_canTryAll_X1_width : GoodIn wsX6_canTryAll wsX1_width := goodIn_r _ [16, 17, 18, 23, 24, 25, 26, 27, 28, 29, 30] (by decide +kernel) (by decide +kernel)
set_option maxRecDepth 20000 in
theorem gX6_canTryAll_X1_width : GoodIn wsX6_canTryAll (wsV RX6 175 RX1 yX1_width wsX1_width) := goodIn_app (goodIn_of _ (by decide +kernel)) ggX6_canTryAll_X1_width
theorem dX6_canTryAll_0 : decode cX6_canTryAll 0 = .ok (.aload_n 0, 1) := by decide +kernel
theorem dX6_canTryAll_1 : decode cX6_canTryAll 1 = .ok (.getfield 10, 3) := by decide +kernel
theorem dX6_canTryAll_4 : decode cX6_canTryAll 4 = .ok (.invokevirtual 82, 3) := by decide +kernel
theorem dX6_canTryAll_7 : decode cX6_canTryAll 7 = .ok (.iconst 1, 1) := by decide +kernel
theorem dX6_canTryAll_8 : decode cX6_canTryAll 8 = .ok (.if_icmp .ne 41, 3) := by decide +kernel
theorem dX6_canTryAll_11 : decode cX6_canTryAll 11 = .ok (.aload_n 0, 1) := by decide +kernel
theorem dX6_canTryAll_12 : decode cX6_canTryAll 12 = .ok (.getfield 10, 3) := by decide +kernel
theorem dX6_canTryAll_15 : decode cX6_canTryAll 15 = .ok (.invokevirtual 36, 3) := by decide +kernel
theorem dX6_canTryAll_18 : decode cX6_canTryAll 18 = .ok (.iconst 2, 1) := by decide +kernel
theorem dX6_canTryAll_19 : decode cX6_canTryAll 19 = .ok (.if_icmp .lt 30, 3) := by decide +kernel
theorem dX6_canTryAll_22 : decode cX6_canTryAll 22 = .ok (.aload_n 0, 1) := by decide +kernel
theorem dX6_canTryAll_23 : decode cX6_canTryAll 23 = .ok (.getfield 10, 3) := by decide +kernel
theorem dX6_canTryAll_26 : decode cX6_canTryAll 26 = .ok (.invokevirtual 36, 3) := by decide +kernel
theorem dX6_canTryAll_29 : decode cX6_canTryAll 29 = .ok (.iconst 4, 1) := by decide +kernel
theorem dX6_canTryAll_30 : decode cX6_canTryAll 30 = .ok (.if_icmp .gt 19, 3) := by decide +kernel
theorem dX6_canTryAll_33 : decode cX6_canTryAll 33 = .ok (.aload_n 0, 1) := by decide +kernel
theorem dX6_canTryAll_34 : decode cX6_canTryAll 34 = .ok (.getfield 10, 3) := by decide +kernel
theorem dX6_canTryAll_37 : decode cX6_canTryAll 37 = .ok (.invokevirtual 175, 3) := by decide +kernel
theorem dX6_canTryAll_40 : decode cX6_canTryAll 40 = .ok (.bipush 8, 2) := by decide +kernel
theorem dX6_canTryAll_42 : decode cX6_canTryAll 42 = .ok (.if_icmp .gt 7, 3) := by decide +kernel
theorem dX6_canTryAll_45 : decode cX6_canTryAll 45 = .ok (.iconst 1, 1) := by decide +kernel
theorem dX6_canTryAll_46 : decode cX6_canTryAll 46 = .ok (.goto 4, 3) := by decide +kernel
theorem dX6_canTryAll_49 : decode cX6_canTryAll 49 = .ok (.iconst 0, 1) := by decide +kernel
theorem dX6_canTryAll_50 : decode cX6_canTryAll 50 = .ok (.ireturn, 1) := by decide +kernel
set_option maxRecDepth 20000 in
theorem ggX6_requireNote_X5_isNote : GoodIn wsX6_requireNote wsX5_isNote := goodIn_r _ [6] (by decide +kernel) (by decide +kernel)
set_option maxRecDepth 20000 in
theorem gX6_requireNote_X5_isNote : GoodIn wsX6_requireNote (va_wsS RX6 284 yX5_isNote wsX5_isNote) := goodIn_app (goodIn_of _ (by decide +kernel)) ggX6_requireNote_X5_isNote
theorem dX6_requireNote_0 : decode cX6_requireNote 0 = .ok (.iload_n 1, 1) := by decide +kernel
theorem dX6_requireNote_1 : decode cX6_requireNote 1 = .ok (.invokestatic 284, 3) := by decide +kernel
theorem dX6_requireNote_4 : decode cX6_requireNote 4 = .ok (.ifCond .ne 14, 3) := by decide +kernel
theorem dX6_requireNote_7 : decode cX6_requireNote 7 = .ok (.new 77, 3) := by decide +kernel
theorem dX6_requireNote_10 : decode cX6_requireNote 10 = .ok (.dup, 1) := by decide +kernel
theorem dX6_requireNote_11 : decode cX6_requireNote 11 = .ok (.ldc_w 287, 3) := by decide +kernel
theorem dX6_requireNote_14 : decode cX6_requireNote 14 = .ok (.invokespecial 81, 3) := by decide +kernel
theorem dX6_requireNote_17 : decode cX6_requireNote 17 = .ok (.athrow, 1) := by decide +kernel
theorem dX6_requireNote_18 : decode cX6_requireNote 18 = .ok (.return_, 1) := by decide +kernel
set_option maxRecDepth 20000 in
theorem ggX6_requireIndex_X3_has : GoodIn wsX6_requireIndex wsX3_has := goodIn_r _ [8, 9, 14, 15, 16] (by decide +kernel) (by decide +kernel)
set_option maxRecDepth 20000 in
theorem gX6_requireIndex_X3_has : GoodIn wsX6_requireIndex (wsV RX6 289 RX3 yX3_has wsX3_has) := goodIn_app (goodIn_of _ (by decide +kernel)) ggX6_requireIndex_X3_has
theorem dX6_requireIndex_0 : decode cX6_requireIndex 0 = .ok (.aload_n 0, 1) := by decide +kernel
theorem dX6_requireIndex_1 : decode cX6_requireIndex 1 = .ok (.getfield 21, 3) := by decide +kernel
theorem dX6_requireIndex_4 : decode cX6_requireIndex 4 = .ok (.iload_n 1, 1) := by decide +kernel
theorem dX6_requireIndex_5 : decode cX6_requireIndex 5 = .ok (.invokevirtual 289, 3) := by decide +kernel
theorem dX6_requireIndex_8 : decode cX6_requireIndex 8 = .ok (.ifCond .ne 14, 3) := by decide +kernel
theorem dX6_requireIndex_11 : decode cX6_requireIndex 11 = .ok (.new 202, 3) := by decide +kernel
theorem dX6_requireIndex_14 : decode cX6_requireIndex 14 = .ok (.dup, 1) := by decide +kernel
theorem dX6_requireIndex_15 : decode cX6_requireIndex 15 = .ok (.ldc_w 292, 3) := by decide +kernel
theorem dX6_requireIndex_18 : decode cX6_requireIndex 18 = .ok (.invokespecial 206, 3) := by decide +kernel
theorem dX6_requireIndex_21 : decode cX6_requireIndex 21 = .ok (.athrow, 1) := by decide +kernel
theorem dX6_requireIndex_22 : decode cX6_requireIndex 22 = .ok (.return_, 1) := by decide +kernel
set_option maxRecDepth 20000 in
theorem ggX6_requiredLaw_J0_indexOf_0f7a4 : GoodIn wsX6_requiredLaw wsJ0_indexOf_0f7a4 := goodIn_r _ [7, 8, 9, 10, 6, 11, 12, 13, 14, 15, 16, 17, 18, 19, 20, 21, 22, 23, 24, 25, 26, 27, 28, 29, 30, 31, 32, 33, 34, 35, 36, 37, 38, 39, 40, 41, 42, 43, 44, 45, 46, 47, 48, 49, 50, 51, 52, 53, 54, 55, 56, 57, 58, 59, 60, 61, 62, 63, 64, 65, 66, 67, 68, 69, 70, 71, 72, 73, 74, 75, 76, 77, 78, 79, 80, 81, 82, 83, 84, 85, 86, 87, 88, 89, 90, 91, 92, 93] (by decide +kernel) (by decide +kernel)
set_option maxRecDepth 20000 in
theorem gX6_requiredLaw_J0_indexOf_0f7a4 : GoodIn wsX6_requiredLaw (wsV RX6 296 RJ0 yJ0_indexOf_0f7a4 wsJ0_indexOf_0f7a4) := goodIn_app (goodIn_of _ (by decide +kernel)) ggX6_requiredLaw_J0_indexOf_0f7a4
theorem dX6_requiredLaw_0 : decode cX6_requiredLaw 0 = .ok (.ldc_w 294, 3) := by decide +kernel
theorem dX6_requiredLaw_3 : decode cX6_requiredLaw 3 = .ok (.iload_n 1, 1) := by decide +kernel
theorem dX6_requiredLaw_4 : decode cX6_requiredLaw 4 = .ok (.invokevirtual 296, 3) := by decide +kernel
theorem dX6_requiredLaw_7 : decode cX6_requiredLaw 7 = .ok (.istore_n 2, 1) := by decide +kernel
theorem dX6_requiredLaw_8 : decode cX6_requiredLaw 8 = .ok (.iload_n 2, 1) := by decide +kernel
theorem dX6_requiredLaw_9 : decode cX6_requiredLaw 9 = .ok (.ifCond .ge 13, 3) := by decide +kernel
theorem dX6_requiredLaw_12 : decode cX6_requiredLaw 12 = .ok (.new 77, 3) := by decide +kernel
theorem dX6_requiredLaw_15 : decode cX6_requiredLaw 15 = .ok (.dup, 1) := by decide +kernel
theorem dX6_requiredLaw_16 : decode cX6_requiredLaw 16 = .ok (.ldc 204, 2) := by decide +kernel
theorem dX6_requiredLaw_18 : decode cX6_requiredLaw 18 = .ok (.invokespecial 81, 3) := by decide +kernel
theorem dX6_requiredLaw_21 : decode cX6_requiredLaw 21 = .ok (.athrow, 1) := by decide +kernel
theorem dX6_requiredLaw_22 : decode cX6_requiredLaw 22 = .ok (.iload_n 2, 1) := by decide +kernel
theorem dX6_requiredLaw_23 : decode cX6_requiredLaw 23 = .ok (.ireturn, 1) := by decide +kernel
set_option maxRecDepth 20000 in
theorem ggX6_requiredFault_X2_weighing : GoodIn wsX6_requiredFault wsX2_weighing := goodIn_ca (goodIn_r _ [9, 10, 11, 12, 8, 13, 14, 145, 146] (by decide +kernel) (by decide +kernel)) (goodIn_sub (fun _ h => List.mem_cons_of_mem _ (List.mem_append_right _ h)) (by decide +kernel))
set_option maxRecDepth 20000 in
theorem gX6_requiredFault_X2_weighing : GoodIn wsX6_requiredFault (wsV RX6 130 RX2 yX2_weighing wsX2_weighing) := goodIn_app (goodIn_of _ (by decide +kernel)) ggX6_requiredFault_X2_weighing
set_option maxRecDepth 20000 in
theorem ggX6_requiredFault_X3_faultNumber : GoodIn wsX6_requiredFault wsX3_faultNumber := goodIn_ca (goodIn_r _ [19, 20, 21, 22, 23, 18, 24, 25, 26, 27, 28, 29, 30, 31, 32, 33, 34, 35, 36, 37, 38, 39, 40, 41, 42, 43, 44, 45, 46, 47, 48, 49, 50, 51, 52, 53, 54, 55, 56, 57, 58, 59, 60, 61, 62, 63, 64, 65, 66, 67, 68, 69, 70, 71, 72, 73, 74, 75, 76, 77, 78, 79, 80, 81, 82, 83, 84, 85, 86, 87, 88, 89, 90, 91, 92, 93, 94, 95, 96, 97, 98, 99, 100, 101, 102, 103, 104, 105, 106, 107, 108, 109, 110, 111, 112, 113, 114, 115, 116, 117, 118, 119, 120, 121, 122, 123, 124, 125, 126, 127, 128, 129, 130, 131, 132, 133, 134, 135, 136, 137, 138, 139, 8, 140, 147, 148, 149, 150, 151, 152, 153, 154, 155, 156, 157] (by decide +kernel) (by decide +kernel)) (goodIn_sub (fun _ h => List.mem_cons_of_mem _ (List.mem_append_right _ h)) (by decide +kernel))
set_option maxRecDepth 20000 in
theorem gX6_requiredFault_X3_faultNumber : GoodIn wsX6_requiredFault (wsV RX6 301 RX3 yX3_faultNumber wsX3_faultNumber) := goodIn_app (goodIn_of _ (by decide +kernel)) ggX6_requiredFault_X3_faultNumber
theorem dX6_requiredFault_0 : decode cX6_requiredFault 0 = .ok (.aload_n 0, 1) := by decide +kernel
theorem dX6_requiredFault_1 : decode cX6_requiredFault 1 = .ok (.getfield 21, 3) := by decide +kernel
theorem dX6_requiredFault_4 : decode cX6_requiredFault 4 = .ok (.iload_n 1, 1) := by decide +kernel
theorem dX6_requiredFault_5 : decode cX6_requiredFault 5 = .ok (.aload_n 0, 1) := by decide +kernel
theorem dX6_requiredFault_6 : decode cX6_requiredFault 6 = .ok (.getfield 28, 3) := by decide +kernel
theorem dX6_requiredFault_9 : decode cX6_requiredFault 9 = .ok (.iconst 1, 1) := by decide +kernel
theorem dX6_requiredFault_10 : decode cX6_requiredFault 10 = .ok (.invokevirtual 130, 3) := by decide +kernel
theorem dX6_requiredFault_13 : decode cX6_requiredFault 13 = .ok (.invokevirtual 301, 3) := by decide +kernel
theorem dX6_requiredFault_16 : decode cX6_requiredFault 16 = .ok (.istore_n 2, 1) := by decide +kernel
theorem dX6_requiredFault_17 : decode cX6_requiredFault 17 = .ok (.iload_n 2, 1) := by decide +kernel
theorem dX6_requiredFault_18 : decode cX6_requiredFault 18 = .ok (.ifCond .ge 14, 3) := by decide +kernel
theorem dX6_requiredFault_21 : decode cX6_requiredFault 21 = .ok (.new 202, 3) := by decide +kernel
theorem dX6_requiredFault_24 : decode cX6_requiredFault 24 = .ok (.dup, 1) := by decide +kernel
theorem dX6_requiredFault_25 : decode cX6_requiredFault 25 = .ok (.ldc_w 304, 3) := by decide +kernel
theorem dX6_requiredFault_28 : decode cX6_requiredFault 28 = .ok (.invokespecial 206, 3) := by decide +kernel
theorem dX6_requiredFault_31 : decode cX6_requiredFault 31 = .ok (.athrow, 1) := by decide +kernel
theorem dX6_requiredFault_32 : decode cX6_requiredFault 32 = .ok (.iload_n 2, 1) := by decide +kernel
theorem dX6_requiredFault_33 : decode cX6_requiredFault 33 = .ok (.ireturn, 1) := by decide +kernel
set_option maxRecDepth 20000 in
theorem ggX6_requireWhole_X3_isWhole : GoodIn wsX6_requireWhole wsX3_isWhole := goodIn_r _ [8, 9, 10, 11, 12, 13, 14, 15, 16, 17, 18, 19, 20, 21, 26, 27, 28, 29, 30, 31, 32, 33, 34, 35, 36] (by decide +kernel) (by decide +kernel)
set_option maxRecDepth 20000 in
theorem gX6_requireWhole_X3_isWhole : GoodIn wsX6_requireWhole (wsV RX6 149 RX3 yX3_isWhole wsX3_isWhole) := goodIn_app (goodIn_of _ (by decide +kernel)) ggX6_requireWhole_X3_isWhole
theorem dX6_requireWhole_0 : decode cX6_requireWhole 0 = .ok (.aload_n 0, 1) := by decide +kernel
theorem dX6_requireWhole_1 : decode cX6_requireWhole 1 = .ok (.getfield 21, 3) := by decide +kernel
theorem dX6_requireWhole_4 : decode cX6_requireWhole 4 = .ok (.invokevirtual 149, 3) := by decide +kernel
theorem dX6_requireWhole_7 : decode cX6_requireWhole 7 = .ok (.ifCond .ne 14, 3) := by decide +kernel
theorem dX6_requireWhole_10 : decode cX6_requireWhole 10 = .ok (.new 40, 3) := by decide +kernel
theorem dX6_requireWhole_13 : decode cX6_requireWhole 13 = .ok (.dup, 1) := by decide +kernel
theorem dX6_requireWhole_14 : decode cX6_requireWhole 14 = .ok (.ldc_w 306, 3) := by decide +kernel
theorem dX6_requireWhole_17 : decode cX6_requireWhole 17 = .ok (.invokespecial 44, 3) := by decide +kernel
theorem dX6_requireWhole_20 : decode cX6_requireWhole 20 = .ok (.athrow, 1) := by decide +kernel
theorem dX6_requireWhole_21 : decode cX6_requireWhole 21 = .ok (.return_, 1) := by decide +kernel
set_option maxRecDepth 20000 in
theorem ggX6_requireTwoNotes_X3_length : GoodIn wsX6_requireTwoNotes wsX3_length := goodIn_r _ [8, 9, 14, 15, 16] (by decide +kernel) (by decide +kernel)
set_option maxRecDepth 20000 in
theorem gX6_requireTwoNotes_X3_length : GoodIn wsX6_requireTwoNotes (wsV RX6 60 RX3 yX3_length wsX3_length) := goodIn_app (goodIn_of _ (by decide +kernel)) ggX6_requireTwoNotes_X3_length
theorem dX6_requireTwoNotes_0 : decode cX6_requireTwoNotes 0 = .ok (.aload_n 0, 1) := by decide +kernel
theorem dX6_requireTwoNotes_1 : decode cX6_requireTwoNotes 1 = .ok (.getfield 21, 3) := by decide +kernel
theorem dX6_requireTwoNotes_4 : decode cX6_requireTwoNotes 4 = .ok (.invokevirtual 60, 3) := by decide +kernel
theorem dX6_requireTwoNotes_7 : decode cX6_requireTwoNotes 7 = .ok (.iconst 2, 1) := by decide +kernel
theorem dX6_requireTwoNotes_8 : decode cX6_requireTwoNotes 8 = .ok (.if_icmp .ge 13, 3) := by decide +kernel
theorem dX6_requireTwoNotes_11 : decode cX6_requireTwoNotes 11 = .ok (.new 40, 3) := by decide +kernel
theorem dX6_requireTwoNotes_14 : decode cX6_requireTwoNotes 14 = .ok (.dup, 1) := by decide +kernel
theorem dX6_requireTwoNotes_15 : decode cX6_requireTwoNotes 15 = .ok (.ldc 241, 2) := by decide +kernel
theorem dX6_requireTwoNotes_17 : decode cX6_requireTwoNotes 17 = .ok (.invokespecial 44, 3) := by decide +kernel
theorem dX6_requireTwoNotes_20 : decode cX6_requireTwoNotes 20 = .ok (.athrow, 1) := by decide +kernel
theorem dX6_requireTwoNotes_21 : decode cX6_requireTwoNotes 21 = .ok (.return_, 1) := by decide +kernel
set_option maxRecDepth 20000 in
theorem ggX6_requireSearchable_X1_size : GoodIn wsX6_requireSearchable wsX1_size := goodIn_r _ [10, 11, 21, 22, 23, 24, 25, 26, 27, 28] (by decide +kernel) (by decide +kernel)
set_option maxRecDepth 20000 in
theorem gX6_requireSearchable_X1_size : GoodIn wsX6_requireSearchable (wsV RX6 36 RX1 yX1_size wsX1_size) := goodIn_app (goodIn_of _ (by decide +kernel)) ggX6_requireSearchable_X1_size
set_option maxRecDepth 20000 in
theorem ggX6_requireSearchable_X1_perGiven : GoodIn wsX6_requireSearchable wsX1_perGiven := goodIn_r _ [15, 16, 21, 22, 23, 24, 25, 26, 27, 28] (by decide +kernel) (by decide +kernel)
set_option maxRecDepth 20000 in
theorem gX6_requireSearchable_X1_perGiven : GoodIn wsX6_requireSearchable (wsV RX6 82 RX1 yX1_perGiven wsX1_perGiven) := goodIn_app (goodIn_of _ (by decide +kernel)) ggX6_requireSearchable_X1_perGiven
theorem dX6_requireSearchable_0 : decode cX6_requireSearchable 0 = .ok (.aload_n 0, 1) := by decide +kernel
theorem dX6_requireSearchable_1 : decode cX6_requireSearchable 1 = .ok (.getfield 10, 3) := by decide +kernel
theorem dX6_requireSearchable_4 : decode cX6_requireSearchable 4 = .ok (.invokevirtual 36, 3) := by decide +kernel
theorem dX6_requireSearchable_7 : decode cX6_requireSearchable 7 = .ok (.iconst 2, 1) := by decide +kernel
theorem dX6_requireSearchable_8 : decode cX6_requireSearchable 8 = .ok (.if_icmp .ge 14, 3) := by decide +kernel
theorem dX6_requireSearchable_11 : decode cX6_requireSearchable 11 = .ok (.new 40, 3) := by decide +kernel
theorem dX6_requireSearchable_14 : decode cX6_requireSearchable 14 = .ok (.dup, 1) := by decide +kernel
theorem dX6_requireSearchable_15 : decode cX6_requireSearchable 15 = .ok (.ldc_w 308, 3) := by decide +kernel
theorem dX6_requireSearchable_18 : decode cX6_requireSearchable 18 = .ok (.invokespecial 44, 3) := by decide +kernel
theorem dX6_requireSearchable_21 : decode cX6_requireSearchable 21 = .ok (.athrow, 1) := by decide +kernel
theorem dX6_requireSearchable_22 : decode cX6_requireSearchable 22 = .ok (.aload_n 0, 1) := by decide +kernel
theorem dX6_requireSearchable_23 : decode cX6_requireSearchable 23 = .ok (.getfield 10, 3) := by decide +kernel
theorem dX6_requireSearchable_26 : decode cX6_requireSearchable 26 = .ok (.invokevirtual 82, 3) := by decide +kernel
theorem dX6_requireSearchable_29 : decode cX6_requireSearchable 29 = .ok (.iconst 4, 1) := by decide +kernel
theorem dX6_requireSearchable_30 : decode cX6_requireSearchable 30 = .ok (.if_icmp .ne 14, 3) := by decide +kernel
theorem dX6_requireSearchable_33 : decode cX6_requireSearchable 33 = .ok (.new 310, 3) := by decide +kernel
theorem dX6_requireSearchable_36 : decode cX6_requireSearchable 36 = .ok (.dup, 1) := by decide +kernel
theorem dX6_requireSearchable_37 : decode cX6_requireSearchable 37 = .ok (.ldc_w 312, 3) := by decide +kernel
theorem dX6_requireSearchable_40 : decode cX6_requireSearchable 40 = .ok (.invokespecial 314, 3) := by decide +kernel
theorem dX6_requireSearchable_43 : decode cX6_requireSearchable 43 = .ok (.athrow, 1) := by decide +kernel
theorem dX6_requireSearchable_44 : decode cX6_requireSearchable 44 = .ok (.return_, 1) := by decide +kernel
