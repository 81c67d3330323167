theorem dX6_cost_15 : decode cX6_cost 15 = .ok (.new 76, 3) := by decide +kernel
theorem dX6_cost_18 : decode cX6_cost 18 = .ok (.dup, 1) := by decide +kernel
theorem dX6_cost_19 : decode cX6_cost 19 = .ok (.ldc 118, 2) := by decide +kernel
theorem dX6_cost_21 : decode cX6_cost 21 = .ok (.invokespecial 80, 3) := by decide +kernel
theorem dX6_cost_24 : decode cX6_cost 24 = .ok (.athrow, 1) := by decide +kernel
theorem dX6_cost_25 : decode cX6_cost 25 = .ok (.aload_n 0, 1) := by decide +kernel
theorem dX6_cost_26 : decode cX6_cost 26 = .ok (.iconst 0, 1) := by decide +kernel
theorem dX6_cost_27 : decode cX6_cost 27 = .ok (.putfield 53, 3) := by decide +kernel
theorem dX6_cost_30 : decode cX6_cost 30 = .ok (.aload_n 0, 1) := by decide +kernel
theorem dX6_cost_31 : decode cX6_cost 31 = .ok (.getfield 20, 3) := by decide +kernel
theorem dX6_cost_34 : decode cX6_cost 34 = .ok (.getfield 120, 3) := by decide +kernel
theorem dX6_cost_37 : decode cX6_cost 37 = .ok (.iload_n 1, 1) := by decide +kernel
theorem dX6_cost_38 : decode cX6_cost 38 = .ok (.iaload, 1) := by decide +kernel
theorem dX6_cost_39 : decode cX6_cost 39 = .ok (.istore_n 3, 1) := by decide +kernel
theorem dX6_cost_40 : decode cX6_cost 40 = .ok (.aload_n 0, 1) := by decide +kernel
theorem dX6_cost_41 : decode cX6_cost 41 = .ok (.getfield 20, 3) := by decide +kernel
theorem dX6_cost_44 : decode cX6_cost 44 = .ok (.getfield 120, 3) := by decide +kernel
theorem dX6_cost_47 : decode cX6_cost 47 = .ok (.iload_n 1, 1) := by decide +kernel
theorem dX6_cost_48 : decode cX6_cost 48 = .ok (.iload_n 2, 1) := by decide +kernel
theorem dX6_cost_49 : decode cX6_cost 49 = .ok (.iastore, 1) := by decide +kernel
theorem dX6_cost_50 : decode cX6_cost 50 = .ok (.iload_n 3, 1) := by decide +kernel
theorem dX6_cost_51 : decode cX6_cost 51 = .ok (.ireturn, 1) := by decide +kernel
set_option maxRecDepth 20000 in
theorem ggX6_right_X6_needRow : GoodIn wsX6_right wsX6_needRow := goodIn_ca (goodIn_r _ [11, 12, 13, 5, 14, 18, 19, 20, 21, 22, 23, 24, 25, 26, 27, 28, 29, 30, 31, 32, 33] (by decide +kernel) (by decide +kernel)) (goodIn_sub (fun _ h => List.mem_cons_of_mem _ (List.mem_append_right _ h)) (by decide +kernel))
set_option maxRecDepth 20000 in
theorem gX6_right_X6_needRow : GoodIn wsX6_right (wsV RX6 97 RX6 yX6_needRow wsX6_needRow) := goodIn_app (goodIn_of _ (by decide +kernel)) ggX6_right_X6_needRow
set_option maxRecDepth 20000 in
theorem ggX6_right_X6_isWithin : GoodIn wsX6_right wsX6_isWithin := goodIn_r _ [17] (by decide +kernel) (by decide +kernel)
set_option maxRecDepth 20000 in
theorem gX6_right_X6_isWithin : GoodIn wsX6_right (va_wsS RX6 73 yX6_isWithin wsX6_isWithin) := goodIn_app (goodIn_of _ (by decide +kernel)) ggX6_right_X6_isWithin
theorem dX6_right_0 : decode cX6_right 0 = .ok (.aload_n 0, 1) := by decide +kernel
theorem dX6_right_1 : decode cX6_right 1 = .ok (.iload_n 1, 1) := by decide +kernel
theorem dX6_right_2 : decode cX6_right 2 = .ok (.invokevirtual 97, 3) := by decide +kernel
theorem dX6_right_5 : decode cX6_right 5 = .ok (.iload_n 2, 1) := by decide +kernel
theorem dX6_right_6 : decode cX6_right 6 = .ok (.ldc 90, 2) := by decide +kernel
theorem dX6_right_8 : decode cX6_right 8 = .ok (.invokestatic 73, 3) := by decide +kernel
theorem dX6_right_11 : decode cX6_right 11 = .ok (.ifCond .ne 13, 3) := by decide +kernel
theorem dX6_right_14 : decode cX6_right 14 = .ok (.new 76, 3) := by decide +kernel
theorem dX6_right_17 : decode cX6_right 17 = .ok (.dup, 1) := by decide +kernel
theorem dX6_right_18 : decode cX6_right 18 = .ok (.ldc 123, 2) := by decide +kernel
theorem dX6_right_20 : decode cX6_right 20 = .ok (.invokespecial 80, 3) := by decide +kernel
theorem dX6_right_23 : decode cX6_right 23 = .ok (.athrow, 1) := by decide +kernel
theorem dX6_right_24 : decode cX6_right 24 = .ok (.aload_n 0, 1) := by decide +kernel
theorem dX6_right_25 : decode cX6_right 25 = .ok (.iconst 0, 1) := by decide +kernel
theorem dX6_right_26 : decode cX6_right 26 = .ok (.putfield 53, 3) := by decide +kernel
theorem dX6_right_29 : decode cX6_right 29 = .ok (.aload_n 0, 1) := by decide +kernel
theorem dX6_right_30 : decode cX6_right 30 = .ok (.getfield 20, 3) := by decide +kernel
theorem dX6_right_33 : decode cX6_right 33 = .ok (.getfield 125, 3) := by decide +kernel
theorem dX6_right_36 : decode cX6_right 36 = .ok (.iload_n 1, 1) := by decide +kernel
theorem dX6_right_37 : decode cX6_right 37 = .ok (.iaload, 1) := by decide +kernel
theorem dX6_right_38 : decode cX6_right 38 = .ok (.istore_n 3, 1) := by decide +kernel
theorem dX6_right_39 : decode cX6_right 39 = .ok (.aload_n 0, 1) := by decide +kernel
theorem dX6_right_40 : decode cX6_right 40 = .ok (.getfield 20, 3) := by decide +kernel
theorem dX6_right_43 : decode cX6_right 43 = .ok (.getfield 125, 3) := by decide +kernel
theorem dX6_right_46 : decode cX6_right 46 = .ok (.iload_n 1, 1) := by decide +kernel
theorem dX6_right_47 : decode cX6_right 47 = .ok (.iload_n 2, 1) := by decide +kernel
theorem dX6_right_48 : decode cX6_right 48 = .ok (.iastore, 1) := by decide +kernel
theorem dX6_right_49 : decode cX6_right 49 = .ok (.iload_n 3, 1) := by decide +kernel
theorem dX6_right_50 : decode cX6_right 50 = .ok (.ireturn, 1) := by decide +kernel
set_option maxRecDepth 20000 in
theorem ggX6_clear_X5_wipe : GoodIn wsX6_clear wsX5_wipe := goodIn_r _ [8, 9, 10, 11, 12, 13, 14, 15, 24, 25, 26, 27, 28, 29, 30, 31] (by decide +kernel) (by decide +kernel)
set_option maxRecDepth 20000 in
theorem gX6_clear_X5_wipe : GoodIn wsX6_clear (wsV RX6 128 RX5 yX5_wipe wsX5_wipe) := goodIn_app (goodIn_of _ (by decide +kernel)) ggX6_clear_X5_wipe
theorem dX6_clear_0 : decode cX6_clear 0 = .ok (.aload_n 0, 1) := by decide +kernel
theorem dX6_clear_1 : decode cX6_clear 1 = .ok (.iconst 0, 1) := by decide +kernel
theorem dX6_clear_2 : decode cX6_clear 2 = .ok (.putfield 53, 3) := by decide +kernel
theorem dX6_clear_5 : decode cX6_clear 5 = .ok (.aload_n 0, 1) := by decide +kernel
theorem dX6_clear_6 : decode cX6_clear 6 = .ok (.getfield 20, 3) := by decide +kernel
theorem dX6_clear_9 : decode cX6_clear 9 = .ok (.getfield 57, 3) := by decide +kernel
theorem dX6_clear_12 : decode cX6_clear 12 = .ok (.istore_n 1, 1) := by decide +kernel
theorem dX6_clear_13 : decode cX6_clear 13 = .ok (.aload_n 0, 1) := by decide +kernel
theorem dX6_clear_14 : decode cX6_clear 14 = .ok (.getfield 20, 3) := by decide +kernel
theorem dX6_clear_17 : decode cX6_clear 17 = .ok (.invokevirtual 128, 3) := by decide +kernel
theorem dX6_clear_20 : decode cX6_clear 20 = .ok (.iload_n 1, 1) := by decide +kernel
theorem dX6_clear_21 : decode cX6_clear 21 = .ok (.ireturn, 1) := by decide +kernel
set_option maxRecDepth 20000 in
theorem ggX6_parts_X4_findParts : GoodIn wsX6_parts wsX4_findParts := goodIn_r _ [6, 7, 8, 9, 10, 11, 12, 13, 5, 14, 15, 16, 17, 18, 19, 20, 21, 22, 23, 24, 25, 26, 27, 28, 29, 30, 31, 32, 33, 34, 35, 36, 37, 38, 47, 48, 49, 50, 51, 52, 53, 54, 55, 56, 57, 58, 59] (by decide +kernel) (by decide +kernel)
set_option maxRecDepth 20000 in
theorem gX6_parts_X4_findParts : GoodIn wsX6_parts (wsV RX6 131 RX4 yX4_findParts wsX4_findParts) := goodIn_app (goodIn_of _ (by decide +kernel)) ggX6_parts_X4_findParts
theorem dX6_parts_0 : decode cX6_parts 0 = .ok (.aload_n 0, 1) := by decide +kernel
theorem dX6_parts_1 : decode cX6_parts 1 = .ok (.getfield 12, 3) := by decide +kernel
theorem dX6_parts_4 : decode cX6_parts 4 = .ok (.invokevirtual 131, 3) := by decide +kernel
theorem dX6_parts_7 : decode cX6_parts 7 = .ok (.ireturn, 1) := by decide +kernel
set_option maxRecDepth 20000 in
theorem ggX6_part_X6_needRow : GoodIn wsX6_part wsX6_needRow := goodIn_ca (goodIn_r _ [7, 8, 9, 10, 11, 49, 50, 51, 52, 53, 54, 55, 56, 62, 63, 64, 65, 66, 67, 68, 69] (by decide +kernel) (by decide +kernel)) (goodIn_sub (fun _ h => List.mem_cons_of_mem _ (List.mem_append_right _ h)) (by decide +kernel))
set_option maxRecDepth 20000 in
theorem gX6_part_X6_needRow : GoodIn wsX6_part (wsV RX6 97 RX6 yX6_needRow wsX6_needRow) := goodIn_app (goodIn_of _ (by decide +kernel)) ggX6_part_X6_needRow
set_option maxRecDepth 20000 in
theorem ggX6_part_X4_findParts : GoodIn wsX6_part wsX4_findParts := goodIn_r _ [16, 17, 18, 19, 20, 21, 22, 23, 15, 24, 25, 26, 27, 28, 29, 30, 31, 32, 33, 34, 35, 36, 37, 38, 39, 40, 41, 42, 43, 44, 45, 46, 47, 48, 57, 58, 59, 60, 61, 62, 63, 64, 65, 66, 67, 68, 69] (by decide +kernel) (by decide +kernel)
set_option maxRecDepth 20000 in
theorem gX6_part_X4_findParts : GoodIn wsX6_part (wsV RX6 131 RX4 yX4_findParts wsX4_findParts) := goodIn_app (goodIn_of _ (by decide +kernel)) ggX6_part_X4_findParts
theorem dX6_part_0 : decode cX6_part 0 = .ok (.aload_n 0, 1) := by decide +kernel
theorem dX6_part_1 : decode cX6_part 1 = .ok (.iload_n 1, 1) := by decide +kernel
theorem dX6_part_2 : decode cX6_part 2 = .ok (.invokevirtual 97, 3) := by decide +kernel
theorem dX6_part_5 : decode cX6_part 5 = .ok (.aload_n 0, 1) := by decide +kernel
theorem dX6_part_6 : decode cX6_part 6 = .ok (.getfield 12, 3) := by decide +kernel
theorem dX6_part_9 : decode cX6_part 9 = .ok (.invokevirtual 131, 3) := by decide +kernel
theorem dX6_part_12 : decode cX6_part 12 = .ok (.pop, 1) := by decide +kernel
theorem dX6_part_13 : decode cX6_part 13 = .ok (.aload_n 0, 1) := by decide +kernel
theorem dX6_part_14 : decode cX6_part 14 = .ok (.getfield 12, 3) := by decide +kernel
theorem dX6_part_17 : decode cX6_part 17 = .ok (.getfield 135, 3) := by decide +kernel
theorem dX6_part_20 : decode cX6_part 20 = .ok (.iload_n 1, 1) := by decide +kernel
theorem dX6_part_21 : decode cX6_part 21 = .ok (.iaload, 1) := by decide +kernel
theorem dX6_part_22 : decode cX6_part 22 = .ok (.ireturn, 1) := by decide +kernel
set_option maxRecDepth 20000 in
theorem ggX6_flow_X4_findSigns : GoodIn wsX6_flow wsX4_findSigns := goodIn_r _ [6, 7, 8, 9, 10, 11, 5, 12, 13, 14, 15, 16, 17, 18, 19, 20, 21, 22, 23, 24, 25, 26, 27, 28, 29, 30, 31, 32, 33, 34, 35, 36, 37, 38, 39, 40, 41, 42, 43, 44, 45, 46, 47, 48, 49, 58, 59, 60, 61, 62, 63, 64, 65, 66, 67, 68, 69, 70] (by decide +kernel) (by decide +kernel)
set_option maxRecDepth 20000 in
theorem gX6_flow_X4_findSigns : GoodIn wsX6_flow (wsV RX6 138 RX4 yX4_findSigns wsX4_findSigns) := goodIn_app (goodIn_of _ (by decide +kernel)) ggX6_flow_X4_findSigns
theorem dX6_flow_0 : decode cX6_flow 0 = .ok (.aload_n 0, 1) := by decide +kernel
theorem dX6_flow_1 : decode cX6_flow 1 = .ok (.getfield 12, 3) := by decide +kernel
theorem dX6_flow_4 : decode cX6_flow 4 = .ok (.invokevirtual 138, 3) := by decide +kernel
theorem dX6_flow_7 : decode cX6_flow 7 = .ok (.ireturn, 1) := by decide +kernel
set_option maxRecDepth 20000 in
theorem ggX6_sign_X4_findSigns : GoodIn wsX6_sign wsX4_findSigns := goodIn_r _ [9, 10, 11, 12, 13, 14, 8, 15, 16, 17, 18, 19, 20, 21, 22, 23, 24, 25, 26, 27, 28, 29, 30, 31, 32, 33, 34, 35, 36, 37, 38, 39, 40, 41, 42, 43, 44, 45, 46, 47, 48, 49, 50, 51, 52, 69, 70, 71, 72, 73, 74, 75, 76, 77, 78, 79, 80, 81] (by decide +kernel) (by decide +kernel)
set_option maxRecDepth 20000 in
theorem gX6_sign_X4_findSigns : GoodIn wsX6_sign (wsV RX6 138 RX4 yX4_findSigns wsX4_findSigns) := goodIn_app (goodIn_of _ (by decide +kernel)) ggX6_sign_X4_findSigns
set_option maxRecDepth 20000 in
theorem ggX6_sign_X6_needRow : GoodIn wsX6_sign wsX6_needRow := goodIn_ca (goodIn_r _ [56, 57, 58, 59, 60, 61, 62, 63, 64, 65, 66, 67, 68, 74, 75, 76, 77, 78, 79, 80, 81] (by decide +kernel) (by decide +kernel)) (goodIn_sub (fun _ h => List.mem_cons_of_mem _ (List.mem_append_right _ h)) (by decide +kernel))
set_option maxRecDepth 20000 in
theorem gX6_sign_X6_needRow : GoodIn wsX6_sign (wsV RX6 97 RX6 yX6_needRow wsX6_needRow) := goodIn_app (goodIn_of _ (by decide +kernel)) ggX6_sign_X6_needRow
theorem dX6_sign_0 : decode cX6_sign 0 = .ok (.aload_n 0, 1) := by decide +kernel
theorem dX6_sign_1 : decode cX6_sign 1 = .ok (.getfield 12, 3) := by decide +kernel
theorem dX6_sign_4 : decode cX6_sign 4 = .ok (.invokevirtual 138, 3) := by decide +kernel
theorem dX6_sign_7 : decode cX6_sign 7 = .ok (.iconst (-1), 1) := by decide +kernel
theorem dX6_sign_8 : decode cX6_sign 8 = .ok (.if_icmp .eq 13, 3) := by decide +kernel
theorem dX6_sign_11 : decode cX6_sign 11 = .ok (.new 62, 3) := by decide +kernel
theorem dX6_sign_14 : decode cX6_sign 14 = .ok (.dup, 1) := by decide +kernel
theorem dX6_sign_15 : decode cX6_sign 15 = .ok (.ldc 141, 2) := by decide +kernel
theorem dX6_sign_17 : decode cX6_sign 17 = .ok (.invokespecial 66, 3) := by decide +kernel
theorem dX6_sign_20 : decode cX6_sign 20 = .ok (.athrow, 1) := by decide +kernel
theorem dX6_sign_21 : decode cX6_sign 21 = .ok (.aload_n 0, 1) := by decide +kernel
theorem dX6_sign_22 : decode cX6_sign 22 = .ok (.iload_n 1, 1) := by decide +kernel
theorem dX6_sign_23 : decode cX6_sign 23 = .ok (.invokevirtual 97, 3) := by decide +kernel
theorem dX6_sign_26 : decode cX6_sign 26 = .ok (.aload_n 0, 1) := by decide +kernel
theorem dX6_sign_27 : decode cX6_sign 27 = .ok (.getfield 12, 3) := by decide +kernel
theorem dX6_sign_30 : decode cX6_sign 30 = .ok (.getfield 143, 3) := by decide +kernel
theorem dX6_sign_33 : decode cX6_sign 33 = .ok (.iload_n 1, 1) := by decide +kernel
theorem dX6_sign_34 : decode cX6_sign 34 = .ok (.iaload, 1) := by decide +kernel
theorem dX6_sign_35 : decode cX6_sign 35 = .ok (.ireturn, 1) := by decide +kernel
set_option maxRecDepth 20000 in
theorem ggX6_intervals_X4_firstColumnNoInterval : GoodIn wsX6_intervals wsX4_firstColumnNoInterval := goodIn_r _ [6, 7, 8, 9, 10, 11, 5, 12, 13, 14, 23, 24, 25, 26, 27, 28, 29, 30, 31, 32, 33, 34, 35] (by decide +kernel) (by decide +kernel)
set_option maxRecDepth 20000 in
theorem gX6_intervals_X4_firstColumnNoInterval : GoodIn wsX6_intervals (wsV RX6 146 RX4 yX4_firstColumnNoInterval wsX4_firstColumnNoInterval) := goodIn_app (goodIn_of _ (by decide +kernel)) ggX6_intervals_X4_firstColumnNoInterval
theorem dX6_intervals_0 : decode cX6_intervals 0 = .ok (.aload_n 0, 1) := by decide +kernel
theorem dX6_intervals_1 : decode cX6_intervals 1 = .ok (.getfield 12, 3) := by decide +kernel
theorem dX6_intervals_4 : decode cX6_intervals 4 = .ok (.invokevirtual 146, 3) := by decide +kernel
theorem dX6_intervals_7 : decode cX6_intervals 7 = .ok (.ireturn, 1) := by decide +kernel
set_option maxRecDepth 20000 in
theorem ggX6_nature_X4_firstSetNotParted : GoodIn wsX6_nature wsX4_firstSetNotParted := goodIn_r _ [6, 7, 8, 9, 10, 11, 5, 12, 13, 14, 15, 16, 17, 18, 19, 20, 21, 22, 23, 24, 25, 26, 27, 28, 29, 30, 31, 32, 33, 34, 35, 36, 37, 38, 47, 48, 49, 50, 51, 52, 53, 54, 55, 56, 57, 58, 59] (by decide +kernel) (by decide +kernel)
set_option maxRecDepth 20000 in
theorem gX6_nature_X4_firstSetNotParted : GoodIn wsX6_nature (wsV RX6 149 RX4 yX4_firstSetNotParted wsX4_firstSetNotParted) := goodIn_app (goodIn_of _ (by decide +kernel)) ggX6_nature_X4_firstSetNotParted
theorem dX6_nature_0 : decode cX6_nature 0 = .ok (.aload_n 0, 1) := by decide +kernel
theorem dX6_nature_1 : decode cX6_nature 1 = .ok (.getfield 12, 3) := by decide +kernel
theorem dX6_nature_4 : decode cX6_nature 4 = .ok (.invokevirtual 149, 3) := by decide +kernel
theorem dX6_nature_7 : decode cX6_nature 7 = .ok (.ireturn, 1) := by decide +kernel
set_option maxRecDepth 20000 in
theorem ggX6_knapsack_X4_isKnapsack : GoodIn wsX6_knapsack wsX4_isKnapsack := goodIn_r _ [6, 7, 8, 9, 10, 11, 12, 13, 22, 23, 24, 25, 26, 27, 28, 29, 30, 31, 32, 33, 34] (by decide +kernel) (by decide +kernel)
set_option maxRecDepth 20000 in
theorem gX6_knapsack_X4_isKnapsack : GoodIn wsX6_knapsack (wsV RX6 152 RX4 yX4_isKnapsack wsX4_isKnapsack) := goodIn_app (goodIn_of _ (by decide +kernel)) ggX6_knapsack_X4_isKnapsack
theorem dX6_knapsack_0 : decode cX6_knapsack 0 = .ok (.aload_n 0, 1) := by decide +kernel
theorem dX6_knapsack_1 : decode cX6_knapsack 1 = .ok (.getfield 12, 3) := by decide +kernel
theorem dX6_knapsack_4 : decode cX6_knapsack 4 = .ok (.invokevirtual 152, 3) := by decide +kernel
theorem dX6_knapsack_7 : decode cX6_knapsack 7 = .ok (.ireturn, 1) := by decide +kernel
set_option maxRecDepth 20000 in
theorem ggX6_matching_X4_isMatching : GoodIn wsX6_matching wsX4_isMatching := goodIn_r _ [6, 7, 8, 9, 10, 11, 12, 13, 14, 15, 5, 16, 17, 18, 19, 20, 21, 22, 23, 24, 25, 26, 27, 28, 29, 30, 31, 32, 33, 34, 35, 36, 37, 38, 39, 40, 41, 42, 43, 44, 45, 46, 47, 48, 49, 50, 51, 52, 53, 54, 55, 56, 57, 58, 59, 60, 69, 70, 71, 72, 73, 74, 75, 76, 77, 78, 79, 80, 81] (by decide +kernel) (by decide +kernel)
set_option maxRecDepth 20000 in
theorem gX6_matching_X4_isMatching : GoodIn wsX6_matching (wsV RX6 156 RX4 yX4_isMatching wsX4_isMatching) := goodIn_app (goodIn_of _ (by decide +kernel)) ggX6_matching_X4_isMatching
theorem dX6_matching_0 : decode cX6_matching 0 = .ok (.aload_n 0, 1) := by decide +kernel
theorem dX6_matching_1 : decode cX6_matching 1 = .ok (.getfield 12, 3) := by decide +kernel
theorem dX6_matching_4 : decode cX6_matching 4 = .ok (.invokevirtual 156, 3) := by decide +kernel
theorem dX6_matching_7 : decode cX6_matching 7 = .ok (.ireturn, 1) := by decide +kernel
set_option maxRecDepth 20000 in
theorem ggX6_way_X4_isWay : GoodIn wsX6_way wsX4_isWay := goodIn_r _ [6, 7, 8, 9, 10, 11, 12, 13, 5, 14, 15, 16, 17, 18, 19, 20, 21, 22, 23, 24, 25, 26, 27, 28, 29, 30, 31, 32, 33, 34, 35, 36, 37, 38, 39, 40, 41, 42, 43, 44, 45, 46, 47, 48, 49, 50, 51, 52, 53, 54, 55, 56, 57, 58, 59, 60, 61, 62, 63, 64, 65, 66, 75, 76, 77, 78, 79, 80, 81, 82, 83, 84, 85, 86, 87] (by decide +kernel) (by decide +kernel)
set_option maxRecDepth 20000 in
theorem gX6_way_X4_isWay : GoodIn wsX6_way (wsV RX6 159 RX4 yX4_isWay wsX4_isWay) := goodIn_app (goodIn_of _ (by decide +kernel)) ggX6_way_X4_isWay
theorem dX6_way_0 : decode cX6_way 0 = .ok (.aload_n 0, 1) := by decide +kernel
theorem dX6_way_1 : decode cX6_way 1 = .ok (.getfield 12, 3) := by decide +kernel
theorem dX6_way_4 : decode cX6_way 4 = .ok (.invokevirtual 159, 3) := by decide +kernel
theorem dX6_way_7 : decode cX6_way 7 = .ok (.ireturn, 1) := by decide +kernel
set_option maxRecDepth 20000 in
theorem ggX6_solve_X4_findSigns : GoodIn wsX6_solve wsX4_findSigns := goodIn_r _ [10, 11, 12, 13, 14, 15, 9, 16, 17, 18, 19, 20, 21, 22, 23, 24, 25, 26, 27, 28, 29, 30, 31, 32, 33, 34, 35, 36, 37, 38, 39, 40, 41, 42, 43, 44, 45, 46, 47, 48, 49, 50, 51, 52, 53, 267, 268, 269, 270, 271, 272, 273, 274, 275, 276, 277, 278, 279] (by decide +kernel) (by decide +kernel)
set_option maxRecDepth 20000 in
theorem gX6_solve_X4_findSigns : GoodIn wsX6_solve (wsV RX6 138 RX4 yX4_findSigns wsX4_findSigns) := goodIn_app (goodIn_of _ (by decide +kernel)) ggX6_solve_X4_findSigns
set_option maxRecDepth 20000 in
theorem ggX6_solve_X6_solveFlow : GoodIn wsX6_solve wsX6_solveFlow := goodIn_r _ [57, 58, 4, 1, 59, 60, 61, 5, 62, 63, 64, 65, 66, 67, 68, 69, 70, 71, 72, 73, 74, 75, 76, 77, 78, 79, 80, 81, 82, 83, 84, 85, 86, 87, 88, 89, 90, 91, 92, 93, 94, 95, 96, 97, 98, 99, 100, 101, 102, 103, 104, 105, 106, 107, 108, 109, 110, 111, 112, 113, 114, 115, 116, 117, 118, 119, 120, 121, 122, 123, 124, 125, 126, 127, 128, 129, 130, 131, 132, 133, 134, 135, 136, 48, 49, 50, 137, 138, 139, 140, 141, 142, 143, 144, 145, 146, 147, 148, 149, 150, 151, 152, 153, 154, 155, 156, 157, 158, 159, 160, 161, 162, 163, 164, 165, 166, 167, 168, 169, 170, 171, 172, 173, 174, 175, 176, 177, 178, 179, 180, 181, 182, 183, 184, 185, 186, 187, 188, 189, 190, 191, 192, 193, 194, 195, 196, 197, 198, 199, 200, 201, 202, 203, 204, 205, 206, 207, 208, 209, 210, 211, 212, 52, 53, 213, 214, 215, 216, 217, 218, 219, 220, 221, 259, 260, 261, 262, 263, 264, 265, 266, 267, 268, 269, 270, 271, 280, 281, 282, 283, 284, 285, 286, 287, 288, 289, 290, 291, 272, 273, 274, 275, 276, 277, 278, 279, 292, 293, 294, 295, 296] (by decide +kernel) (by decide +kernel)
set_option maxRecDepth 20000 in
theorem gX6_solve_X6_solveFlow : GoodIn wsX6_solve (wsV RX6 162 RX6 yX6_solveFlow wsX6_solveFlow) := goodIn_app (goodIn_of _ (by decide +kernel)) ggX6_solve_X6_solveFlow
set_option maxRecDepth 20000 in
theorem ggX6_solve_X4_isKnapsack : GoodIn wsX6_solve wsX4_isKnapsack := goodIn_r _ [225, 11, 17, 226, 227, 12, 18, 228, 267, 268, 269, 270, 271, 272, 273, 274, 275, 276, 277, 278, 279] (by decide +kernel) (by decide +kernel)
set_option maxRecDepth 20000 in
theorem gX6_solve_X4_isKnapsack : GoodIn wsX6_solve (wsV RX6 152 RX4 yX4_isKnapsack wsX4_isKnapsack) := goodIn_app (goodIn_of _ (by decide +kernel)) ggX6_solve_X4_isKnapsack
set_option maxRecDepth 20000 in
theorem ggX6_solve_X0_fill : GoodIn wsX6_solve wsX0_fill := goodIn_r _ [233, 234, 235, 236, 237, 64, 65, 66, 238, 239, 240, 81, 82, 83, 241, 242, 243, 232, 244, 245, 48, 49, 50, 246, 247, 248, 249, 250, 251, 252, 253, 254, 255, 256, 257, 258, 272, 273, 274, 275, 276, 277, 278, 279, 297] (by decide +kernel) (by decide +kernel)
set_option maxRecDepth 20000 in
theorem gX6_solve_X0_fill : GoodIn wsX6_solve (wsV RX6 165 RX0 yX0_fill wsX0_fill) := goodIn_app (goodIn_of _ (by decide +kernel)) ggX6_solve_X0_fill
theorem dX6_solve_0 : decode cX6_solve 0 = .ok (.aload_n 0, 1) := by decide +kernel
theorem dX6_solve_1 : decode cX6_solve 1 = .ok (.getfield 12, 3) := by decide +kernel
theorem dX6_solve_4 : decode cX6_solve 4 = .ok (.invokevirtual 138, 3) := by decide +kernel
theorem dX6_solve_7 : decode cX6_solve 7 = .ok (.iconst (-1), 1) := by decide +kernel
theorem dX6_solve_8 : decode cX6_solve 8 = .ok (.if_icmp .ne 14, 3) := by decide +kernel
theorem dX6_solve_11 : decode cX6_solve 11 = .ok (.aload_n 0, 1) := by decide +kernel
theorem dX6_solve_12 : decode cX6_solve 12 = .ok (.aload_n 0, 1) := by decide +kernel
theorem dX6_solve_13 : decode cX6_solve 13 = .ok (.invokevirtual 162, 3) := by decide +kernel
theorem dX6_solve_16 : decode cX6_solve 16 = .ok (.putfield 53, 3) := by decide +kernel
theorem dX6_solve_19 : decode cX6_solve 19 = .ok (.goto 43, 3) := by decide +kernel
theorem dX6_solve_22 : decode cX6_solve 22 = .ok (.aload_n 0, 1) := by decide +kernel
theorem dX6_solve_23 : decode cX6_solve 23 = .ok (.getfield 12, 3) := by decide +kernel
theorem dX6_solve_26 : decode cX6_solve 26 = .ok (.invokevirtual 152, 3) := by decide +kernel
theorem dX6_solve_29 : decode cX6_solve 29 = .ok (.ifCond .eq 26, 3) := by decide +kernel
theorem dX6_solve_32 : decode cX6_solve 32 = .ok (.aload_n 0, 1) := by decide +kernel
theorem dX6_solve_33 : decode cX6_solve 33 = .ok (.getfield 45, 3) := by decide +kernel
theorem dX6_solve_36 : decode cX6_solve 36 = .ok (.aload_n 0, 1) := by decide +kernel
theorem dX6_solve_37 : decode cX6_solve 37 = .ok (.getfield 20, 3) := by decide +kernel
theorem dX6_solve_40 : decode cX6_solve 40 = .ok (.aload_n 0, 1) := by decide +kernel
theorem dX6_solve_41 : decode cX6_solve 41 = .ok (.getfield 49, 3) := by decide +kernel
theorem dX6_solve_44 : decode cX6_solve 44 = .ok (.invokevirtual 165, 3) := by decide +kernel
theorem dX6_solve_47 : decode cX6_solve 47 = .ok (.aload_n 0, 1) := by decide +kernel
theorem dX6_solve_48 : decode cX6_solve 48 = .ok (.iconst 2, 1) := by decide +kernel
theorem dX6_solve_49 : decode cX6_solve 49 = .ok (.putfield 53, 3) := by decide +kernel
theorem dX6_solve_52 : decode cX6_solve 52 = .ok (.goto 10, 3) := by decide +kernel
theorem dX6_solve_55 : decode cX6_solve 55 = .ok (.aload_n 0, 1) := by decide +kernel
theorem dX6_solve_56 : decode cX6_solve 56 = .ok (.iconst 0, 1) := by decide +kernel
theorem dX6_solve_57 : decode cX6_solve 57 = .ok (.putfield 53, 3) := by decide +kernel
theorem dX6_solve_60 : decode cX6_solve 60 = .ok (.iconst (-1), 1) := by decide +kernel
theorem dX6_solve_61 : decode cX6_solve 61 = .ok (.ireturn, 1) := by decide +kernel
theorem dX6_solve_62 : decode cX6_solve 62 = .ok (.aload_n 0, 1) := by decide +kernel
theorem dX6_solve_63 : decode cX6_solve 63 = .ok (.getfield 53, 3) := by decide +kernel
theorem dX6_solve_66 : decode cX6_solve 66 = .ok (.iconst 3, 1) := by decide +kernel
theorem dX6_solve_67 : decode cX6_solve 67 = .ok (.if_icmp .ne 7, 3) := by decide +kernel
theorem dX6_solve_70 : decode cX6_solve 70 = .ok (.iconst 0, 1) := by decide +kernel
theorem dX6_solve_71 : decode cX6_solve 71 = .ok (.goto 4, 3) := by decide +kernel
theorem dX6_solve_74 : decode cX6_solve 74 = .ok (.iconst 1, 1) := by decide +kernel
theorem dX6_solve_75 : decode cX6_solve 75 = .ok (.ireturn, 1) := by decide +kernel
set_option maxRecDepth 20000 in
theorem ggX6_at_X6_needBest : GoodIn wsX6_at wsX6_needBest := goodIn_ca (goodIn_r _ [6, 7, 8, 9, 18, 19, 20, 21, 22, 23, 24, 25] (by decide +kernel) (by decide +kernel)) (goodIn_sub (fun _ h => List.mem_cons_of_mem _ (List.mem_append_left _ (List.mem_append_right _ h))) (by decide +kernel))
set_option maxRecDepth 20000 in
theorem gX6_at_X6_needBest : GoodIn wsX6_at (wsV RX6 169 RX6 yX6_needBest wsX6_needBest) := goodIn_app (goodIn_of _ (by decide +kernel)) ggX6_at_X6_needBest
set_option maxRecDepth 20000 in
theorem ggX6_at_X6_needColumn : GoodIn wsX6_at wsX6_needColumn := goodIn_ca (goodIn_r _ [13, 14, 15, 16, 17, 18, 19, 20, 21, 22, 23, 24, 25, 26, 27, 28, 29, 30, 31, 32, 33] (by decide +kernel) (by decide +kernel)) (goodIn_sub (fun _ h => List.mem_cons_of_mem _ (List.mem_append_right _ h)) (by decide +kernel))
set_option maxRecDepth 20000 in
theorem gX6_at_X6_needColumn : GoodIn wsX6_at (wsV RX6 101 RX6 yX6_needColumn wsX6_needColumn) := goodIn_app (goodIn_of _ (by decide +kernel)) ggX6_at_X6_needColumn
theorem dX6_at_0 : decode cX6_at 0 = .ok (.aload_n 0, 1) := by decide +kernel
theorem dX6_at_1 : decode cX6_at 1 = .ok (.invokevirtual 169, 3) := by decide +kernel
theorem dX6_at_4 : decode cX6_at 4 = .ok (.aload_n 0, 1) := by decide +kernel
theorem dX6_at_5 : decode cX6_at 5 = .ok (.iload_n 1, 1) := by decide +kernel
theorem dX6_at_6 : decode cX6_at 6 = .ok (.invokevirtual 101, 3) := by decide +kernel
theorem dX6_at_9 : decode cX6_at 9 = .ok (.aload_n 0, 1) := by decide +kernel
theorem dX6_at_10 : decode cX6_at 10 = .ok (.getfield 49, 3) := by decide +kernel
theorem dX6_at_13 : decode cX6_at 13 = .ok (.iload_n 1, 1) := by decide +kernel
theorem dX6_at_14 : decode cX6_at 14 = .ok (.iaload, 1) := by decide +kernel
theorem dX6_at_15 : decode cX6_at 15 = .ok (.ireturn, 1) := by decide +kernel
set_option maxRecDepth 20000 in
theorem ggX6_value_X6_needBest : GoodIn wsX6_value wsX6_needBest := goodIn_ca (goodIn_r _ [9, 10, 11, 12, 13, 14, 15, 16, 17, 18, 19, 20] (by decide +kernel) (by decide +kernel)) (goodIn_sub (fun _ h => List.mem_cons_of_mem _ (List.mem_append_right _ h)) (by decide +kernel))
set_option maxRecDepth 20000 in
theorem gX6_value_X6_needBest : GoodIn wsX6_value (wsV RX6 169 RX6 yX6_needBest wsX6_needBest) := goodIn_app (goodIn_of _ (by decide +kernel)) ggX6_value_X6_needBest
theorem dX6_value_0 : decode cX6_value 0 = .ok (.aload_n 0, 1) := by decide +kernel
theorem dX6_value_1 : decode cX6_value 1 = .ok (.invokevirtual 169, 3) := by decide +kernel
theorem dX6_value_4 : decode cX6_value 4 = .ok (.iconst 0, 1) := by decide +kernel
theorem dX6_value_5 : decode cX6_value 5 = .ok (.istore_n 1, 1) := by decide +kernel
theorem dX6_value_6 : decode cX6_value 6 = .ok (.iconst 0, 1) := by decide +kernel
theorem dX6_value_7 : decode cX6_value 7 = .ok (.istore_n 2, 1) := by decide +kernel
theorem dX6_value_8 : decode cX6_value 8 = .ok (.iload_n 2, 1) := by decide +kernel
theorem dX6_value_9 : decode cX6_value 9 = .ok (.aload_n 0, 1) := by decide +kernel
theorem dX6_value_10 : decode cX6_value 10 = .ok (.getfield 20, 3) := by decide +kernel
theorem dX6_value_13 : decode cX6_value 13 = .ok (.getfield 57, 3) := by decide +kernel
theorem dX6_value_16 : decode cX6_value 16 = .ok (.if_icmp .ge 28, 3) := by decide +kernel
theorem dX6_value_19 : decode cX6_value 19 = .ok (.iload_n 1, 1) := by decide +kernel
theorem dX6_value_20 : decode cX6_value 20 = .ok (.aload_n 0, 1) := by decide +kernel
theorem dX6_value_21 : decode cX6_value 21 = .ok (.getfield 20, 3) := by decide +kernel
theorem dX6_value_24 : decode cX6_value 24 = .ok (.getfield 120, 3) := by decide +kernel
theorem dX6_value_27 : decode cX6_value 27 = .ok (.iload_n 2, 1) := by decide +kernel
theorem dX6_value_28 : decode cX6_value 28 = .ok (.iaload, 1) := by decide +kernel
theorem dX6_value_29 : decode cX6_value 29 = .ok (.aload_n 0, 1) := by decide +kernel
theorem dX6_value_30 : decode cX6_value 30 = .ok (.getfield 49, 3) := by decide +kernel
theorem dX6_value_33 : decode cX6_value 33 = .ok (.iload_n 2, 1) := by decide +kernel
theorem dX6_value_34 : decode cX6_value 34 = .ok (.iaload, 1) := by decide +kernel
theorem dX6_value_35 : decode cX6_value 35 = .ok (.imul, 1) := by decide +kernel
theorem dX6_value_36 : decode cX6_value 36 = .ok (.iadd, 1) := by decide +kernel
theorem dX6_value_37 : decode cX6_value 37 = .ok (.istore_n 1, 1) := by decide +kernel
theorem dX6_value_38 : decode cX6_value 38 = .ok (.iinc 2 1, 3) := by decide +kernel
theorem dX6_value_41 : decode cX6_value 41 = .ok (.goto (-33), 3) := by decide +kernel
theorem dX6_value_44 : decode cX6_value 44 = .ok (.iload_n 1, 1) := by decide +kernel
theorem dX6_value_45 : decode cX6_value 45 = .ok (.ireturn, 1) := by decide +kernel
set_option maxRecDepth 20000 in
theorem ggX6_sum_X6_needBest : GoodIn wsX6_sum wsX6_needBest := goodIn_ca (goodIn_r _ [9, 10, 11, 12, 20, 21, 22, 23, 24, 25, 26, 27] (by decide +kernel) (by decide +kernel)) (goodIn_sub (fun _ h => List.mem_cons_of_mem _ (List.mem_append_left _ (List.mem_append_right _ h))) (by decide +kernel))
set_option maxRecDepth 20000 in
theorem gX6_sum_X6_needBest : GoodIn wsX6_sum (wsV RX6 169 RX6 yX6_needBest wsX6_needBest) := goodIn_app (goodIn_of _ (by decide +kernel)) ggX6_sum_X6_needBest
set_option maxRecDepth 20000 in
theorem ggX6_sum_X6_needRow : GoodIn wsX6_sum wsX6_needRow := goodIn_ca (goodIn_r _ [16, 17, 18, 1, 19, 20, 21, 22, 23, 24, 25, 26, 27, 28, 29, 30, 31, 32, 33, 34, 35] (by decide +kernel) (by decide +kernel)) (goodIn_sub (fun _ h => List.mem_cons_of_mem _ (List.mem_append_right _ h)) (by decide +kernel))
set_option maxRecDepth 20000 in
theorem gX6_sum_X6_needRow : GoodIn wsX6_sum (wsV RX6 97 RX6 yX6_needRow wsX6_needRow) := goodIn_app (goodIn_of _ (by decide +kernel)) ggX6_sum_X6_needRow
theorem dX6_sum_0 : decode cX6_sum 0 = .ok (.aload_n 0, 1) := by decide +kernel
theorem dX6_sum_1 : decode cX6_sum 1 = .ok (.invokevirtual 169, 3) := by decide +kernel
theorem dX6_sum_4 : decode cX6_sum 4 = .ok (.aload_n 0, 1) := by decide +kernel
theorem dX6_sum_5 : decode cX6_sum 5 = .ok (.iload_n 1, 1) := by decide +kernel
theorem dX6_sum_6 : decode cX6_sum 6 = .ok (.invokevirtual 97, 3) := by decide +kernel
theorem dX6_sum_9 : decode cX6_sum 9 = .ok (.iconst 0, 1) := by decide +kernel
theorem dX6_sum_10 : decode cX6_sum 10 = .ok (.istore_n 2, 1) := by decide +kernel
theorem dX6_sum_11 : decode cX6_sum 11 = .ok (.iconst 0, 1) := by decide +kernel
theorem dX6_sum_12 : decode cX6_sum 12 = .ok (.istore_n 3, 1) := by decide +kernel
theorem dX6_sum_13 : decode cX6_sum 13 = .ok (.iload_n 3, 1) := by decide +kernel
theorem dX6_sum_14 : decode cX6_sum 14 = .ok (.aload_n 0, 1) := by decide +kernel
theorem dX6_sum_15 : decode cX6_sum 15 = .ok (.getfield 20, 3) := by decide +kernel
theorem dX6_sum_18 : decode cX6_sum 18 = .ok (.getfield 57, 3) := by decide +kernel
theorem dX6_sum_21 : decode cX6_sum 21 = .ok (.if_icmp .ge 30, 3) := by decide +kernel
theorem dX6_sum_24 : decode cX6_sum 24 = .ok (.iload_n 2, 1) := by decide +kernel
theorem dX6_sum_25 : decode cX6_sum 25 = .ok (.aload_n 0, 1) := by decide +kernel
theorem dX6_sum_26 : decode cX6_sum 26 = .ok (.getfield 20, 3) := by decide +kernel
theorem dX6_sum_29 : decode cX6_sum 29 = .ok (.getfield 106, 3) := by decide +kernel
theorem dX6_sum_32 : decode cX6_sum 32 = .ok (.iload_n 1, 1) := by decide +kernel
theorem dX6_sum_33 : decode cX6_sum 33 = .ok (.aaload, 1) := by decide +kernel
theorem dX6_sum_34 : decode cX6_sum 34 = .ok (.iload_n 3, 1) := by decide +kernel
theorem dX6_sum_35 : decode cX6_sum 35 = .ok (.iaload, 1) := by decide +kernel
theorem dX6_sum_36 : decode cX6_sum 36 = .ok (.aload_n 0, 1) := by decide +kernel
theorem dX6_sum_37 : decode cX6_sum 37 = .ok (.getfield 49, 3) := by decide +kernel
theorem dX6_sum_40 : decode cX6_sum 40 = .ok (.iload_n 3, 1) := by decide +kernel
theorem dX6_sum_41 : decode cX6_sum 41 = .ok (.iaload, 1) := by decide +kernel
theorem dX6_sum_42 : decode cX6_sum 42 = .ok (.imul, 1) := by decide +kernel
theorem dX6_sum_43 : decode cX6_sum 43 = .ok (.iadd, 1) := by decide +kernel
theorem dX6_sum_44 : decode cX6_sum 44 = .ok (.istore_n 2, 1) := by decide +kernel
theorem dX6_sum_45 : decode cX6_sum 45 = .ok (.iinc 3 1, 3) := by decide +kernel
theorem dX6_sum_48 : decode cX6_sum 48 = .ok (.goto (-35), 3) := by decide +kernel
theorem dX6_sum_51 : decode cX6_sum 51 = .ok (.iload_n 2, 1) := by decide +kernel
theorem dX6_sum_52 : decode cX6_sum 52 = .ok (.ireturn, 1) := by decide +kernel
set_option maxRecDepth 20000 in
theorem ggX6_price_X6_needPrices : GoodIn wsX6_price wsX6_needPrices := goodIn_ca (goodIn_r _ [7, 8, 9, 10, 19, 20, 21, 22, 23, 24, 25, 26] (by decide +kernel) (by decide +kernel)) (goodIn_sub (fun _ h => List.mem_cons_of_mem _ (List.mem_append_left _ (List.mem_append_right _ h))) (by decide +kernel))
set_option maxRecDepth 20000 in
theorem gX6_price_X6_needPrices : GoodIn wsX6_price (wsV RX6 172 RX6 yX6_needPrices wsX6_needPrices) := goodIn_app (goodIn_of _ (by decide +kernel)) ggX6_price_X6_needPrices
set_option maxRecDepth 20000 in
theorem ggX6_price_X6_needRow : GoodIn wsX6_price wsX6_needRow := goodIn_ca (goodIn_r _ [14, 15, 16, 17, 18, 19, 20, 21, 22, 23, 24, 25, 26, 30, 31, 32, 33, 34, 35, 36, 37] (by decide +kernel) (by decide +kernel)) (goodIn_sub (fun _ h => List.mem_cons_of_mem _ (List.mem_append_right _ h)) (by decide +kernel))
set_option maxRecDepth 20000 in
theorem gX6_price_X6_needRow : GoodIn wsX6_price (wsV RX6 97 RX6 yX6_needRow wsX6_needRow) := goodIn_app (goodIn_of _ (by decide +kernel)) ggX6_price_X6_needRow
theorem dX6_price_0 : decode cX6_price 0 = .ok (.aload_n 0, 1) := by decide +kernel
theorem dX6_price_1 : decode cX6_price 1 = .ok (.invokevirtual 172, 3) := by decide +kernel
theorem dX6_price_4 : decode cX6_price 4 = .ok (.aload_n 0, 1) := by decide +kernel
theorem dX6_price_5 : decode cX6_price 5 = .ok (.iload_n 1, 1) := by decide +kernel
theorem dX6_price_6 : decode cX6_price 6 = .ok (.invokevirtual 97, 3) := by decide +kernel
theorem dX6_price_9 : decode cX6_price 9 = .ok (.aload_n 0, 1) := by decide +kernel
theorem dX6_price_10 : decode cX6_price 10 = .ok (.getfield 31, 3) := by decide +kernel
theorem dX6_price_13 : decode cX6_price 13 = .ok (.getfield 175, 3) := by decide +kernel
theorem dX6_price_16 : decode cX6_price 16 = .ok (.iload_n 1, 1) := by decide +kernel
theorem dX6_price_17 : decode cX6_price 17 = .ok (.iaload, 1) := by decide +kernel
theorem dX6_price_18 : decode cX6_price 18 = .ok (.ireturn, 1) := by decide +kernel
set_option maxRecDepth 20000 in
theorem ggX6_reduced_X6_needPrices : GoodIn wsX6_reduced wsX6_needPrices := goodIn_ca (goodIn_r _ [11, 12, 13, 14, 22, 23, 24, 25, 26, 27, 28, 29] (by decide +kernel) (by decide +kernel)) (goodIn_sub (fun _ h => List.mem_cons_of_mem _ (List.mem_append_left _ (List.mem_append_right _ h))) (by decide +kernel))
set_option maxRecDepth 20000 in
theorem gX6_reduced_X6_needPrices : GoodIn wsX6_reduced (wsV RX6 172 RX6 yX6_needPrices wsX6_needPrices) := goodIn_app (goodIn_of _ (by decide +kernel)) ggX6_reduced_X6_needPrices
set_option maxRecDepth 20000 in
theorem ggX6_reduced_X6_needColumn : GoodIn wsX6_reduced wsX6_needColumn := goodIn_ca (goodIn_r _ [18, 19, 20, 1, 21, 22, 23, 24, 25, 26, 27, 28, 29, 30, 31, 32, 33, 34, 35, 36, 37] (by decide +kernel) (by decide +kernel)) (goodIn_sub (fun _ h => List.mem_cons_of_mem _ (List.mem_append_right _ h)) (by decide +kernel))
set_option maxRecDepth 20000 in
theorem gX6_reduced_X6_needColumn : GoodIn wsX6_reduced (wsV RX6 101 RX6 yX6_needColumn wsX6_needColumn) := goodIn_app (goodIn_of _ (by decide +kernel)) ggX6_reduced_X6_needColumn
theorem dX6_reduced_0 : decode cX6_reduced 0 = .ok (.aload_n 0, 1) := by decide +kernel
theorem dX6_reduced_1 : decode cX6_reduced 1 = .ok (.invokevirtual 172, 3) := by decide +kernel
theorem dX6_reduced_4 : decode cX6_reduced 4 = .ok (.aload_n 0, 1) := by decide +kernel
theorem dX6_reduced_5 : decode cX6_reduced 5 = .ok (.iload_n 1, 1) := by decide +kernel
theorem dX6_reduced_6 : decode cX6_reduced 6 = .ok (.invokevirtual 101, 3) := by decide +kernel
theorem dX6_reduced_9 : decode cX6_reduced 9 = .ok (.aload_n 0, 1) := by decide +kernel
theorem dX6_reduced_10 : decode cX6_reduced 10 = .ok (.getfield 20, 3) := by decide +kernel
theorem dX6_reduced_13 : decode cX6_reduced 13 = .ok (.getfield 120, 3) := by decide +kernel
theorem dX6_reduced_16 : decode cX6_reduced 16 = .ok (.iload_n 1, 1) := by decide +kernel
theorem dX6_reduced_17 : decode cX6_reduced 17 = .ok (.iaload, 1) := by decide +kernel
theorem dX6_reduced_18 : decode cX6_reduced 18 = .ok (.istore_n 2, 1) := by decide +kernel
theorem dX6_reduced_19 : decode cX6_reduced 19 = .ok (.iconst 0, 1) := by decide +kernel
theorem dX6_reduced_20 : decode cX6_reduced 20 = .ok (.istore_n 3, 1) := by decide +kernel
theorem dX6_reduced_21 : decode cX6_reduced 21 = .ok (.iload_n 3, 1) := by decide +kernel
theorem dX6_reduced_22 : decode cX6_reduced 22 = .ok (.aload_n 0, 1) := by decide +kernel
theorem dX6_reduced_23 : decode cX6_reduced 23 = .ok (.getfield 20, 3) := by decide +kernel
theorem dX6_reduced_26 : decode cX6_reduced 26 = .ok (.getfield 85, 3) := by decide +kernel
theorem dX6_reduced_29 : decode cX6_reduced 29 = .ok (.if_icmp .ge 33, 3) := by decide +kernel
theorem dX6_reduced_32 : decode cX6_reduced 32 = .ok (.iload_n 2, 1) := by decide +kernel
theorem dX6_reduced_33 : decode cX6_reduced 33 = .ok (.aload_n 0, 1) := by decide +kernel
theorem dX6_reduced_34 : decode cX6_reduced 34 = .ok (.getfield 20, 3) := by decide +kernel
theorem dX6_reduced_37 : decode cX6_reduced 37 = .ok (.getfield 106, 3) := by decide +kernel
theorem dX6_reduced_40 : decode cX6_reduced 40 = .ok (.iload_n 3, 1) := by decide +kernel
theorem dX6_reduced_41 : decode cX6_reduced 41 = .ok (.aaload, 1) := by decide +kernel
theorem dX6_reduced_42 : decode cX6_reduced 42 = .ok (.iload_n 1, 1) := by decide +kernel
theorem dX6_reduced_43 : decode cX6_reduced 43 = .ok (.iaload, 1) := by decide +kernel
theorem dX6_reduced_44 : decode cX6_reduced 44 = .ok (.aload_n 0, 1) := by decide +kernel
theorem dX6_reduced_45 : decode cX6_reduced 45 = .ok (.getfield 31, 3) := by decide +kernel
theorem dX6_reduced_48 : decode cX6_reduced 48 = .ok (.getfield 175, 3) := by decide +kernel
theorem dX6_reduced_51 : decode cX6_reduced 51 = .ok (.iload_n 3, 1) := by decide +kernel
theorem dX6_reduced_52 : decode cX6_reduced 52 = .ok (.iaload, 1) := by decide +kernel
theorem dX6_reduced_53 : decode cX6_reduced 53 = .ok (.imul, 1) := by decide +kernel
theorem dX6_reduced_54 : decode cX6_reduced 54 = .ok (.isub, 1) := by decide +kernel
theorem dX6_reduced_55 : decode cX6_reduced 55 = .ok (.istore_n 2, 1) := by decide +kernel
theorem dX6_reduced_56 : decode cX6_reduced 56 = .ok (.iinc 3 1, 3) := by decide +kernel
theorem dX6_reduced_59 : decode cX6_reduced 59 = .ok (.goto (-38), 3) := by decide +kernel
theorem dX6_reduced_62 : decode cX6_reduced 62 = .ok (.iload_n 2, 1) := by decide +kernel
theorem dX6_reduced_63 : decode cX6_reduced 63 = .ok (.ireturn, 1) := by decide +kernel
set_option maxRecDepth 20000 in
theorem ggX6_proof_X6_needNoPoint : GoodIn wsX6_proof wsX6_needNoPoint := goodIn_ca (goodIn_r _ [7, 8, 9, 10, 11, 12, 13, 14, 15, 16, 17, 18] (by decide +kernel) (by decide +kernel)) (goodIn_sub (fun _ h => List.mem_cons_of_mem _ (List.mem_append_right _ h)) (by decide +kernel))
set_option maxRecDepth 20000 in
theorem gX6_proof_X6_needNoPoint : GoodIn wsX6_proof (wsV RX6 178 RX6 yX6_needNoPoint wsX6_needNoPoint) := goodIn_app (goodIn_of _ (by decide +kernel)) ggX6_proof_X6_needNoPoint
theorem dX6_proof_0 : decode cX6_proof 0 = .ok (.aload_n 0, 1) := by decide +kernel
theorem dX6_proof_1 : decode cX6_proof 1 = .ok (.invokevirtual 178, 3) := by decide +kernel
theorem dX6_proof_4 : decode cX6_proof 4 = .ok (.aload_n 0, 1) := by decide +kernel
theorem dX6_proof_5 : decode cX6_proof 5 = .ok (.getfield 38, 3) := by decide +kernel
theorem dX6_proof_8 : decode cX6_proof 8 = .ok (.getfield 181, 3) := by decide +kernel
theorem dX6_proof_11 : decode cX6_proof 11 = .ok (.ireturn, 1) := by decide +kernel
set_option maxRecDepth 20000 in
theorem ggX6_side_X6_needNoPoint : GoodIn wsX6_side wsX6_needNoPoint := goodIn_ca (goodIn_r _ [7, 8, 9, 10, 11, 12, 13, 14, 15, 16, 17, 18] (by decide +kernel) (by decide +kernel)) (goodIn_sub (fun _ h => List.mem_cons_of_mem _ (List.mem_append_right _ h)) (by decide +kernel))
set_option maxRecDepth 20000 in
theorem gX6_side_X6_needNoPoint : GoodIn wsX6_side (wsV RX6 178 RX6 yX6_needNoPoint wsX6_needNoPoint) := goodIn_app (goodIn_of _ (by decide +kernel)) ggX6_side_X6_needNoPoint
theorem dX6_side_0 : decode cX6_side 0 = .ok (.aload_n 0, 1) := by decide +kernel
theorem dX6_side_1 : decode cX6_side 1 = .ok (.invokevirtual 178, 3) := by decide +kernel
theorem dX6_side_4 : decode cX6_side 4 = .ok (.aload_n 0, 1) := by decide +kernel
theorem dX6_side_5 : decode cX6_side 5 = .ok (.getfield 38, 3) := by decide +kernel
theorem dX6_side_8 : decode cX6_side 8 = .ok (.getfield 184, 3) := by decide +kernel
theorem dX6_side_11 : decode cX6_side 11 = .ok (.ireturn, 1) := by decide +kernel
set_option maxRecDepth 20000 in
theorem ggX6_solveFlow_X1_lay : GoodIn wsX6_solveFlow wsX1_lay := goodIn_r _ [19, 20, 21, 22, 23, 24, 25, 26, 27, 28, 29, 30, 31, 32, 18, 33, 34, 35, 36, 37, 38, 39, 40, 41, 42, 43, 44, 45, 46, 47, 48, 49, 50, 51, 52, 53, 186, 187, 188, 189, 190, 191, 192, 193, 194, 195, 196, 197, 198, 199, 200, 201, 202, 203, 204, 205] (by decide +kernel) (by decide +kernel)
set_option maxRecDepth 20000 in
theorem gX6_solveFlow_X1_lay : GoodIn wsX6_solveFlow (wsV RX6 187 RX1 yX1_lay wsX1_lay) := goodIn_app (goodIn_of _ (by decide +kernel)) ggX6_solveFlow_X1_lay
set_option maxRecDepth 20000 in
theorem ggX6_solveFlow_X1_balance : GoodIn wsX6_solveFlow wsX1_balance := goodIn_r _ [57, 53, 58, 59, 60, 18, 61, 20, 62, 63, 64, 65, 66, 67, 68, 23, 42, 37, 35, 69, 70, 71, 72, 48, 47, 41, 73, 74, 75, 76, 77, 78, 79, 80, 81, 82, 83, 84, 85, 86, 87, 88, 89, 186, 187, 188, 189, 190, 191, 192, 193, 194, 195, 196, 197] (by decide +kernel) (by decide +kernel)
set_option maxRecDepth 20000 in
theorem gX6_solveFlow_X1_balance : GoodIn wsX6_solveFlow (wsV RX6 190 RX1 yX1_balance wsX1_balance) := goodIn_app (goodIn_of _ (by decide +kernel)) ggX6_solveFlow_X1_balance
set_option maxRecDepth 20000 in
theorem ggX6_solveFlow_X3_search : GoodIn wsX6_solveFlow wsX3_search := goodIn_r _ [94, 95, 96, 97, 98, 99, 100, 93, 101, 102, 103, 104, 105, 106, 107, 108, 109, 110, 111, 112, 113, 114, 115, 116, 117, 118, 119, 120, 121, 122, 206, 207, 198, 199, 200, 201, 202, 203, 204, 205] (by decide +kernel) (by decide +kernel)
set_option maxRecDepth 20000 in
theorem gX6_solveFlow_X3_search : GoodIn wsX6_solveFlow (wsV RX6 193 RX3 yX3_search wsX3_search) := goodIn_app (goodIn_of _ (by decide +kernel)) ggX6_solveFlow_X3_search
set_option maxRecDepth 20000 in
theorem ggX6_solveFlow_X2_choose : GoodIn wsX6_solveFlow wsX2_choose := goodIn_r _ [127, 128, 129, 130, 131, 132, 126, 133, 134, 135, 136, 137, 138, 139, 140, 141, 142, 143, 27, 28, 29, 144, 145, 146, 147, 148, 83, 84, 85, 149, 150, 151, 152, 153, 154, 155, 156, 157, 158, 159, 160, 161, 162, 163, 164, 165, 166, 167, 168, 169, 170, 171, 172, 208, 209, 210, 186, 187, 188, 189, 190, 191, 192, 193, 194, 195, 196, 197] (by decide +kernel) (by decide +kernel)
set_option maxRecDepth 20000 in
theorem gX6_solveFlow_X2_choose : GoodIn wsX6_solveFlow (wsV RX6 205 RX2 yX2_choose wsX2_choose) := goodIn_app (goodIn_of _ (by decide +kernel)) ggX6_solveFlow_X2_choose
theorem dX6_solveFlow_0 : decode cX6_solveFlow 0 = .ok (.aload_n 0, 1) := by decide +kernel
theorem dX6_solveFlow_1 : decode cX6_solveFlow 1 = .ok (.getfield 24, 3) := by decide +kernel
theorem dX6_solveFlow_4 : decode cX6_solveFlow 4 = .ok (.aload_n 0, 1) := by decide +kernel
theorem dX6_solveFlow_5 : decode cX6_solveFlow 5 = .ok (.getfield 20, 3) := by decide +kernel
theorem dX6_solveFlow_8 : decode cX6_solveFlow 8 = .ok (.aload_n 0, 1) := by decide +kernel
theorem dX6_solveFlow_9 : decode cX6_solveFlow 9 = .ok (.getfield 12, 3) := by decide +kernel
theorem dX6_solveFlow_12 : decode cX6_solveFlow 12 = .ok (.getfield 143, 3) := by decide +kernel
theorem dX6_solveFlow_15 : decode cX6_solveFlow 15 = .ok (.invokevirtual 187, 3) := by decide +kernel
theorem dX6_solveFlow_18 : decode cX6_solveFlow 18 = .ok (.aload_n 0, 1) := by decide +kernel
theorem dX6_solveFlow_19 : decode cX6_solveFlow 19 = .ok (.getfield 24, 3) := by decide +kernel
theorem dX6_solveFlow_22 : decode cX6_solveFlow 22 = .ok (.invokevirtual 190, 3) := by decide +kernel
theorem dX6_solveFlow_25 : decode cX6_solveFlow 25 = .ok (.ifCond .ne 23, 3) := by decide +kernel
theorem dX6_solveFlow_28 : decode cX6_solveFlow 28 = .ok (.aload_n 0, 1) := by decide +kernel
theorem dX6_solveFlow_29 : decode cX6_solveFlow 29 = .ok (.getfield 38, 3) := by decide +kernel
theorem dX6_solveFlow_32 : decode cX6_solveFlow 32 = .ok (.aload_n 0, 1) := by decide +kernel
theorem dX6_solveFlow_33 : decode cX6_solveFlow 33 = .ok (.getfield 20, 3) := by decide +kernel
theorem dX6_solveFlow_36 : decode cX6_solveFlow 36 = .ok (.aload_n 0, 1) := by decide +kernel
theorem dX6_solveFlow_37 : decode cX6_solveFlow 37 = .ok (.getfield 12, 3) := by decide +kernel
theorem dX6_solveFlow_40 : decode cX6_solveFlow 40 = .ok (.getfield 143, 3) := by decide +kernel
theorem dX6_solveFlow_43 : decode cX6_solveFlow 43 = .ok (.invokevirtual 193, 3) := by decide +kernel
theorem dX6_solveFlow_46 : decode cX6_solveFlow 46 = .ok (.iconst 3, 1) := by decide +kernel
theorem dX6_solveFlow_47 : decode cX6_solveFlow 47 = .ok (.ireturn, 1) := by decide +kernel
theorem dX6_solveFlow_48 : decode cX6_solveFlow 48 = .ok (.aload_n 0, 1) := by decide +kernel
theorem dX6_solveFlow_49 : decode cX6_solveFlow 49 = .ok (.getfield 24, 3) := by decide +kernel
theorem dX6_solveFlow_52 : decode cX6_solveFlow 52 = .ok (.getfield 196, 3) := by decide +kernel
theorem dX6_solveFlow_55 : decode cX6_solveFlow 55 = .ok (.iconst 0, 1) := by decide +kernel
theorem dX6_solveFlow_56 : decode cX6_solveFlow 56 = .ok (.aload_n 0, 1) := by decide +kernel
theorem dX6_solveFlow_57 : decode cX6_solveFlow 57 = .ok (.getfield 49, 3) := by decide +kernel
theorem dX6_solveFlow_60 : decode cX6_solveFlow 60 = .ok (.iconst 0, 1) := by decide +kernel
theorem dX6_solveFlow_61 : decode cX6_solveFlow 61 = .ok (.aload_n 0, 1) := by decide +kernel
theorem dX6_solveFlow_62 : decode cX6_solveFlow 62 = .ok (.getfield 20, 3) := by decide +kernel
theorem dX6_solveFlow_65 : decode cX6_solveFlow 65 = .ok (.getfield 57, 3) := by decide +kernel
theorem dX6_solveFlow_68 : decode cX6_solveFlow 68 = .ok (.invokestatic 199, 3) := by decide +kernel
theorem dX6_solveFlow_71 : decode cX6_solveFlow 71 = .ok (.aload_n 0, 1) := by decide +kernel
theorem dX6_solveFlow_72 : decode cX6_solveFlow 72 = .ok (.getfield 31, 3) := by decide +kernel
theorem dX6_solveFlow_75 : decode cX6_solveFlow 75 = .ok (.aload_n 0, 1) := by decide +kernel
theorem dX6_solveFlow_76 : decode cX6_solveFlow 76 = .ok (.getfield 24, 3) := by decide +kernel
theorem dX6_solveFlow_79 : decode cX6_solveFlow 79 = .ok (.aload_n 0, 1) := by decide +kernel
theorem dX6_solveFlow_80 : decode cX6_solveFlow 80 = .ok (.getfield 12, 3) := by decide +kernel
theorem dX6_solveFlow_83 : decode cX6_solveFlow 83 = .ok (.getfield 143, 3) := by decide +kernel
theorem dX6_solveFlow_86 : decode cX6_solveFlow 86 = .ok (.aload_n 0, 1) := by decide +kernel
theorem dX6_solveFlow_87 : decode cX6_solveFlow 87 = .ok (.getfield 20, 3) := by decide +kernel
theorem dX6_solveFlow_90 : decode cX6_solveFlow 90 = .ok (.getfield 85, 3) := by decide +kernel
theorem dX6_solveFlow_93 : decode cX6_solveFlow 93 = .ok (.invokevirtual 205, 3) := by decide +kernel
theorem dX6_solveFlow_96 : decode cX6_solveFlow 96 = .ok (.iconst 1, 1) := by decide +kernel
theorem dX6_solveFlow_97 : decode cX6_solveFlow 97 = .ok (.ireturn, 1) := by decide +kernel
theorem dX6_isWithin_0 : decode cX6_isWithin 0 = .ok (.iload_n 0, 1) := by decide +kernel
theorem dX6_isWithin_1 : decode cX6_isWithin 1 = .ok (.iload_n 1, 1) := by decide +kernel
theorem dX6_isWithin_2 : decode cX6_isWithin 2 = .ok (.ineg, 1) := by decide +kernel
theorem dX6_isWithin_3 : decode cX6_isWithin 3 = .ok (.if_icmp .lt 12, 3) := by decide +kernel
theorem dX6_isWithin_6 : decode cX6_isWithin 6 = .ok (.iload_n 0, 1) := by decide +kernel
theorem dX6_isWithin_7 : decode cX6_isWithin 7 = .ok (.iload_n 1, 1) := by decide +kernel
theorem dX6_isWithin_8 : decode cX6_isWithin 8 = .ok (.if_icmp .gt 7, 3) := by decide +kernel
theorem dX6_isWithin_11 : decode cX6_isWithin 11 = .ok (.iconst 1, 1) := by decide +kernel
theorem dX6_isWithin_12 : decode cX6_isWithin 12 = .ok (.goto 4, 3) := by decide +kernel
theorem dX6_isWithin_15 : decode cX6_isWithin 15 = .ok (.iconst 0, 1) := by decide +kernel
theorem dX6_isWithin_16 : decode cX6_isWithin 16 = .ok (.ireturn, 1) := by decide +kernel
set_option maxRecDepth 20000 in
theorem ggX6_areBounds_X6_isWithin : GoodIn wsX6_areBounds wsX6_isWithin := goodIn_r _ [4] (by decide +kernel) (by decide +kernel)
set_option maxRecDepth 20000 in
theorem gX6_areBounds_X6_isWithin : GoodIn wsX6_areBounds (va_wsS RX6 73 yX6_isWithin wsX6_isWithin) := goodIn_app (goodIn_of _ (by decide +kernel)) ggX6_areBounds_X6_isWithin
theorem dX6_areBounds_0 : decode cX6_areBounds 0 = .ok (.iload_n 0, 1) := by decide +kernel
theorem dX6_areBounds_1 : decode cX6_areBounds 1 = .ok (.sipush 1000, 3) := by decide +kernel
theorem dX6_areBounds_4 : decode cX6_areBounds 4 = .ok (.invokestatic 73, 3) := by decide +kernel
theorem dX6_areBounds_7 : decode cX6_areBounds 7 = .ok (.ifCond .eq 22, 3) := by decide +kernel
theorem dX6_areBounds_10 : decode cX6_areBounds 10 = .ok (.iload_n 1, 1) := by decide +kernel
theorem dX6_areBounds_11 : decode cX6_areBounds 11 = .ok (.sipush 1000, 3) := by decide +kernel
theorem dX6_areBounds_14 : decode cX6_areBounds 14 = .ok (.invokestatic 73, 3) := by decide +kernel
theorem dX6_areBounds_17 : decode cX6_areBounds 17 = .ok (.ifCond .eq 12, 3) := by decide +kernel
theorem dX6_areBounds_20 : decode cX6_areBounds 20 = .ok (.iload_n 0, 1) := by decide +kernel
theorem dX6_areBounds_21 : decode cX6_areBounds 21 = .ok (.iload_n 1, 1) := by decide +kernel
theorem dX6_areBounds_22 : decode cX6_areBounds 22 = .ok (.if_icmp .gt 7, 3) := by decide +kernel
theorem dX6_areBounds_25 : decode cX6_areBounds 25 = .ok (.iconst 1, 1) := by decide +kernel
theorem dX6_areBounds_26 : decode cX6_areBounds 26 = .ok (.goto 4, 3) := by decide +kernel
theorem dX6_areBounds_29 : decode cX6_areBounds 29 = .ok (.iconst 0, 1) := by decide +kernel
theorem dX6_areBounds_30 : decode cX6_areBounds 30 = .ok (.ireturn, 1) := by decide +kernel
theorem dX6_needColumn_0 : decode cX6_needColumn 0 = .ok (.iload_n 1, 1) := by decide +kernel
theorem dX6_needColumn_1 : decode cX6_needColumn 1 = .ok (.ifCond .lt 14, 3) := by decide +kernel
theorem dX6_needColumn_4 : decode cX6_needColumn 4 = .ok (.iload_n 1, 1) := by decide +kernel
theorem dX6_needColumn_5 : decode cX6_needColumn 5 = .ok (.aload_n 0, 1) := by decide +kernel
theorem dX6_needColumn_6 : decode cX6_needColumn 6 = .ok (.getfield 20, 3) := by decide +kernel
theorem dX6_needColumn_9 : decode cX6_needColumn 9 = .ok (.getfield 57, 3) := by decide +kernel
theorem dX6_needColumn_12 : decode cX6_needColumn 12 = .ok (.if_icmp .lt 13, 3) := by decide +kernel
theorem dX6_needColumn_15 : decode cX6_needColumn 15 = .ok (.new 209, 3) := by decide +kernel
theorem dX6_needColumn_18 : decode cX6_needColumn 18 = .ok (.dup, 1) := by decide +kernel
theorem dX6_needColumn_19 : decode cX6_needColumn 19 = .ok (.ldc 211, 2) := by decide +kernel
theorem dX6_needColumn_21 : decode cX6_needColumn 21 = .ok (.invokespecial 213, 3) := by decide +kernel
theorem dX6_needColumn_24 : decode cX6_needColumn 24 = .ok (.athrow, 1) := by decide +kernel
theorem dX6_needColumn_25 : decode cX6_needColumn 25 = .ok (.return_, 1) := by decide +kernel
theorem dX6_needRow_0 : decode cX6_needRow 0 = .ok (.iload_n 1, 1) := by decide +kernel
theorem dX6_needRow_1 : decode cX6_needRow 1 = .ok (.ifCond .lt 14, 3) := by decide +kernel
theorem dX6_needRow_4 : decode cX6_needRow 4 = .ok (.iload_n 1, 1) := by decide +kernel
theorem dX6_needRow_5 : decode cX6_needRow 5 = .ok (.aload_n 0, 1) := by decide +kernel
theorem dX6_needRow_6 : decode cX6_needRow 6 = .ok (.getfield 20, 3) := by decide +kernel
theorem dX6_needRow_9 : decode cX6_needRow 9 = .ok (.getfield 85, 3) := by decide +kernel
theorem dX6_needRow_12 : decode cX6_needRow 12 = .ok (.if_icmp .lt 13, 3) := by decide +kernel
theorem dX6_needRow_15 : decode cX6_needRow 15 = .ok (.new 209, 3) := by decide +kernel
theorem dX6_needRow_18 : decode cX6_needRow 18 = .ok (.dup, 1) := by decide +kernel
theorem dX6_needRow_19 : decode cX6_needRow 19 = .ok (.ldc 214, 2) := by decide +kernel
theorem dX6_needRow_21 : decode cX6_needRow 21 = .ok (.invokespecial 213, 3) := by decide +kernel
theorem dX6_needRow_24 : decode cX6_needRow 24 = .ok (.athrow, 1) := by decide +kernel
theorem dX6_needRow_25 : decode cX6_needRow 25 = .ok (.return_, 1) := by decide +kernel
theorem dX6_needBest_0 : decode cX6_needBest 0 = .ok (.aload_n 0, 1) := by decide +kernel
theorem dX6_needBest_1 : decode cX6_needBest 1 = .ok (.getfield 53, 3) := by decide +kernel
theorem dX6_needBest_4 : decode cX6_needBest 4 = .ok (.iconst 1, 1) := by decide +kernel
theorem dX6_needBest_5 : decode cX6_needBest 5 = .ok (.if_icmp .eq 21, 3) := by decide +kernel
theorem dX6_needBest_8 : decode cX6_needBest 8 = .ok (.aload_n 0, 1) := by decide +kernel
theorem dX6_needBest_9 : decode cX6_needBest 9 = .ok (.getfield 53, 3) := by decide +kernel
theorem dX6_needBest_12 : decode cX6_needBest 12 = .ok (.iconst 2, 1) := by decide +kernel
theorem dX6_needBest_13 : decode cX6_needBest 13 = .ok (.if_icmp .eq 13, 3) := by decide +kernel
theorem dX6_needBest_16 : decode cX6_needBest 16 = .ok (.new 62, 3) := by decide +kernel
theorem dX6_needBest_19 : decode cX6_needBest 19 = .ok (.dup, 1) := by decide +kernel
theorem dX6_needBest_20 : decode cX6_needBest 20 = .ok (.ldc 216, 2) := by decide +kernel
theorem dX6_needBest_22 : decode cX6_needBest 22 = .ok (.invokespecial 66, 3) := by decide +kernel
theorem dX6_needBest_25 : decode cX6_needBest 25 = .ok (.athrow, 1) := by decide +kernel
theorem dX6_needBest_26 : decode cX6_needBest 26 = .ok (.return_, 1) := by decide +kernel
theorem dX6_needPrices_0 : decode cX6_needPrices 0 = .ok (.aload_n 0, 1) := by decide +kernel
theorem dX6_needPrices_1 : decode cX6_needPrices 1 = .ok (.getfield 53, 3) := by decide +kernel
theorem dX6_needPrices_4 : decode cX6_needPrices 4 = .ok (.iconst 1, 1) := by decide +kernel
theorem dX6_needPrices_5 : decode cX6_needPrices 5 = .ok (.if_icmp .eq 13, 3) := by decide +kernel
theorem dX6_needPrices_8 : decode cX6_needPrices 8 = .ok (.new 62, 3) := by decide +kernel
theorem dX6_needPrices_11 : decode cX6_needPrices 11 = .ok (.dup, 1) := by decide +kernel
theorem dX6_needPrices_12 : decode cX6_needPrices 12 = .ok (.ldc 218, 2) := by decide +kernel
theorem dX6_needPrices_14 : decode cX6_needPrices 14 = .ok (.invokespecial 66, 3) := by decide +kernel
theorem dX6_needPrices_17 : decode cX6_needPrices 17 = .ok (.athrow, 1) := by decide +kernel
theorem dX6_needPrices_18 : decode cX6_needPrices 18 = .ok (.return_, 1) := by decide +kernel
theorem dX6_needNoPoint_0 : decode cX6_needNoPoint 0 = .ok (.aload_n 0, 1) := by decide +kernel
theorem dX6_needNoPoint_1 : decode cX6_needNoPoint 1 = .ok (.getfield 53, 3) := by decide +kernel
theorem dX6_needNoPoint_4 : decode cX6_needNoPoint 4 = .ok (.iconst 3, 1) := by decide +kernel
theorem dX6_needNoPoint_5 : decode cX6_needNoPoint 5 = .ok (.if_icmp .eq 13, 3) := by decide +kernel
theorem dX6_needNoPoint_8 : decode cX6_needNoPoint 8 = .ok (.new 62, 3) := by decide +kernel
theorem dX6_needNoPoint_11 : decode cX6_needNoPoint 11 = .ok (.dup, 1) := by decide +kernel
theorem dX6_needNoPoint_12 : decode cX6_needNoPoint 12 = .ok (.ldc 220, 2) := by decide +kernel
theorem dX6_needNoPoint_14 : decode cX6_needNoPoint 14 = .ok (.invokespecial 66, 3) := by decide +kernel
theorem dX6_needNoPoint_17 : decode cX6_needNoPoint 17 = .ok (.athrow, 1) := by decide +kernel
theorem dX6_needNoPoint_18 : decode cX6_needNoPoint 18 = .ok (.return_, 1) := by decide +kernel
theorem dX7_init_0 : decode cX7_init 0 = .ok (.aload_n 0, 1) := by decide +kernel
theorem dX7_init_1 : decode cX7_init 1 = .ok (.invokespecial 1, 3) := by decide +kernel
theorem dX7_init_4 : decode cX7_init 4 = .ok (.aload_n 0, 1) := by decide +kernel
theorem dX7_init_5 : decode cX7_init 5 = .ok (.bipush 10, 2) := by decide +kernel
theorem dX7_init_7 : decode cX7_init 7 = .ok (.newarray .int, 2) := by decide +kernel
theorem dX7_init_9 : decode cX7_init 9 = .ok (.putfield 7, 3) := by decide +kernel
theorem dX7_init_12 : decode cX7_init 12 = .ok (.aload_n 0, 1) := by decide +kernel
theorem dX7_init_13 : decode cX7_init 13 = .ok (.bipush 10, 2) := by decide +kernel
theorem dX7_init_15 : decode cX7_init 15 = .ok (.newarray .int, 2) := by decide +kernel
theorem dX7_init_17 : decode cX7_init 17 = .ok (.putfield 13, 3) := by decide +kernel
theorem dX7_init_20 : decode cX7_init 20 = .ok (.aload_n 0, 1) := by decide +kernel
theorem dX7_init_21 : decode cX7_init 21 = .ok (.bipush 10, 2) := by decide +kernel
theorem dX7_init_23 : decode cX7_init 23 = .ok (.newarray .int, 2) := by decide +kernel
theorem dX7_init_25 : decode cX7_init 25 = .ok (.putfield 16, 3) := by decide +kernel
theorem dX7_init_28 : decode cX7_init 28 = .ok (.aload_n 0, 1) := by decide +kernel
theorem dX7_init_29 : decode cX7_init 29 = .ok (.bipush 8, 2) := by decide +kernel
theorem dX7_init_31 : decode cX7_init 31 = .ok (.newarray .int, 2) := by decide +kernel
theorem dX7_init_33 : decode cX7_init 33 = .ok (.putfield 19, 3) := by decide +kernel
theorem dX7_init_36 : decode cX7_init 36 = .ok (.aload_n 0, 1) := by decide +kernel
theorem dX7_init_37 : decode cX7_init 37 = .ok (.bipush 8, 2) := by decide +kernel
theorem dX7_init_39 : decode cX7_init 39 = .ok (.newarray .int, 2) := by decide +kernel
theorem dX7_init_41 : decode cX7_init 41 = .ok (.putfield 22, 3) := by decide +kernel
theorem dX7_init_44 : decode cX7_init 44 = .ok (.aload_n 0, 1) := by decide +kernel
theorem dX7_init_45 : decode cX7_init 45 = .ok (.bipush 80, 2) := by decide +kernel
theorem dX7_init_47 : decode cX7_init 47 = .ok (.newarray .int, 2) := by decide +kernel
theorem dX7_init_49 : decode cX7_init 49 = .ok (.putfield 25, 3) := by decide +kernel
theorem dX7_init_52 : decode cX7_init 52 = .ok (.aload_n 0, 1) := by decide +kernel
theorem dX7_init_53 : decode cX7_init 53 = .ok (.iconst (-1), 1) := by decide +kernel
theorem dX7_init_54 : decode cX7_init 54 = .ok (.putfield 28, 3) := by decide +kernel
theorem dX7_init_57 : decode cX7_init 57 = .ok (.aload_n 0, 1) := by decide +kernel
theorem dX7_init_58 : decode cX7_init 58 = .ok (.bipush 10, 2) := by decide +kernel
theorem dX7_init_60 : decode cX7_init 60 = .ok (.newarray .int, 2) := by decide +kernel
theorem dX7_init_62 : decode cX7_init 62 = .ok (.putfield 32, 3) := by decide +kernel
theorem dX7_init_65 : decode cX7_init 65 = .ok (.aload_n 0, 1) := by decide +kernel
theorem dX7_init_66 : decode cX7_init 66 = .ok (.bipush 8, 2) := by decide +kernel
theorem dX7_init_68 : decode cX7_init 68 = .ok (.newarray .long, 2) := by decide +kernel
theorem dX7_init_70 : decode cX7_init 70 = .ok (.putfield 35, 3) := by decide +kernel
theorem dX7_init_73 : decode cX7_init 73 = .ok (.aload_n 0, 1) := by decide +kernel
theorem dX7_init_74 : decode cX7_init 74 = .ok (.bipush 8, 2) := by decide +kernel
theorem dX7_init_76 : decode cX7_init 76 = .ok (.newarray .int, 2) := by decide +kernel
theorem dX7_init_78 : decode cX7_init 78 = .ok (.putfield 39, 3) := by decide +kernel
theorem dX7_init_81 : decode cX7_init 81 = .ok (.aload_n 0, 1) := by decide +kernel
theorem dX7_init_82 : decode cX7_init 82 = .ok (.bipush 8, 2) := by decide +kernel
theorem dX7_init_84 : decode cX7_init 84 = .ok (.newarray .int, 2) := by decide +kernel
theorem dX7_init_86 : decode cX7_init 86 = .ok (.putfield 42, 3) := by decide +kernel
theorem dX7_init_89 : decode cX7_init 89 = .ok (.aload_n 0, 1) := by decide +kernel
theorem dX7_init_90 : decode cX7_init 90 = .ok (.bipush 10, 2) := by decide +kernel
theorem dX7_init_92 : decode cX7_init 92 = .ok (.newarray .int, 2) := by decide +kernel
theorem dX7_init_94 : decode cX7_init 94 = .ok (.putfield 45, 3) := by decide +kernel
theorem dX7_init_97 : decode cX7_init 97 = .ok (.aload_n 0, 1) := by decide +kernel
theorem dX7_init_98 : decode cX7_init 98 = .ok (.bipush 10, 2) := by decide +kernel
theorem dX7_init_100 : decode cX7_init 100 = .ok (.newarray .int, 2) := by decide +kernel
theorem dX7_init_102 : decode cX7_init 102 = .ok (.putfield 48, 3) := by decide +kernel
theorem dX7_init_105 : decode cX7_init 105 = .ok (.aload_n 0, 1) := by decide +kernel
theorem dX7_init_106 : decode cX7_init 106 = .ok (.bipush 8, 2) := by decide +kernel
theorem dX7_init_108 : decode cX7_init 108 = .ok (.newarray .int, 2) := by decide +kernel
theorem dX7_init_110 : decode cX7_init 110 = .ok (.putfield 51, 3) := by decide +kernel
theorem dX7_init_113 : decode cX7_init 113 = .ok (.aload_n 0, 1) := by decide +kernel
theorem dX7_init_114 : decode cX7_init 114 = .ok (.bipush 60, 2) := by decide +kernel
theorem dX7_init_116 : decode cX7_init 116 = .ok (.newarray .int, 2) := by decide +kernel
theorem dX7_init_118 : decode cX7_init 118 = .ok (.putfield 54, 3) := by decide +kernel
theorem dX7_init_121 : decode cX7_init 121 = .ok (.aload_n 0, 1) := by decide +kernel
theorem dX7_init_122 : decode cX7_init 122 = .ok (.bipush 60, 2) := by decide +kernel
theorem dX7_init_124 : decode cX7_init 124 = .ok (.newarray .int, 2) := by decide +kernel
theorem dX7_init_126 : decode cX7_init 126 = .ok (.putfield 57, 3) := by decide +kernel
theorem dX7_init_129 : decode cX7_init 129 = .ok (.aload_n 0, 1) := by decide +kernel
theorem dX7_init_130 : decode cX7_init 130 = .ok (.bipush 60, 2) := by decide +kernel
theorem dX7_init_132 : decode cX7_init 132 = .ok (.newarray .long, 2) := by decide +kernel
theorem dX7_init_134 : decode cX7_init 134 = .ok (.putfield 60, 3) := by decide +kernel
theorem dX7_init_137 : decode cX7_init 137 = .ok (.aload_n 0, 1) := by decide +kernel
theorem dX7_init_138 : decode cX7_init 138 = .ok (.bipush 60, 2) := by decide +kernel
theorem dX7_init_140 : decode cX7_init 140 = .ok (.newarray .int, 2) := by decide +kernel
theorem dX7_init_142 : decode cX7_init 142 = .ok (.putfield 63, 3) := by decide +kernel
theorem dX7_init_145 : decode cX7_init 145 = .ok (.aload_n 0, 1) := by decide +kernel
theorem dX7_init_146 : decode cX7_init 146 = .ok (.bipush 9, 2) := by decide +kernel
theorem dX7_init_148 : decode cX7_init 148 = .ok (.newarray .long, 2) := by decide +kernel
theorem dX7_init_150 : decode cX7_init 150 = .ok (.putfield 66, 3) := by decide +kernel
theorem dX7_init_153 : decode cX7_init 153 = .ok (.aload_n 0, 1) := by decide +kernel
theorem dX7_init_154 : decode cX7_init 154 = .ok (.bipush 9, 2) := by decide +kernel
theorem dX7_init_156 : decode cX7_init 156 = .ok (.newarray .int, 2) := by decide +kernel
theorem dX7_init_158 : decode cX7_init 158 = .ok (.putfield 69, 3) := by decide +kernel
theorem dX7_init_161 : decode cX7_init 161 = .ok (.aload_n 0, 1) := by decide +kernel
theorem dX7_init_162 : decode cX7_init 162 = .ok (.sipush 3311, 3) := by decide +kernel
theorem dX7_init_165 : decode cX7_init 165 = .ok (.newarray .long, 2) := by decide +kernel
theorem dX7_init_167 : decode cX7_init 167 = .ok (.putfield 72, 3) := by decide +kernel
theorem dX7_init_170 : decode cX7_init 170 = .ok (.return_, 1) := by decide +kernel
theorem dX7_thrown_0 : decode cX7_thrown 0 = .ok (.aload_n 0, 1) := by decide +kernel
theorem dX7_thrown_1 : decode cX7_thrown 1 = .ok (.getfield 75, 3) := by decide +kernel
theorem dX7_thrown_4 : decode cX7_thrown 4 = .ok (.ireturn, 1) := by decide +kernel
theorem dX7_within_0 : decode cX7_within 0 = .ok (.lload_n 0, 1) := by decide +kernel
theorem dX7_within_1 : decode cX7_within 1 = .ok (.lload_n 2, 1) := by decide +kernel
theorem dX7_within_2 : decode cX7_within 2 = .ok (.lcmp, 1) := by decide +kernel
theorem dX7_within_3 : decode cX7_within 3 = .ok (.ifCond .lt 14, 3) := by decide +kernel
theorem dX7_within_6 : decode cX7_within 6 = .ok (.lload_n 0, 1) := by decide +kernel
theorem dX7_within_7 : decode cX7_within 7 = .ok (.lload 4, 2) := by decide +kernel
theorem dX7_within_9 : decode cX7_within 9 = .ok (.lcmp, 1) := by decide +kernel
theorem dX7_within_10 : decode cX7_within 10 = .ok (.ifCond .gt 7, 3) := by decide +kernel
theorem dX7_within_13 : decode cX7_within 13 = .ok (.iconst 1, 1) := by decide +kernel
theorem dX7_within_14 : decode cX7_within 14 = .ok (.goto 4, 3) := by decide +kernel
theorem dX7_within_17 : decode cX7_within 17 = .ok (.iconst 0, 1) := by decide +kernel
theorem dX7_within_18 : decode cX7_within 18 = .ok (.ireturn, 1) := by decide +kernel
theorem dX7_passes_0 : decode cX7_passes 0 = .ok (.aload_n 0, 1) := by decide +kernel
theorem dX7_passes_1 : decode cX7_passes 1 = .ok (.iload_n 1, 1) := by decide +kernel
theorem dX7_passes_2 : decode cX7_passes 2 = .ok (.ifCond .eq 7, 3) := by decide +kernel
theorem dX7_passes_5 : decode cX7_passes 5 = .ok (.iconst 1, 1) := by decide +kernel
theorem dX7_passes_6 : decode cX7_passes 6 = .ok (.goto 12, 3) := by decide +kernel
theorem dX7_passes_9 : decode cX7_passes 9 = .ok (.iload_n 2, 1) := by decide +kernel
theorem dX7_passes_10 : decode cX7_passes 10 = .ok (.ifCond .eq 7, 3) := by decide +kernel
theorem dX7_passes_13 : decode cX7_passes 13 = .ok (.iconst 2, 1) := by decide +kernel
theorem dX7_passes_14 : decode cX7_passes 14 = .ok (.goto 4, 3) := by decide +kernel
theorem dX7_passes_17 : decode cX7_passes 17 = .ok (.iconst 0, 1) := by decide +kernel
theorem dX7_passes_18 : decode cX7_passes 18 = .ok (.putfield 75, 3) := by decide +kernel
theorem dX7_passes_21 : decode cX7_passes 21 = .ok (.aload_n 0, 1) := by decide +kernel
theorem dX7_passes_22 : decode cX7_passes 22 = .ok (.getfield 75, 3) := by decide +kernel
theorem dX7_passes_25 : decode cX7_passes 25 = .ok (.ifCond .ne 7, 3) := by decide +kernel
theorem dX7_passes_28 : decode cX7_passes 28 = .ok (.iconst 1, 1) := by decide +kernel
theorem dX7_passes_29 : decode cX7_passes 29 = .ok (.goto 4, 3) := by decide +kernel
theorem dX7_passes_32 : decode cX7_passes 32 = .ok (.iconst 0, 1) := by decide +kernel
theorem dX7_passes_33 : decode cX7_passes 33 = .ok (.ireturn, 1) := by decide +kernel
set_option maxRecDepth 20000 in
theorem ggX7_isColumn_X7_within : GoodIn wsX7_isColumn wsX7_within := goodIn_r _ [5] (by decide +kernel) (by decide +kernel)
set_option maxRecDepth 20000 in
theorem gX7_isColumn_X7_within : GoodIn wsX7_isColumn (va_wsS RX7 81 yX7_within wsX7_within) := goodIn_app (goodIn_of _ (by decide +kernel)) ggX7_isColumn_X7_within
theorem dX7_isColumn_0 : decode cX7_isColumn 0 = .ok (.iload_n 1, 1) := by decide +kernel
theorem dX7_isColumn_1 : decode cX7_isColumn 1 = .ok (.i2l, 1) := by decide +kernel
theorem dX7_isColumn_2 : decode cX7_isColumn 2 = .ok (.lconst 0, 1) := by decide +kernel
theorem dX7_isColumn_3 : decode cX7_isColumn 3 = .ok (.aload_n 0, 1) := by decide +kernel
theorem dX7_isColumn_4 : decode cX7_isColumn 4 = .ok (.getfield 78, 3) := by decide +kernel
theorem dX7_isColumn_7 : decode cX7_isColumn 7 = .ok (.iconst 1, 1) := by decide +kernel
theorem dX7_isColumn_8 : decode cX7_isColumn 8 = .ok (.isub, 1) := by decide +kernel
theorem dX7_isColumn_9 : decode cX7_isColumn 9 = .ok (.i2l, 1) := by decide +kernel
theorem dX7_isColumn_10 : decode cX7_isColumn 10 = .ok (.invokestatic 81, 3) := by decide +kernel
theorem dX7_isColumn_13 : decode cX7_isColumn 13 = .ok (.ireturn, 1) := by decide +kernel
set_option maxRecDepth 20000 in
theorem ggX7_isRow_X7_within : GoodIn wsX7_isRow wsX7_within := goodIn_r _ [5] (by decide +kernel) (by decide +kernel)
set_option maxRecDepth 20000 in
theorem gX7_isRow_X7_within : GoodIn wsX7_isRow (va_wsS RX7 81 yX7_within wsX7_within) := goodIn_app (goodIn_of _ (by decide +kernel)) ggX7_isRow_X7_within
theorem dX7_isRow_0 : decode cX7_isRow 0 = .ok (.iload_n 1, 1) := by decide +kernel
theorem dX7_isRow_1 : decode cX7_isRow 1 = .ok (.i2l, 1) := by decide +kernel
theorem dX7_isRow_2 : decode cX7_isRow 2 = .ok (.lconst 0, 1) := by decide +kernel
theorem dX7_isRow_3 : decode cX7_isRow 3 = .ok (.aload_n 0, 1) := by decide +kernel
theorem dX7_isRow_4 : decode cX7_isRow 4 = .ok (.getfield 85, 3) := by decide +kernel
theorem dX7_isRow_7 : decode cX7_isRow 7 = .ok (.iconst 1, 1) := by decide +kernel
theorem dX7_isRow_8 : decode cX7_isRow 8 = .ok (.isub, 1) := by decide +kernel
theorem dX7_isRow_9 : decode cX7_isRow 9 = .ok (.i2l, 1) := by decide +kernel
theorem dX7_isRow_10 : decode cX7_isRow 10 = .ok (.invokestatic 81, 3) := by decide +kernel
theorem dX7_isRow_13 : decode cX7_isRow 13 = .ok (.ireturn, 1) := by decide +kernel
set_option maxRecDepth 20000 in
theorem ggX7_areBounds_X7_within : GoodIn wsX7_areBounds wsX7_within := goodIn_r _ [6] (by decide +kernel) (by decide +kernel)
set_option maxRecDepth 20000 in
theorem gX7_areBounds_X7_within : GoodIn wsX7_areBounds (va_wsS RX7 81 yX7_within wsX7_within) := goodIn_app (goodIn_of _ (by decide +kernel)) ggX7_areBounds_X7_within
theorem dX7_areBounds_0 : decode cX7_areBounds 0 = .ok (.iload_n 0, 1) := by decide +kernel
theorem dX7_areBounds_1 : decode cX7_areBounds 1 = .ok (.i2l, 1) := by decide +kernel
theorem dX7_areBounds_2 : decode cX7_areBounds 2 = .ok (.ldc2_w 88, 3) := by decide +kernel
theorem dX7_areBounds_5 : decode cX7_areBounds 5 = .ok (.ldc2_w 90, 3) := by decide +kernel
theorem dX7_areBounds_8 : decode cX7_areBounds 8 = .ok (.invokestatic 81, 3) := by decide +kernel
theorem dX7_areBounds_11 : decode cX7_areBounds 11 = .ok (.ifCond .eq 20, 3) := by decide +kernel
theorem dX7_areBounds_14 : decode cX7_areBounds 14 = .ok (.iload_n 1, 1) := by decide +kernel
theorem dX7_areBounds_15 : decode cX7_areBounds 15 = .ok (.i2l, 1) := by decide +kernel
theorem dX7_areBounds_16 : decode cX7_areBounds 16 = .ok (.iload_n 0, 1) := by decide +kernel
theorem dX7_areBounds_17 : decode cX7_areBounds 17 = .ok (.i2l, 1) := by decide +kernel
theorem dX7_areBounds_18 : decode cX7_areBounds 18 = .ok (.ldc2_w 90, 3) := by decide +kernel
theorem dX7_areBounds_21 : decode cX7_areBounds 21 = .ok (.invokestatic 81, 3) := by decide +kernel
theorem dX7_areBounds_24 : decode cX7_areBounds 24 = .ok (.ifCond .eq 7, 3) := by decide +kernel
theorem dX7_areBounds_27 : decode cX7_areBounds 27 = .ok (.iconst 1, 1) := by decide +kernel
theorem dX7_areBounds_28 : decode cX7_areBounds 28 = .ok (.goto 4, 3) := by decide +kernel
theorem dX7_areBounds_31 : decode cX7_areBounds 31 = .ok (.iconst 0, 1) := by decide +kernel
theorem dX7_areBounds_32 : decode cX7_areBounds 32 = .ok (.ireturn, 1) := by decide +kernel
set_option maxRecDepth 20000 in
theorem ggX7_column_X7_areBounds : GoodIn wsX7_column wsX7_areBounds := goodIn_r _ [12, 2, 3, 13, 14, 11, 15] (by decide +kernel) (by decide +kernel)
set_option maxRecDepth 20000 in
theorem gX7_column_X7_areBounds : GoodIn wsX7_column (va_wsS RX7 92 yX7_areBounds wsX7_areBounds) := goodIn_app (goodIn_of _ (by decide +kernel)) ggX7_column_X7_areBounds
set_option maxRecDepth 20000 in
theorem ggX7_column_X7_within : GoodIn wsX7_column wsX7_within := goodIn_r _ [15] (by decide +kernel) (by decide +kernel)
set_option maxRecDepth 20000 in
theorem gX7_column_X7_within : GoodIn wsX7_column (va_wsS RX7 81 yX7_within wsX7_within) := goodIn_app (goodIn_of _ (by decide +kernel)) ggX7_column_X7_within
set_option maxRecDepth 20000 in
theorem ggX7_column_X7_passes : GoodIn wsX7_column wsX7_passes := goodIn_r _ [19, 20, 21, 22, 23, 24, 25, 26, 27, 28, 29, 30, 31, 32, 33, 34, 35, 36, 37, 38, 39, 40, 41, 42, 43, 44, 45, 46, 47, 48] (by decide +kernel) (by decide +kernel)
set_option maxRecDepth 20000 in
theorem gX7_column_X7_passes : GoodIn wsX7_column (wsV RX7 96 RX7 yX7_passes wsX7_passes) := goodIn_app (goodIn_of _ (by decide +kernel)) ggX7_column_X7_passes
theorem dX7_column_0 : decode cX7_column 0 = .ok (.aload_n 0, 1) := by decide +kernel
theorem dX7_column_1 : decode cX7_column 1 = .ok (.aload_n 0, 1) := by decide +kernel
theorem dX7_column_2 : decode cX7_column 2 = .ok (.getfield 78, 3) := by decide +kernel
theorem dX7_column_5 : decode cX7_column 5 = .ok (.bipush 10, 2) := by decide +kernel
theorem dX7_column_7 : decode cX7_column 7 = .ok (.if_icmp .ne 7, 3) := by decide +kernel
theorem dX7_column_10 : decode cX7_column 10 = .ok (.iconst 1, 1) := by decide +kernel
theorem dX7_column_11 : decode cX7_column 11 = .ok (.goto 4, 3) := by decide +kernel
theorem dX7_column_14 : decode cX7_column 14 = .ok (.iconst 0, 1) := by decide +kernel
theorem dX7_column_15 : decode cX7_column 15 = .ok (.iload_n 1, 1) := by decide +kernel
theorem dX7_column_16 : decode cX7_column 16 = .ok (.iload_n 2, 1) := by decide +kernel
theorem dX7_column_17 : decode cX7_column 17 = .ok (.invokestatic 92, 3) := by decide +kernel
theorem dX7_column_20 : decode cX7_column 20 = .ok (.ifCond .eq 17, 3) := by decide +kernel
theorem dX7_column_23 : decode cX7_column 23 = .ok (.iload_n 3, 1) := by decide +kernel
theorem dX7_column_24 : decode cX7_column 24 = .ok (.i2l, 1) := by decide +kernel
theorem dX7_column_25 : decode cX7_column 25 = .ok (.ldc2_w 88, 3) := by decide +kernel
theorem dX7_column_28 : decode cX7_column 28 = .ok (.ldc2_w 90, 3) := by decide +kernel
theorem dX7_column_31 : decode cX7_column 31 = .ok (.invokestatic 81, 3) := by decide +kernel
theorem dX7_column_34 : decode cX7_column 34 = .ok (.ifCond .ne 7, 3) := by decide +kernel
theorem dX7_column_37 : decode cX7_column 37 = .ok (.iconst 1, 1) := by decide +kernel
theorem dX7_column_38 : decode cX7_column 38 = .ok (.goto 4, 3) := by decide +kernel
theorem dX7_column_41 : decode cX7_column 41 = .ok (.iconst 0, 1) := by decide +kernel
theorem dX7_column_42 : decode cX7_column 42 = .ok (.invokevirtual 96, 3) := by decide +kernel
theorem dX7_column_45 : decode cX7_column 45 = .ok (.ifCond .ne 5, 3) := by decide +kernel
theorem dX7_column_48 : decode cX7_column 48 = .ok (.iconst 0, 1) := by decide +kernel
theorem dX7_column_49 : decode cX7_column 49 = .ok (.ireturn, 1) := by decide +kernel
theorem dX7_column_50 : decode cX7_column 50 = .ok (.aload_n 0, 1) := by decide +kernel
theorem dX7_column_51 : decode cX7_column 51 = .ok (.getfield 7, 3) := by decide +kernel
theorem dX7_column_54 : decode cX7_column 54 = .ok (.aload_n 0, 1) := by decide +kernel
theorem dX7_column_55 : decode cX7_column 55 = .ok (.getfield 78, 3) := by decide +kernel
theorem dX7_column_58 : decode cX7_column 58 = .ok (.iload_n 1, 1) := by decide +kernel
theorem dX7_column_59 : decode cX7_column 59 = .ok (.iastore, 1) := by decide +kernel
theorem dX7_column_60 : decode cX7_column 60 = .ok (.aload_n 0, 1) := by decide +kernel
theorem dX7_column_61 : decode cX7_column 61 = .ok (.getfield 13, 3) := by decide +kernel
theorem dX7_column_64 : decode cX7_column 64 = .ok (.aload_n 0, 1) := by decide +kernel
theorem dX7_column_65 : decode cX7_column 65 = .ok (.getfield 78, 3) := by decide +kernel
theorem dX7_column_68 : decode cX7_column 68 = .ok (.iload_n 2, 1) := by decide +kernel
theorem dX7_column_69 : decode cX7_column 69 = .ok (.iastore, 1) := by decide +kernel
theorem dX7_column_70 : decode cX7_column 70 = .ok (.aload_n 0, 1) := by decide +kernel
theorem dX7_column_71 : decode cX7_column 71 = .ok (.getfield 16, 3) := by decide +kernel
theorem dX7_column_74 : decode cX7_column 74 = .ok (.aload_n 0, 1) := by decide +kernel
theorem dX7_column_75 : decode cX7_column 75 = .ok (.getfield 78, 3) := by decide +kernel
theorem dX7_column_78 : decode cX7_column 78 = .ok (.iload_n 3, 1) := by decide +kernel
theorem dX7_column_79 : decode cX7_column 79 = .ok (.iastore, 1) := by decide +kernel
theorem dX7_column_80 : decode cX7_column 80 = .ok (.iconst 0, 1) := by decide +kernel
theorem dX7_column_81 : decode cX7_column 81 = .ok (.istore 4, 2) := by decide +kernel
theorem dX7_column_83 : decode cX7_column 83 = .ok (.iload 4, 2) := by decide +kernel
theorem dX7_column_85 : decode cX7_column 85 = .ok (.bipush 8, 2) := by decide +kernel
theorem dX7_column_87 : decode cX7_column 87 = .ok (.if_icmp .ge 25, 3) := by decide +kernel
theorem dX7_column_90 : decode cX7_column 90 = .ok (.aload_n 0, 1) := by decide +kernel
theorem dX7_column_91 : decode cX7_column 91 = .ok (.getfield 25, 3) := by decide +kernel
theorem dX7_column_94 : decode cX7_column 94 = .ok (.bipush 10, 2) := by decide +kernel
theorem dX7_column_96 : decode cX7_column 96 = .ok (.iload 4, 2) := by decide +kernel
theorem dX7_column_98 : decode cX7_column 98 = .ok (.imul, 1) := by decide +kernel
theorem dX7_column_99 : decode cX7_column 99 = .ok (.aload_n 0, 1) := by decide +kernel
theorem dX7_column_100 : decode cX7_column 100 = .ok (.getfield 78, 3) := by decide +kernel
theorem dX7_column_103 : decode cX7_column 103 = .ok (.iadd, 1) := by decide +kernel
theorem dX7_column_104 : decode cX7_column 104 = .ok (.iconst 0, 1) := by decide +kernel
theorem dX7_column_105 : decode cX7_column 105 = .ok (.iastore, 1) := by decide +kernel
theorem dX7_column_106 : decode cX7_column 106 = .ok (.iinc 4 1, 3) := by decide +kernel
theorem dX7_column_109 : decode cX7_column 109 = .ok (.goto (-26), 3) := by decide +kernel
theorem dX7_column_112 : decode cX7_column 112 = .ok (.aload_n 0, 1) := by decide +kernel
theorem dX7_column_113 : decode cX7_column 113 = .ok (.dup, 1) := by decide +kernel
theorem dX7_column_114 : decode cX7_column 114 = .ok (.getfield 78, 3) := by decide +kernel
theorem dX7_column_117 : decode cX7_column 117 = .ok (.iconst 1, 1) := by decide +kernel
theorem dX7_column_118 : decode cX7_column 118 = .ok (.iadd, 1) := by decide +kernel
theorem dX7_column_119 : decode cX7_column 119 = .ok (.putfield 78, 3) := by decide +kernel
theorem dX7_column_122 : decode cX7_column 122 = .ok (.aload_n 0, 1) := by decide +kernel
theorem dX7_column_123 : decode cX7_column 123 = .ok (.iconst (-1), 1) := by decide +kernel
theorem dX7_column_124 : decode cX7_column 124 = .ok (.putfield 28, 3) := by decide +kernel
theorem dX7_column_127 : decode cX7_column 127 = .ok (.aload_n 0, 1) := by decide +kernel
theorem dX7_column_128 : decode cX7_column 128 = .ok (.getfield 78, 3) := by decide +kernel
theorem dX7_column_131 : decode cX7_column 131 = .ok (.iconst 1, 1) := by decide +kernel
theorem dX7_column_132 : decode cX7_column 132 = .ok (.isub, 1) := by decide +kernel
theorem dX7_column_133 : decode cX7_column 133 = .ok (.ireturn, 1) := by decide +kernel
set_option maxRecDepth 20000 in
theorem ggX7_row_X7_within : GoodIn wsX7_row wsX7_within := goodIn_r _ [11] (by decide +kernel) (by decide +kernel)
set_option maxRecDepth 20000 in
theorem gX7_row_X7_within : GoodIn wsX7_row (va_wsS RX7 81 yX7_within wsX7_within) := goodIn_app (goodIn_of _ (by decide +kernel)) ggX7_row_X7_within
set_option maxRecDepth 20000 in
theorem ggX7_row_X7_passes : GoodIn wsX7_row wsX7_passes := goodIn_r _ [15, 16, 17, 18, 19, 20, 21, 22, 23, 24, 25, 26, 27, 28, 29, 30, 31, 32, 33, 34, 35, 36, 37, 38, 39, 40, 41, 42, 43, 44] (by decide +kernel) (by decide +kernel)
set_option maxRecDepth 20000 in
theorem gX7_row_X7_passes : GoodIn wsX7_row (wsV RX7 96 RX7 yX7_passes wsX7_passes) := goodIn_app (goodIn_of _ (by decide +kernel)) ggX7_row_X7_passes
theorem dX7_row_0 : decode cX7_row 0 = .ok (.aload_n 0, 1) := by decide +kernel
theorem dX7_row_1 : decode cX7_row 1 = .ok (.aload_n 0, 1) := by decide +kernel
theorem dX7_row_2 : decode cX7_row 2 = .ok (.getfield 85, 3) := by decide +kernel
theorem dX7_row_5 : decode cX7_row 5 = .ok (.bipush 8, 2) := by decide +kernel
theorem dX7_row_7 : decode cX7_row 7 = .ok (.if_icmp .ne 7, 3) := by decide +kernel
theorem dX7_row_10 : decode cX7_row 10 = .ok (.iconst 1, 1) := by decide +kernel
theorem dX7_row_11 : decode cX7_row 11 = .ok (.goto 4, 3) := by decide +kernel
theorem dX7_row_14 : decode cX7_row 14 = .ok (.iconst 0, 1) := by decide +kernel
theorem dX7_row_15 : decode cX7_row 15 = .ok (.iload_n 1, 1) := by decide +kernel
theorem dX7_row_16 : decode cX7_row 16 = .ok (.i2l, 1) := by decide +kernel
theorem dX7_row_17 : decode cX7_row 17 = .ok (.lconst 0, 1) := by decide +kernel
theorem dX7_row_18 : decode cX7_row 18 = .ok (.lconst 1, 1) := by decide +kernel
theorem dX7_row_19 : decode cX7_row 19 = .ok (.invokestatic 81, 3) := by decide +kernel
theorem dX7_row_22 : decode cX7_row 22 = .ok (.ifCond .eq 17, 3) := by decide +kernel
theorem dX7_row_25 : decode cX7_row 25 = .ok (.iload_n 2, 1) := by decide +kernel
theorem dX7_row_26 : decode cX7_row 26 = .ok (.i2l, 1) := by decide +kernel
theorem dX7_row_27 : decode cX7_row 27 = .ok (.ldc2_w 100, 3) := by decide +kernel
theorem dX7_row_30 : decode cX7_row 30 = .ok (.ldc2_w 102, 3) := by decide +kernel
theorem dX7_row_33 : decode cX7_row 33 = .ok (.invokestatic 81, 3) := by decide +kernel
theorem dX7_row_36 : decode cX7_row 36 = .ok (.ifCond .ne 7, 3) := by decide +kernel
theorem dX7_row_39 : decode cX7_row 39 = .ok (.iconst 1, 1) := by decide +kernel
theorem dX7_row_40 : decode cX7_row 40 = .ok (.goto 4, 3) := by decide +kernel
theorem dX7_row_43 : decode cX7_row 43 = .ok (.iconst 0, 1) := by decide +kernel
theorem dX7_row_44 : decode cX7_row 44 = .ok (.invokevirtual 96, 3) := by decide +kernel
theorem dX7_row_47 : decode cX7_row 47 = .ok (.ifCond .ne 5, 3) := by decide +kernel
theorem dX7_row_50 : decode cX7_row 50 = .ok (.iconst 0, 1) := by decide +kernel
theorem dX7_row_51 : decode cX7_row 51 = .ok (.ireturn, 1) := by decide +kernel
theorem dX7_row_52 : decode cX7_row 52 = .ok (.aload_n 0, 1) := by decide +kernel
theorem dX7_row_53 : decode cX7_row 53 = .ok (.getfield 19, 3) := by decide +kernel
theorem dX7_row_56 : decode cX7_row 56 = .ok (.aload_n 0, 1) := by decide +kernel
theorem dX7_row_57 : decode cX7_row 57 = .ok (.getfield 85, 3) := by decide +kernel
theorem dX7_row_60 : decode cX7_row 60 = .ok (.iload_n 1, 1) := by decide +kernel
theorem dX7_row_61 : decode cX7_row 61 = .ok (.iastore, 1) := by decide +kernel
theorem dX7_row_62 : decode cX7_row 62 = .ok (.aload_n 0, 1) := by decide +kernel
theorem dX7_row_63 : decode cX7_row 63 = .ok (.getfield 22, 3) := by decide +kernel
theorem dX7_row_66 : decode cX7_row 66 = .ok (.aload_n 0, 1) := by decide +kernel
theorem dX7_row_67 : decode cX7_row 67 = .ok (.getfield 85, 3) := by decide +kernel
theorem dX7_row_70 : decode cX7_row 70 = .ok (.iload_n 2, 1) := by decide +kernel
theorem dX7_row_71 : decode cX7_row 71 = .ok (.iastore, 1) := by decide +kernel
theorem dX7_row_72 : decode cX7_row 72 = .ok (.iconst 0, 1) := by decide +kernel
theorem dX7_row_73 : decode cX7_row 73 = .ok (.istore_n 3, 1) := by decide +kernel
theorem dX7_row_74 : decode cX7_row 74 = .ok (.iload_n 3, 1) := by decide +kernel
theorem dX7_row_75 : decode cX7_row 75 = .ok (.bipush 10, 2) := by decide +kernel
theorem dX7_row_77 : decode cX7_row 77 = .ok (.if_icmp .ge 24, 3) := by decide +kernel
theorem dX7_row_80 : decode cX7_row 80 = .ok (.aload_n 0, 1) := by decide +kernel
theorem dX7_row_81 : decode cX7_row 81 = .ok (.getfield 25, 3) := by decide +kernel
theorem dX7_row_84 : decode cX7_row 84 = .ok (.bipush 10, 2) := by decide +kernel
theorem dX7_row_86 : decode cX7_row 86 = .ok (.aload_n 0, 1) := by decide +kernel
theorem dX7_row_87 : decode cX7_row 87 = .ok (.getfield 85, 3) := by decide +kernel
theorem dX7_row_90 : decode cX7_row 90 = .ok (.imul, 1) := by decide +kernel
theorem dX7_row_91 : decode cX7_row 91 = .ok (.iload_n 3, 1) := by decide +kernel
theorem dX7_row_92 : decode cX7_row 92 = .ok (.iadd, 1) := by decide +kernel
theorem dX7_row_93 : decode cX7_row 93 = .ok (.iconst 0, 1) := by decide +kernel
theorem dX7_row_94 : decode cX7_row 94 = .ok (.iastore, 1) := by decide +kernel
theorem dX7_row_95 : decode cX7_row 95 = .ok (.iinc 3 1, 3) := by decide +kernel
theorem dX7_row_98 : decode cX7_row 98 = .ok (.goto (-24), 3) := by decide +kernel
theorem dX7_row_101 : decode cX7_row 101 = .ok (.aload_n 0, 1) := by decide +kernel
theorem dX7_row_102 : decode cX7_row 102 = .ok (.dup, 1) := by decide +kernel
theorem dX7_row_103 : decode cX7_row 103 = .ok (.getfield 85, 3) := by decide +kernel
theorem dX7_row_106 : decode cX7_row 106 = .ok (.iconst 1, 1) := by decide +kernel
theorem dX7_row_107 : decode cX7_row 107 = .ok (.iadd, 1) := by decide +kernel
theorem dX7_row_108 : decode cX7_row 108 = .ok (.putfield 85, 3) := by decide +kernel
theorem dX7_row_111 : decode cX7_row 111 = .ok (.aload_n 0, 1) := by decide +kernel
theorem dX7_row_112 : decode cX7_row 112 = .ok (.iconst (-1), 1) := by decide +kernel
theorem dX7_row_113 : decode cX7_row 113 = .ok (.putfield 28, 3) := by decide +kernel
theorem dX7_row_116 : decode cX7_row 116 = .ok (.aload_n 0, 1) := by decide +kernel
theorem dX7_row_117 : decode cX7_row 117 = .ok (.getfield 85, 3) := by decide +kernel
theorem dX7_row_120 : decode cX7_row 120 = .ok (.iconst 1, 1) := by decide +kernel
theorem dX7_row_121 : decode cX7_row 121 = .ok (.isub, 1) := by decide +kernel
theorem dX7_row_122 : decode cX7_row 122 = .ok (.ireturn, 1) := by decide +kernel
set_option maxRecDepth 20000 in
theorem ggX7_term_X7_isRow : GoodIn wsX7_term wsX7_isRow := goodIn_r _ [9, 10, 11, 12, 8, 13, 24, 25, 26, 27, 28, 29, 30, 31, 32, 33, 34, 35, 36, 37, 38, 39, 40, 41, 42, 43, 44, 45, 46, 47, 48, 49, 50, 51] (by decide +kernel) (by decide +kernel)
set_option maxRecDepth 20000 in
theorem gX7_term_X7_isRow : GoodIn wsX7_term (wsV RX7 104 RX7 yX7_isRow wsX7_isRow) := goodIn_app (goodIn_of _ (by decide +kernel)) ggX7_term_X7_isRow
set_option maxRecDepth 20000 in
theorem ggX7_term_X7_isColumn : GoodIn wsX7_term wsX7_isColumn := goodIn_r _ [17, 18, 11, 12, 8, 13, 24, 25, 26, 27, 28, 29, 30, 31, 32, 33, 34, 35, 36, 37, 38, 39, 40, 41, 42, 43, 44, 45, 46, 47, 48, 49, 50, 51] (by decide +kernel) (by decide +kernel)
set_option maxRecDepth 20000 in
theorem gX7_term_X7_isColumn : GoodIn wsX7_term (wsV RX7 108 RX7 yX7_isColumn wsX7_isColumn) := goodIn_app (goodIn_of _ (by decide +kernel)) ggX7_term_X7_isColumn
set_option maxRecDepth 20000 in
theorem ggX7_term_X7_within : GoodIn wsX7_term wsX7_within := goodIn_r _ [13] (by decide +kernel) (by decide +kernel)
set_option maxRecDepth 20000 in
theorem gX7_term_X7_within : GoodIn wsX7_term (va_wsS RX7 81 yX7_within wsX7_within) := goodIn_app (goodIn_of _ (by decide +kernel)) ggX7_term_X7_within
set_option maxRecDepth 20000 in
theorem ggX7_term_X7_passes : GoodIn wsX7_term wsX7_passes := goodIn_r _ [22, 23, 24, 25, 26, 27, 28, 29, 30, 31, 32, 33, 34, 35, 36, 37, 38, 39, 40, 41, 42, 43, 44, 45, 46, 47, 48, 49, 50, 51] (by decide +kernel) (by decide +kernel)
set_option maxRecDepth 20000 in
theorem gX7_term_X7_passes : GoodIn wsX7_term (wsV RX7 96 RX7 yX7_passes wsX7_passes) := goodIn_app (goodIn_of _ (by decide +kernel)) ggX7_term_X7_passes
theorem dX7_term_0 : decode cX7_term 0 = .ok (.aload_n 0, 1) := by decide +kernel
theorem dX7_term_1 : decode cX7_term 1 = .ok (.aload_n 0, 1) := by decide +kernel
theorem dX7_term_2 : decode cX7_term 2 = .ok (.iload_n 1, 1) := by decide +kernel
theorem dX7_term_3 : decode cX7_term 3 = .ok (.invokevirtual 104, 3) := by decide +kernel
theorem dX7_term_6 : decode cX7_term 6 = .ok (.ifCond .eq 11, 3) := by decide +kernel
theorem dX7_term_9 : decode cX7_term 9 = .ok (.aload_n 0, 1) := by decide +kernel
theorem dX7_term_10 : decode cX7_term 10 = .ok (.iload_n 2, 1) := by decide +kernel
theorem dX7_term_11 : decode cX7_term 11 = .ok (.invokevirtual 108, 3) := by decide +kernel
theorem dX7_term_14 : decode cX7_term 14 = .ok (.ifCond .ne 7, 3) := by decide +kernel
theorem dX7_term_17 : decode cX7_term 17 = .ok (.iconst 1, 1) := by decide +kernel
theorem dX7_term_18 : decode cX7_term 18 = .ok (.goto 4, 3) := by decide +kernel
theorem dX7_term_21 : decode cX7_term 21 = .ok (.iconst 0, 1) := by decide +kernel
theorem dX7_term_22 : decode cX7_term 22 = .ok (.iload_n 3, 1) := by decide +kernel
theorem dX7_term_23 : decode cX7_term 23 = .ok (.i2l, 1) := by decide +kernel
theorem dX7_term_24 : decode cX7_term 24 = .ok (.ldc2_w 111, 3) := by decide +kernel
theorem dX7_term_27 : decode cX7_term 27 = .ok (.ldc2_w 113, 3) := by decide +kernel
theorem dX7_term_30 : decode cX7_term 30 = .ok (.invokestatic 81, 3) := by decide +kernel
theorem dX7_term_33 : decode cX7_term 33 = .ok (.ifCond .ne 7, 3) := by decide +kernel
theorem dX7_term_36 : decode cX7_term 36 = .ok (.iconst 1, 1) := by decide +kernel
theorem dX7_term_37 : decode cX7_term 37 = .ok (.goto 4, 3) := by decide +kernel
theorem dX7_term_40 : decode cX7_term 40 = .ok (.iconst 0, 1) := by decide +kernel
theorem dX7_term_41 : decode cX7_term 41 = .ok (.invokevirtual 96, 3) := by decide +kernel
theorem dX7_term_44 : decode cX7_term 44 = .ok (.ifCond .eq 20, 3) := by decide +kernel
theorem dX7_term_47 : decode cX7_term 47 = .ok (.aload_n 0, 1) := by decide +kernel
theorem dX7_term_48 : decode cX7_term 48 = .ok (.getfield 25, 3) := by decide +kernel
theorem dX7_term_51 : decode cX7_term 51 = .ok (.bipush 10, 2) := by decide +kernel
theorem dX7_term_53 : decode cX7_term 53 = .ok (.iload_n 1, 1) := by decide +kernel
theorem dX7_term_54 : decode cX7_term 54 = .ok (.imul, 1) := by decide +kernel
theorem dX7_term_55 : decode cX7_term 55 = .ok (.iload_n 2, 1) := by decide +kernel
theorem dX7_term_56 : decode cX7_term 56 = .ok (.iadd, 1) := by decide +kernel
theorem dX7_term_57 : decode cX7_term 57 = .ok (.iload_n 3, 1) := by decide +kernel
theorem dX7_term_58 : decode cX7_term 58 = .ok (.iastore, 1) := by decide +kernel
theorem dX7_term_59 : decode cX7_term 59 = .ok (.aload_n 0, 1) := by decide +kernel
theorem dX7_term_60 : decode cX7_term 60 = .ok (.iconst (-1), 1) := by decide +kernel
theorem dX7_term_61 : decode cX7_term 61 = .ok (.putfield 28, 3) := by decide +kernel
theorem dX7_term_64 : decode cX7_term 64 = .ok (.return_, 1) := by decide +kernel
set_option maxRecDepth 20000 in
theorem ggX7_bounds_X7_isColumn : GoodIn wsX7_bounds wsX7_isColumn := goodIn_r _ [8, 9, 10, 11, 7, 12, 23, 24, 25, 26, 27, 28, 29, 30, 31, 32, 33, 34, 35, 36, 37, 38, 39, 40, 41, 42, 43, 44, 45, 46, 47, 48, 49, 50] (by decide +kernel) (by decide +kernel)
set_option maxRecDepth 20000 in
theorem gX7_bounds_X7_isColumn : GoodIn wsX7_bounds (wsV RX7 108 RX7 yX7_isColumn wsX7_isColumn) := goodIn_app (goodIn_of _ (by decide +kernel)) ggX7_bounds_X7_isColumn
set_option maxRecDepth 20000 in
theorem ggX7_bounds_X7_areBounds : GoodIn wsX7_bounds wsX7_areBounds := goodIn_r _ [15, 16, 17, 10, 11, 7, 12] (by decide +kernel) (by decide +kernel)
