set_option maxRecDepth 20000 in
theorem gX7_bounds_X7_areBounds : GoodIn wsX7_bounds (va_wsS RX7 92 yX7_areBounds wsX7_areBounds) := goodIn_app (goodIn_of _ (by decide +kernel)) ggX7_bounds_X7_areBounds
set_option maxRecDepth 20000 in
theorem ggX7_bounds_X7_passes : GoodIn wsX7_bounds wsX7_passes := goodIn_r _ [21, 22, 23, 24, 25, 26, 27, 28, 29, 30, 31, 32, 33, 34, 35, 36, 37, 38, 39, 40, 41, 42, 43, 44, 45, 46, 47, 48, 49, 50] (by decide +kernel) (by decide +kernel)
set_option maxRecDepth 20000 in
theorem gX7_bounds_X7_passes : GoodIn wsX7_bounds (wsV RX7 96 RX7 yX7_passes wsX7_passes) := goodIn_app (goodIn_of _ (by decide +kernel)) ggX7_bounds_X7_passes
theorem dX7_bounds_0 : decode cX7_bounds 0 = .ok (.aload_n 0, 1) := by decide +kernel
theorem dX7_bounds_1 : decode cX7_bounds 1 = .ok (.aload_n 0, 1) := by decide +kernel
theorem dX7_bounds_2 : decode cX7_bounds 2 = .ok (.iload_n 1, 1) := by decide +kernel
theorem dX7_bounds_3 : decode cX7_bounds 3 = .ok (.invokevirtual 108, 3) := by decide +kernel
theorem dX7_bounds_6 : decode cX7_bounds 6 = .ok (.ifCond .ne 7, 3) := by decide +kernel
theorem dX7_bounds_9 : decode cX7_bounds 9 = .ok (.iconst 1, 1) := by decide +kernel
theorem dX7_bounds_10 : decode cX7_bounds 10 = .ok (.goto 4, 3) := by decide +kernel
theorem dX7_bounds_13 : decode cX7_bounds 13 = .ok (.iconst 0, 1) := by decide +kernel
theorem dX7_bounds_14 : decode cX7_bounds 14 = .ok (.iload_n 2, 1) := by decide +kernel
theorem dX7_bounds_15 : decode cX7_bounds 15 = .ok (.iload_n 3, 1) := by decide +kernel
theorem dX7_bounds_16 : decode cX7_bounds 16 = .ok (.invokestatic 92, 3) := by decide +kernel
theorem dX7_bounds_19 : decode cX7_bounds 19 = .ok (.ifCond .ne 7, 3) := by decide +kernel
theorem dX7_bounds_22 : decode cX7_bounds 22 = .ok (.iconst 1, 1) := by decide +kernel
theorem dX7_bounds_23 : decode cX7_bounds 23 = .ok (.goto 4, 3) := by decide +kernel
theorem dX7_bounds_26 : decode cX7_bounds 26 = .ok (.iconst 0, 1) := by decide +kernel
theorem dX7_bounds_27 : decode cX7_bounds 27 = .ok (.invokevirtual 96, 3) := by decide +kernel
theorem dX7_bounds_30 : decode cX7_bounds 30 = .ok (.ifCond .eq 22, 3) := by decide +kernel
theorem dX7_bounds_33 : decode cX7_bounds 33 = .ok (.aload_n 0, 1) := by decide +kernel
theorem dX7_bounds_34 : decode cX7_bounds 34 = .ok (.getfield 7, 3) := by decide +kernel
theorem dX7_bounds_37 : decode cX7_bounds 37 = .ok (.iload_n 1, 1) := by decide +kernel
theorem dX7_bounds_38 : decode cX7_bounds 38 = .ok (.iload_n 2, 1) := by decide +kernel
theorem dX7_bounds_39 : decode cX7_bounds 39 = .ok (.iastore, 1) := by decide +kernel
theorem dX7_bounds_40 : decode cX7_bounds 40 = .ok (.aload_n 0, 1) := by decide +kernel
theorem dX7_bounds_41 : decode cX7_bounds 41 = .ok (.getfield 13, 3) := by decide +kernel
theorem dX7_bounds_44 : decode cX7_bounds 44 = .ok (.iload_n 1, 1) := by decide +kernel
theorem dX7_bounds_45 : decode cX7_bounds 45 = .ok (.iload_n 3, 1) := by decide +kernel
theorem dX7_bounds_46 : decode cX7_bounds 46 = .ok (.iastore, 1) := by decide +kernel
theorem dX7_bounds_47 : decode cX7_bounds 47 = .ok (.aload_n 0, 1) := by decide +kernel
theorem dX7_bounds_48 : decode cX7_bounds 48 = .ok (.iconst (-1), 1) := by decide +kernel
theorem dX7_bounds_49 : decode cX7_bounds 49 = .ok (.putfield 28, 3) := by decide +kernel
theorem dX7_bounds_52 : decode cX7_bounds 52 = .ok (.return_, 1) := by decide +kernel
set_option maxRecDepth 20000 in
theorem ggX7_cost_X7_isColumn : GoodIn wsX7_cost wsX7_isColumn := goodIn_r _ [9, 10, 11, 12, 8, 13, 19, 20, 21, 22, 23, 24, 25, 26, 27, 28, 29, 30, 31, 32, 33, 34, 35, 36, 37, 38, 39, 40, 41, 42, 43, 44, 45, 46] (by decide +kernel) (by decide +kernel)
set_option maxRecDepth 20000 in
theorem gX7_cost_X7_isColumn : GoodIn wsX7_cost (wsV RX7 108 RX7 yX7_isColumn wsX7_isColumn) := goodIn_app (goodIn_of _ (by decide +kernel)) ggX7_cost_X7_isColumn
set_option maxRecDepth 20000 in
theorem ggX7_cost_X7_within : GoodIn wsX7_cost wsX7_within := goodIn_r _ [13] (by decide +kernel) (by decide +kernel)
set_option maxRecDepth 20000 in
theorem gX7_cost_X7_within : GoodIn wsX7_cost (va_wsS RX7 81 yX7_within wsX7_within) := goodIn_app (goodIn_of _ (by decide +kernel)) ggX7_cost_X7_within
set_option maxRecDepth 20000 in
theorem ggX7_cost_X7_passes : GoodIn wsX7_cost wsX7_passes := goodIn_r _ [17, 18, 19, 20, 21, 22, 23, 24, 25, 26, 27, 28, 29, 30, 31, 32, 33, 34, 35, 36, 37, 38, 39, 40, 41, 42, 43, 44, 45, 46] (by decide +kernel) (by decide +kernel)
set_option maxRecDepth 20000 in
theorem gX7_cost_X7_passes : GoodIn wsX7_cost (wsV RX7 96 RX7 yX7_passes wsX7_passes) := goodIn_app (goodIn_of _ (by decide +kernel)) ggX7_cost_X7_passes
theorem dX7_cost_0 : decode cX7_cost 0 = .ok (.aload_n 0, 1) := by decide +kernel
theorem dX7_cost_1 : decode cX7_cost 1 = .ok (.aload_n 0, 1) := by decide +kernel
theorem dX7_cost_2 : decode cX7_cost 2 = .ok (.iload_n 1, 1) := by decide +kernel
theorem dX7_cost_3 : decode cX7_cost 3 = .ok (.invokevirtual 108, 3) := by decide +kernel
theorem dX7_cost_6 : decode cX7_cost 6 = .ok (.ifCond .ne 7, 3) := by decide +kernel
theorem dX7_cost_9 : decode cX7_cost 9 = .ok (.iconst 1, 1) := by decide +kernel
theorem dX7_cost_10 : decode cX7_cost 10 = .ok (.goto 4, 3) := by decide +kernel
theorem dX7_cost_13 : decode cX7_cost 13 = .ok (.iconst 0, 1) := by decide +kernel
theorem dX7_cost_14 : decode cX7_cost 14 = .ok (.iload_n 2, 1) := by decide +kernel
theorem dX7_cost_15 : decode cX7_cost 15 = .ok (.i2l, 1) := by decide +kernel
theorem dX7_cost_16 : decode cX7_cost 16 = .ok (.ldc2_w 88, 3) := by decide +kernel
theorem dX7_cost_19 : decode cX7_cost 19 = .ok (.ldc2_w 90, 3) := by decide +kernel
theorem dX7_cost_22 : decode cX7_cost 22 = .ok (.invokestatic 81, 3) := by decide +kernel
theorem dX7_cost_25 : decode cX7_cost 25 = .ok (.ifCond .ne 7, 3) := by decide +kernel
theorem dX7_cost_28 : decode cX7_cost 28 = .ok (.iconst 1, 1) := by decide +kernel
theorem dX7_cost_29 : decode cX7_cost 29 = .ok (.goto 4, 3) := by decide +kernel
theorem dX7_cost_32 : decode cX7_cost 32 = .ok (.iconst 0, 1) := by decide +kernel
theorem dX7_cost_33 : decode cX7_cost 33 = .ok (.invokevirtual 96, 3) := by decide +kernel
theorem dX7_cost_36 : decode cX7_cost 36 = .ok (.ifCond .ne 5, 3) := by decide +kernel
theorem dX7_cost_39 : decode cX7_cost 39 = .ok (.iconst 0, 1) := by decide +kernel
theorem dX7_cost_40 : decode cX7_cost 40 = .ok (.ireturn, 1) := by decide +kernel
theorem dX7_cost_41 : decode cX7_cost 41 = .ok (.aload_n 0, 1) := by decide +kernel
theorem dX7_cost_42 : decode cX7_cost 42 = .ok (.getfield 16, 3) := by decide +kernel
theorem dX7_cost_45 : decode cX7_cost 45 = .ok (.iload_n 1, 1) := by decide +kernel
theorem dX7_cost_46 : decode cX7_cost 46 = .ok (.iaload, 1) := by decide +kernel
theorem dX7_cost_47 : decode cX7_cost 47 = .ok (.istore_n 3, 1) := by decide +kernel
theorem dX7_cost_48 : decode cX7_cost 48 = .ok (.aload_n 0, 1) := by decide +kernel
theorem dX7_cost_49 : decode cX7_cost 49 = .ok (.getfield 16, 3) := by decide +kernel
theorem dX7_cost_52 : decode cX7_cost 52 = .ok (.iload_n 1, 1) := by decide +kernel
theorem dX7_cost_53 : decode cX7_cost 53 = .ok (.iload_n 2, 1) := by decide +kernel
theorem dX7_cost_54 : decode cX7_cost 54 = .ok (.iastore, 1) := by decide +kernel
theorem dX7_cost_55 : decode cX7_cost 55 = .ok (.aload_n 0, 1) := by decide +kernel
theorem dX7_cost_56 : decode cX7_cost 56 = .ok (.iconst (-1), 1) := by decide +kernel
theorem dX7_cost_57 : decode cX7_cost 57 = .ok (.putfield 28, 3) := by decide +kernel
theorem dX7_cost_60 : decode cX7_cost 60 = .ok (.iload_n 3, 1) := by decide +kernel
theorem dX7_cost_61 : decode cX7_cost 61 = .ok (.ireturn, 1) := by decide +kernel
set_option maxRecDepth 20000 in
theorem ggX7_right_X7_isRow : GoodIn wsX7_right wsX7_isRow := goodIn_r _ [9, 10, 11, 12, 8, 13, 19, 20, 21, 22, 23, 24, 25, 26, 27, 28, 29, 30, 31, 32, 33, 34, 35, 36, 37, 38, 39, 40, 41, 42, 43, 44, 45, 46] (by decide +kernel) (by decide +kernel)
set_option maxRecDepth 20000 in
theorem gX7_right_X7_isRow : GoodIn wsX7_right (wsV RX7 104 RX7 yX7_isRow wsX7_isRow) := goodIn_app (goodIn_of _ (by decide +kernel)) ggX7_right_X7_isRow
set_option maxRecDepth 20000 in
theorem ggX7_right_X7_within : GoodIn wsX7_right wsX7_within := goodIn_r _ [13] (by decide +kernel) (by decide +kernel)
set_option maxRecDepth 20000 in
theorem gX7_right_X7_within : GoodIn wsX7_right (va_wsS RX7 81 yX7_within wsX7_within) := goodIn_app (goodIn_of _ (by decide +kernel)) ggX7_right_X7_within
set_option maxRecDepth 20000 in
theorem ggX7_right_X7_passes : GoodIn wsX7_right wsX7_passes := goodIn_r _ [17, 18, 19, 20, 21, 22, 23, 24, 25, 26, 27, 28, 29, 30, 31, 32, 33, 34, 35, 36, 37, 38, 39, 40, 41, 42, 43, 44, 45, 46] (by decide +kernel) (by decide +kernel)
set_option maxRecDepth 20000 in
theorem gX7_right_X7_passes : GoodIn wsX7_right (wsV RX7 96 RX7 yX7_passes wsX7_passes) := goodIn_app (goodIn_of _ (by decide +kernel)) ggX7_right_X7_passes
theorem dX7_right_0 : decode cX7_right 0 = .ok (.aload_n 0, 1) := by decide +kernel
theorem dX7_right_1 : decode cX7_right 1 = .ok (.aload_n 0, 1) := by decide +kernel
theorem dX7_right_2 : decode cX7_right 2 = .ok (.iload_n 1, 1) := by decide +kernel
theorem dX7_right_3 : decode cX7_right 3 = .ok (.invokevirtual 104, 3) := by decide +kernel
theorem dX7_right_6 : decode cX7_right 6 = .ok (.ifCond .ne 7, 3) := by decide +kernel
theorem dX7_right_9 : decode cX7_right 9 = .ok (.iconst 1, 1) := by decide +kernel
theorem dX7_right_10 : decode cX7_right 10 = .ok (.goto 4, 3) := by decide +kernel
theorem dX7_right_13 : decode cX7_right 13 = .ok (.iconst 0, 1) := by decide +kernel
theorem dX7_right_14 : decode cX7_right 14 = .ok (.iload_n 2, 1) := by decide +kernel
theorem dX7_right_15 : decode cX7_right 15 = .ok (.i2l, 1) := by decide +kernel
theorem dX7_right_16 : decode cX7_right 16 = .ok (.ldc2_w 100, 3) := by decide +kernel
theorem dX7_right_19 : decode cX7_right 19 = .ok (.ldc2_w 102, 3) := by decide +kernel
theorem dX7_right_22 : decode cX7_right 22 = .ok (.invokestatic 81, 3) := by decide +kernel
theorem dX7_right_25 : decode cX7_right 25 = .ok (.ifCond .ne 7, 3) := by decide +kernel
theorem dX7_right_28 : decode cX7_right 28 = .ok (.iconst 1, 1) := by decide +kernel
theorem dX7_right_29 : decode cX7_right 29 = .ok (.goto 4, 3) := by decide +kernel
theorem dX7_right_32 : decode cX7_right 32 = .ok (.iconst 0, 1) := by decide +kernel
theorem dX7_right_33 : decode cX7_right 33 = .ok (.invokevirtual 96, 3) := by decide +kernel
theorem dX7_right_36 : decode cX7_right 36 = .ok (.ifCond .ne 5, 3) := by decide +kernel
theorem dX7_right_39 : decode cX7_right 39 = .ok (.iconst 0, 1) := by decide +kernel
theorem dX7_right_40 : decode cX7_right 40 = .ok (.ireturn, 1) := by decide +kernel
theorem dX7_right_41 : decode cX7_right 41 = .ok (.aload_n 0, 1) := by decide +kernel
theorem dX7_right_42 : decode cX7_right 42 = .ok (.getfield 22, 3) := by decide +kernel
theorem dX7_right_45 : decode cX7_right 45 = .ok (.iload_n 1, 1) := by decide +kernel
theorem dX7_right_46 : decode cX7_right 46 = .ok (.iaload, 1) := by decide +kernel
theorem dX7_right_47 : decode cX7_right 47 = .ok (.istore_n 3, 1) := by decide +kernel
theorem dX7_right_48 : decode cX7_right 48 = .ok (.aload_n 0, 1) := by decide +kernel
theorem dX7_right_49 : decode cX7_right 49 = .ok (.getfield 22, 3) := by decide +kernel
theorem dX7_right_52 : decode cX7_right 52 = .ok (.iload_n 1, 1) := by decide +kernel
theorem dX7_right_53 : decode cX7_right 53 = .ok (.iload_n 2, 1) := by decide +kernel
theorem dX7_right_54 : decode cX7_right 54 = .ok (.iastore, 1) := by decide +kernel
theorem dX7_right_55 : decode cX7_right 55 = .ok (.aload_n 0, 1) := by decide +kernel
theorem dX7_right_56 : decode cX7_right 56 = .ok (.iconst (-1), 1) := by decide +kernel
theorem dX7_right_57 : decode cX7_right 57 = .ok (.putfield 28, 3) := by decide +kernel
theorem dX7_right_60 : decode cX7_right 60 = .ok (.iload_n 3, 1) := by decide +kernel
theorem dX7_right_61 : decode cX7_right 61 = .ok (.ireturn, 1) := by decide +kernel
theorem dX7_clear_0 : decode cX7_clear 0 = .ok (.aload_n 0, 1) := by decide +kernel
theorem dX7_clear_1 : decode cX7_clear 1 = .ok (.iconst 0, 1) := by decide +kernel
theorem dX7_clear_2 : decode cX7_clear 2 = .ok (.putfield 75, 3) := by decide +kernel
theorem dX7_clear_5 : decode cX7_clear 5 = .ok (.aload_n 0, 1) := by decide +kernel
theorem dX7_clear_6 : decode cX7_clear 6 = .ok (.getfield 78, 3) := by decide +kernel
theorem dX7_clear_9 : decode cX7_clear 9 = .ok (.istore_n 1, 1) := by decide +kernel
theorem dX7_clear_10 : decode cX7_clear 10 = .ok (.aload_n 0, 1) := by decide +kernel
theorem dX7_clear_11 : decode cX7_clear 11 = .ok (.iconst 0, 1) := by decide +kernel
theorem dX7_clear_12 : decode cX7_clear 12 = .ok (.putfield 78, 3) := by decide +kernel
theorem dX7_clear_15 : decode cX7_clear 15 = .ok (.aload_n 0, 1) := by decide +kernel
theorem dX7_clear_16 : decode cX7_clear 16 = .ok (.iconst 0, 1) := by decide +kernel
theorem dX7_clear_17 : decode cX7_clear 17 = .ok (.putfield 85, 3) := by decide +kernel
theorem dX7_clear_20 : decode cX7_clear 20 = .ok (.aload_n 0, 1) := by decide +kernel
theorem dX7_clear_21 : decode cX7_clear 21 = .ok (.iconst (-1), 1) := by decide +kernel
theorem dX7_clear_22 : decode cX7_clear 22 = .ok (.putfield 28, 3) := by decide +kernel
theorem dX7_clear_25 : decode cX7_clear 25 = .ok (.iload_n 1, 1) := by decide +kernel
theorem dX7_clear_26 : decode cX7_clear 26 = .ok (.ireturn, 1) := by decide +kernel
theorem dX7_coef_0 : decode cX7_coef 0 = .ok (.aload_n 0, 1) := by decide +kernel
theorem dX7_coef_1 : decode cX7_coef 1 = .ok (.getfield 25, 3) := by decide +kernel
theorem dX7_coef_4 : decode cX7_coef 4 = .ok (.bipush 10, 2) := by decide +kernel
theorem dX7_coef_6 : decode cX7_coef 6 = .ok (.iload_n 1, 1) := by decide +kernel
theorem dX7_coef_7 : decode cX7_coef 7 = .ok (.imul, 1) := by decide +kernel
theorem dX7_coef_8 : decode cX7_coef 8 = .ok (.iload_n 2, 1) := by decide +kernel
theorem dX7_coef_9 : decode cX7_coef 9 = .ok (.iadd, 1) := by decide +kernel
theorem dX7_coef_10 : decode cX7_coef 10 = .ok (.iaload, 1) := by decide +kernel
theorem dX7_coef_11 : decode cX7_coef 11 = .ok (.ireturn, 1) := by decide +kernel
set_option maxRecDepth 20000 in
theorem ggX7_findParts_X7_joinRows : GoodIn wsX7_findParts wsX7_joinRows := goodIn_r _ [8, 1, 2, 9, 10, 11, 7, 12, 13, 14, 15, 16, 17, 18, 19, 20, 21, 22, 23, 24, 25, 26, 27, 28, 29, 30, 31, 32, 33, 34, 35, 36, 37, 38, 39, 40, 41] (by decide +kernel) (by decide +kernel)
set_option maxRecDepth 20000 in
theorem gX7_findParts_X7_joinRows : GoodIn wsX7_findParts (wsV RX7 115 RX7 yX7_joinRows wsX7_joinRows) := goodIn_app (goodIn_of _ (by decide +kernel)) ggX7_findParts_X7_joinRows
theorem dX7_findParts_0 : decode cX7_findParts 0 = .ok (.iconst 0, 1) := by decide +kernel
theorem dX7_findParts_1 : decode cX7_findParts 1 = .ok (.istore_n 1, 1) := by decide +kernel
theorem dX7_findParts_2 : decode cX7_findParts 2 = .ok (.iload_n 1, 1) := by decide +kernel
theorem dX7_findParts_3 : decode cX7_findParts 3 = .ok (.aload_n 0, 1) := by decide +kernel
theorem dX7_findParts_4 : decode cX7_findParts 4 = .ok (.getfield 85, 3) := by decide +kernel
theorem dX7_findParts_7 : decode cX7_findParts 7 = .ok (.if_icmp .ge 16, 3) := by decide +kernel
theorem dX7_findParts_10 : decode cX7_findParts 10 = .ok (.aload_n 0, 1) := by decide +kernel
theorem dX7_findParts_11 : decode cX7_findParts 11 = .ok (.getfield 39, 3) := by decide +kernel
theorem dX7_findParts_14 : decode cX7_findParts 14 = .ok (.iload_n 1, 1) := by decide +kernel
theorem dX7_findParts_15 : decode cX7_findParts 15 = .ok (.iload_n 1, 1) := by decide +kernel
theorem dX7_findParts_16 : decode cX7_findParts 16 = .ok (.iastore, 1) := by decide +kernel
theorem dX7_findParts_17 : decode cX7_findParts 17 = .ok (.iinc 1 1, 3) := by decide +kernel
theorem dX7_findParts_20 : decode cX7_findParts 20 = .ok (.goto (-18), 3) := by decide +kernel
theorem dX7_findParts_23 : decode cX7_findParts 23 = .ok (.iconst 0, 1) := by decide +kernel
theorem dX7_findParts_24 : decode cX7_findParts 24 = .ok (.istore_n 1, 1) := by decide +kernel
theorem dX7_findParts_25 : decode cX7_findParts 25 = .ok (.iload_n 1, 1) := by decide +kernel
theorem dX7_findParts_26 : decode cX7_findParts 26 = .ok (.aload_n 0, 1) := by decide +kernel
theorem dX7_findParts_27 : decode cX7_findParts 27 = .ok (.getfield 85, 3) := by decide +kernel
theorem dX7_findParts_30 : decode cX7_findParts 30 = .ok (.if_icmp .ge 30, 3) := by decide +kernel
theorem dX7_findParts_33 : decode cX7_findParts 33 = .ok (.iconst 0, 1) := by decide +kernel
theorem dX7_findParts_34 : decode cX7_findParts 34 = .ok (.istore_n 2, 1) := by decide +kernel
theorem dX7_findParts_35 : decode cX7_findParts 35 = .ok (.iload_n 2, 1) := by decide +kernel
theorem dX7_findParts_36 : decode cX7_findParts 36 = .ok (.aload_n 0, 1) := by decide +kernel
theorem dX7_findParts_37 : decode cX7_findParts 37 = .ok (.getfield 78, 3) := by decide +kernel
theorem dX7_findParts_40 : decode cX7_findParts 40 = .ok (.if_icmp .ge 14, 3) := by decide +kernel
theorem dX7_findParts_43 : decode cX7_findParts 43 = .ok (.aload_n 0, 1) := by decide +kernel
theorem dX7_findParts_44 : decode cX7_findParts 44 = .ok (.iload_n 2, 1) := by decide +kernel
theorem dX7_findParts_45 : decode cX7_findParts 45 = .ok (.invokevirtual 115, 3) := by decide +kernel
theorem dX7_findParts_48 : decode cX7_findParts 48 = .ok (.iinc 2 1, 3) := by decide +kernel
theorem dX7_findParts_51 : decode cX7_findParts 51 = .ok (.goto (-16), 3) := by decide +kernel
theorem dX7_findParts_54 : decode cX7_findParts 54 = .ok (.iinc 1 1, 3) := by decide +kernel
theorem dX7_findParts_57 : decode cX7_findParts 57 = .ok (.goto (-32), 3) := by decide +kernel
theorem dX7_findParts_60 : decode cX7_findParts 60 = .ok (.return_, 1) := by decide +kernel
set_option maxRecDepth 20000 in
theorem ggX7_joinRows_X7_coef : GoodIn wsX7_joinRows wsX7_coef := goodIn_r _ [7, 8, 9, 10, 11, 12, 13, 14, 15, 16, 17, 18, 19, 20, 21, 22, 23, 24, 25, 26, 27, 28, 29, 30, 31, 32, 33, 34, 35, 36] (by decide +kernel) (by decide +kernel)
set_option maxRecDepth 20000 in
theorem gX7_joinRows_X7_coef : GoodIn wsX7_joinRows (wsV RX7 119 RX7 yX7_coef wsX7_coef) := goodIn_app (goodIn_of _ (by decide +kernel)) ggX7_joinRows_X7_coef
theorem dX7_joinRows_0 : decode cX7_joinRows 0 = .ok (.bipush 8, 2) := by decide +kernel
theorem dX7_joinRows_2 : decode cX7_joinRows 2 = .ok (.istore_n 2, 1) := by decide +kernel
theorem dX7_joinRows_3 : decode cX7_joinRows 3 = .ok (.iconst 0, 1) := by decide +kernel
theorem dX7_joinRows_4 : decode cX7_joinRows 4 = .ok (.istore_n 3, 1) := by decide +kernel
theorem dX7_joinRows_5 : decode cX7_joinRows 5 = .ok (.iload_n 3, 1) := by decide +kernel
theorem dX7_joinRows_6 : decode cX7_joinRows 6 = .ok (.aload_n 0, 1) := by decide +kernel
theorem dX7_joinRows_7 : decode cX7_joinRows 7 = .ok (.getfield 85, 3) := by decide +kernel
theorem dX7_joinRows_10 : decode cX7_joinRows 10 = .ok (.if_icmp .ge 39, 3) := by decide +kernel
theorem dX7_joinRows_13 : decode cX7_joinRows 13 = .ok (.aload_n 0, 1) := by decide +kernel
theorem dX7_joinRows_14 : decode cX7_joinRows 14 = .ok (.iload_n 3, 1) := by decide +kernel
theorem dX7_joinRows_15 : decode cX7_joinRows 15 = .ok (.iload_n 1, 1) := by decide +kernel
theorem dX7_joinRows_16 : decode cX7_joinRows 16 = .ok (.invokevirtual 119, 3) := by decide +kernel
theorem dX7_joinRows_19 : decode cX7_joinRows 19 = .ok (.ifCond .eq 22, 3) := by decide +kernel
theorem dX7_joinRows_22 : decode cX7_joinRows 22 = .ok (.aload_n 0, 1) := by decide +kernel
theorem dX7_joinRows_23 : decode cX7_joinRows 23 = .ok (.getfield 39, 3) := by decide +kernel
theorem dX7_joinRows_26 : decode cX7_joinRows 26 = .ok (.iload_n 3, 1) := by decide +kernel
theorem dX7_joinRows_27 : decode cX7_joinRows 27 = .ok (.iaload, 1) := by decide +kernel
theorem dX7_joinRows_28 : decode cX7_joinRows 28 = .ok (.iload_n 2, 1) := by decide +kernel
theorem dX7_joinRows_29 : decode cX7_joinRows 29 = .ok (.if_icmp .ge 12, 3) := by decide +kernel
theorem dX7_joinRows_32 : decode cX7_joinRows 32 = .ok (.aload_n 0, 1) := by decide +kernel
theorem dX7_joinRows_33 : decode cX7_joinRows 33 = .ok (.getfield 39, 3) := by decide +kernel
theorem dX7_joinRows_36 : decode cX7_joinRows 36 = .ok (.iload_n 3, 1) := by decide +kernel
theorem dX7_joinRows_37 : decode cX7_joinRows 37 = .ok (.iaload, 1) := by decide +kernel
theorem dX7_joinRows_38 : decode cX7_joinRows 38 = .ok (.goto 4, 3) := by decide +kernel
theorem dX7_joinRows_41 : decode cX7_joinRows 41 = .ok (.iload_n 2, 1) := by decide +kernel
theorem dX7_joinRows_42 : decode cX7_joinRows 42 = .ok (.istore_n 2, 1) := by decide +kernel
theorem dX7_joinRows_43 : decode cX7_joinRows 43 = .ok (.iinc 3 1, 3) := by decide +kernel
theorem dX7_joinRows_46 : decode cX7_joinRows 46 = .ok (.goto (-41), 3) := by decide +kernel
theorem dX7_joinRows_49 : decode cX7_joinRows 49 = .ok (.iconst 0, 1) := by decide +kernel
theorem dX7_joinRows_50 : decode cX7_joinRows 50 = .ok (.istore_n 3, 1) := by decide +kernel
theorem dX7_joinRows_51 : decode cX7_joinRows 51 = .ok (.iload_n 3, 1) := by decide +kernel
theorem dX7_joinRows_52 : decode cX7_joinRows 52 = .ok (.aload_n 0, 1) := by decide +kernel
theorem dX7_joinRows_53 : decode cX7_joinRows 53 = .ok (.getfield 85, 3) := by decide +kernel
theorem dX7_joinRows_56 : decode cX7_joinRows 56 = .ok (.if_icmp .ge 34, 3) := by decide +kernel
theorem dX7_joinRows_59 : decode cX7_joinRows 59 = .ok (.aload_n 0, 1) := by decide +kernel
theorem dX7_joinRows_60 : decode cX7_joinRows 60 = .ok (.getfield 39, 3) := by decide +kernel
theorem dX7_joinRows_63 : decode cX7_joinRows 63 = .ok (.iload_n 3, 1) := by decide +kernel
theorem dX7_joinRows_64 : decode cX7_joinRows 64 = .ok (.aload_n 0, 1) := by decide +kernel
theorem dX7_joinRows_65 : decode cX7_joinRows 65 = .ok (.iload_n 3, 1) := by decide +kernel
theorem dX7_joinRows_66 : decode cX7_joinRows 66 = .ok (.iload_n 1, 1) := by decide +kernel
theorem dX7_joinRows_67 : decode cX7_joinRows 67 = .ok (.invokevirtual 119, 3) := by decide +kernel
theorem dX7_joinRows_70 : decode cX7_joinRows 70 = .ok (.ifCond .eq 7, 3) := by decide +kernel
theorem dX7_joinRows_73 : decode cX7_joinRows 73 = .ok (.iload_n 2, 1) := by decide +kernel
theorem dX7_joinRows_74 : decode cX7_joinRows 74 = .ok (.goto 9, 3) := by decide +kernel
theorem dX7_joinRows_77 : decode cX7_joinRows 77 = .ok (.aload_n 0, 1) := by decide +kernel
theorem dX7_joinRows_78 : decode cX7_joinRows 78 = .ok (.getfield 39, 3) := by decide +kernel
theorem dX7_joinRows_81 : decode cX7_joinRows 81 = .ok (.iload_n 3, 1) := by decide +kernel
theorem dX7_joinRows_82 : decode cX7_joinRows 82 = .ok (.iaload, 1) := by decide +kernel
theorem dX7_joinRows_83 : decode cX7_joinRows 83 = .ok (.iastore, 1) := by decide +kernel
theorem dX7_joinRows_84 : decode cX7_joinRows 84 = .ok (.iinc 3 1, 3) := by decide +kernel
theorem dX7_joinRows_87 : decode cX7_joinRows 87 = .ok (.goto (-36), 3) := by decide +kernel
theorem dX7_joinRows_90 : decode cX7_joinRows 90 = .ok (.return_, 1) := by decide +kernel
set_option maxRecDepth 20000 in
theorem ggX7_parts_X7_findParts : GoodIn wsX7_parts wsX7_findParts := goodIn_r _ [8, 2, 3, 9, 10, 11, 12, 7, 13, 14, 15, 16, 17, 18, 19, 20, 21, 22, 23, 24, 25, 26, 27, 28, 29, 30, 31, 32, 33, 34, 35, 36, 37, 38, 39, 40, 41, 42, 43, 44, 45, 46] (by decide +kernel) (by decide +kernel)
set_option maxRecDepth 20000 in
theorem gX7_parts_X7_findParts : GoodIn wsX7_parts (wsV RX7 123 RX7 yX7_findParts wsX7_findParts) := goodIn_app (goodIn_of _ (by decide +kernel)) ggX7_parts_X7_findParts
theorem dX7_parts_0 : decode cX7_parts 0 = .ok (.aload_n 0, 1) := by decide +kernel
theorem dX7_parts_1 : decode cX7_parts 1 = .ok (.iconst 0, 1) := by decide +kernel
theorem dX7_parts_2 : decode cX7_parts 2 = .ok (.putfield 75, 3) := by decide +kernel
theorem dX7_parts_5 : decode cX7_parts 5 = .ok (.aload_n 0, 1) := by decide +kernel
theorem dX7_parts_6 : decode cX7_parts 6 = .ok (.invokevirtual 123, 3) := by decide +kernel
theorem dX7_parts_9 : decode cX7_parts 9 = .ok (.iconst 0, 1) := by decide +kernel
theorem dX7_parts_10 : decode cX7_parts 10 = .ok (.istore_n 1, 1) := by decide +kernel
theorem dX7_parts_11 : decode cX7_parts 11 = .ok (.iconst 0, 1) := by decide +kernel
theorem dX7_parts_12 : decode cX7_parts 12 = .ok (.istore_n 2, 1) := by decide +kernel
theorem dX7_parts_13 : decode cX7_parts 13 = .ok (.iload_n 2, 1) := by decide +kernel
theorem dX7_parts_14 : decode cX7_parts 14 = .ok (.aload_n 0, 1) := by decide +kernel
theorem dX7_parts_15 : decode cX7_parts 15 = .ok (.getfield 85, 3) := by decide +kernel
theorem dX7_parts_18 : decode cX7_parts 18 = .ok (.if_icmp .ge 27, 3) := by decide +kernel
theorem dX7_parts_21 : decode cX7_parts 21 = .ok (.iload_n 1, 1) := by decide +kernel
theorem dX7_parts_22 : decode cX7_parts 22 = .ok (.aload_n 0, 1) := by decide +kernel
theorem dX7_parts_23 : decode cX7_parts 23 = .ok (.getfield 39, 3) := by decide +kernel
theorem dX7_parts_26 : decode cX7_parts 26 = .ok (.iload_n 2, 1) := by decide +kernel
theorem dX7_parts_27 : decode cX7_parts 27 = .ok (.iaload, 1) := by decide +kernel
theorem dX7_parts_28 : decode cX7_parts 28 = .ok (.iload_n 2, 1) := by decide +kernel
theorem dX7_parts_29 : decode cX7_parts 29 = .ok (.if_icmp .ne 7, 3) := by decide +kernel
theorem dX7_parts_32 : decode cX7_parts 32 = .ok (.iconst 1, 1) := by decide +kernel
theorem dX7_parts_33 : decode cX7_parts 33 = .ok (.goto 4, 3) := by decide +kernel
theorem dX7_parts_36 : decode cX7_parts 36 = .ok (.iconst 0, 1) := by decide +kernel
theorem dX7_parts_37 : decode cX7_parts 37 = .ok (.iadd, 1) := by decide +kernel
theorem dX7_parts_38 : decode cX7_parts 38 = .ok (.istore_n 1, 1) := by decide +kernel
theorem dX7_parts_39 : decode cX7_parts 39 = .ok (.iinc 2 1, 3) := by decide +kernel
theorem dX7_parts_42 : decode cX7_parts 42 = .ok (.goto (-29), 3) := by decide +kernel
theorem dX7_parts_45 : decode cX7_parts 45 = .ok (.iload_n 1, 1) := by decide +kernel
theorem dX7_parts_46 : decode cX7_parts 46 = .ok (.ireturn, 1) := by decide +kernel
set_option maxRecDepth 20000 in
theorem ggX7_part_X7_isRow : GoodIn wsX7_part wsX7_isRow := goodIn_r _ [6, 7, 8, 9, 5, 10, 30, 31, 32, 33, 34, 35, 36, 37, 38, 39, 40, 41, 42, 43, 44, 45, 46, 47, 48, 49, 50, 51, 52, 53, 54, 55, 56, 57] (by decide +kernel) (by decide +kernel)
set_option maxRecDepth 20000 in
theorem gX7_part_X7_isRow : GoodIn wsX7_part (wsV RX7 104 RX7 yX7_isRow wsX7_isRow) := goodIn_app (goodIn_of _ (by decide +kernel)) ggX7_part_X7_isRow
set_option maxRecDepth 20000 in
theorem ggX7_part_X7_passes : GoodIn wsX7_part wsX7_passes := goodIn_r _ [14, 15, 30, 31, 32, 33, 34, 35, 36, 37, 38, 39, 40, 41, 42, 43, 44, 45, 46, 47, 48, 49, 50, 51, 52, 53, 54, 55, 56, 57] (by decide +kernel) (by decide +kernel)
set_option maxRecDepth 20000 in
theorem gX7_part_X7_passes : GoodIn wsX7_part (wsV RX7 96 RX7 yX7_passes wsX7_passes) := goodIn_app (goodIn_of _ (by decide +kernel)) ggX7_part_X7_passes
set_option maxRecDepth 20000 in
theorem ggX7_part_X7_findParts : GoodIn wsX7_part wsX7_findParts := goodIn_r _ [19, 7, 1, 20, 21, 22, 23, 5, 24, 25, 26, 27, 28, 29, 30, 31, 32, 33, 34, 35, 36, 37, 38, 39, 40, 41, 42, 43, 44, 45, 46, 47, 48, 49, 50, 51, 52, 53, 54, 55, 56, 57] (by decide +kernel) (by decide +kernel)
set_option maxRecDepth 20000 in
theorem gX7_part_X7_findParts : GoodIn wsX7_part (wsV RX7 123 RX7 yX7_findParts wsX7_findParts) := goodIn_app (goodIn_of _ (by decide +kernel)) ggX7_part_X7_findParts
theorem dX7_part_0 : decode cX7_part 0 = .ok (.aload_n 0, 1) := by decide +kernel
theorem dX7_part_1 : decode cX7_part 1 = .ok (.aload_n 0, 1) := by decide +kernel
theorem dX7_part_2 : decode cX7_part 2 = .ok (.iload_n 1, 1) := by decide +kernel
theorem dX7_part_3 : decode cX7_part 3 = .ok (.invokevirtual 104, 3) := by decide +kernel
theorem dX7_part_6 : decode cX7_part 6 = .ok (.ifCond .ne 7, 3) := by decide +kernel
theorem dX7_part_9 : decode cX7_part 9 = .ok (.iconst 1, 1) := by decide +kernel
theorem dX7_part_10 : decode cX7_part 10 = .ok (.goto 4, 3) := by decide +kernel
theorem dX7_part_13 : decode cX7_part 13 = .ok (.iconst 0, 1) := by decide +kernel
theorem dX7_part_14 : decode cX7_part 14 = .ok (.iconst 0, 1) := by decide +kernel
theorem dX7_part_15 : decode cX7_part 15 = .ok (.invokevirtual 96, 3) := by decide +kernel
theorem dX7_part_18 : decode cX7_part 18 = .ok (.ifCond .ne 5, 3) := by decide +kernel
theorem dX7_part_21 : decode cX7_part 21 = .ok (.iconst 0, 1) := by decide +kernel
theorem dX7_part_22 : decode cX7_part 22 = .ok (.ireturn, 1) := by decide +kernel
theorem dX7_part_23 : decode cX7_part 23 = .ok (.aload_n 0, 1) := by decide +kernel
theorem dX7_part_24 : decode cX7_part 24 = .ok (.invokevirtual 123, 3) := by decide +kernel
theorem dX7_part_27 : decode cX7_part 27 = .ok (.aload_n 0, 1) := by decide +kernel
theorem dX7_part_28 : decode cX7_part 28 = .ok (.getfield 39, 3) := by decide +kernel
theorem dX7_part_31 : decode cX7_part 31 = .ok (.iload_n 1, 1) := by decide +kernel
theorem dX7_part_32 : decode cX7_part 32 = .ok (.iaload, 1) := by decide +kernel
theorem dX7_part_33 : decode cX7_part 33 = .ok (.ireturn, 1) := by decide +kernel
set_option maxRecDepth 20000 in
theorem ggX7_signsDo_X7_coef : GoodIn wsX7_signsDo wsX7_coef := goodIn_r _ [6, 7, 8, 9, 10, 11, 12, 13, 14, 15, 16, 17, 18, 19, 20, 21, 22, 23, 24, 25, 26, 27, 28, 29, 30, 31, 32, 33, 34, 35] (by decide +kernel) (by decide +kernel)
set_option maxRecDepth 20000 in
theorem gX7_signsDo_X7_coef : GoodIn wsX7_signsDo (wsV RX7 119 RX7 yX7_coef wsX7_coef) := goodIn_app (goodIn_of _ (by decide +kernel)) ggX7_signsDo_X7_coef
theorem dX7_signsDo_0 : decode cX7_signsDo 0 = .ok (.iconst 1, 1) := by decide +kernel
theorem dX7_signsDo_1 : decode cX7_signsDo 1 = .ok (.istore_n 3, 1) := by decide +kernel
theorem dX7_signsDo_2 : decode cX7_signsDo 2 = .ok (.iconst 0, 1) := by decide +kernel
theorem dX7_signsDo_3 : decode cX7_signsDo 3 = .ok (.istore 4, 2) := by decide +kernel
theorem dX7_signsDo_5 : decode cX7_signsDo 5 = .ok (.iload 4, 2) := by decide +kernel
theorem dX7_signsDo_7 : decode cX7_signsDo 7 = .ok (.iload_n 2, 1) := by decide +kernel
theorem dX7_signsDo_8 : decode cX7_signsDo 8 = .ok (.if_icmp .ge 104, 3) := by decide +kernel
theorem dX7_signsDo_11 : decode cX7_signsDo 11 = .ok (.iconst 0, 1) := by decide +kernel
theorem dX7_signsDo_12 : decode cX7_signsDo 12 = .ok (.istore 5, 2) := by decide +kernel
theorem dX7_signsDo_14 : decode cX7_signsDo 14 = .ok (.iconst 0, 1) := by decide +kernel
theorem dX7_signsDo_15 : decode cX7_signsDo 15 = .ok (.istore 6, 2) := by decide +kernel
theorem dX7_signsDo_17 : decode cX7_signsDo 17 = .ok (.iconst 0, 1) := by decide +kernel
theorem dX7_signsDo_18 : decode cX7_signsDo 18 = .ok (.istore 7, 2) := by decide +kernel
theorem dX7_signsDo_20 : decode cX7_signsDo 20 = .ok (.iload 7, 2) := by decide +kernel
theorem dX7_signsDo_22 : decode cX7_signsDo 22 = .ok (.aload_n 0, 1) := by decide +kernel
theorem dX7_signsDo_23 : decode cX7_signsDo 23 = .ok (.getfield 85, 3) := by decide +kernel
theorem dX7_signsDo_26 : decode cX7_signsDo 26 = .ok (.if_icmp .ge 59, 3) := by decide +kernel
theorem dX7_signsDo_29 : decode cX7_signsDo 29 = .ok (.iload 5, 2) := by decide +kernel
theorem dX7_signsDo_31 : decode cX7_signsDo 31 = .ok (.aload_n 0, 1) := by decide +kernel
theorem dX7_signsDo_32 : decode cX7_signsDo 32 = .ok (.iload 7, 2) := by decide +kernel
theorem dX7_signsDo_34 : decode cX7_signsDo 34 = .ok (.iload 4, 2) := by decide +kernel
theorem dX7_signsDo_36 : decode cX7_signsDo 36 = .ok (.invokevirtual 119, 3) := by decide +kernel
theorem dX7_signsDo_39 : decode cX7_signsDo 39 = .ok (.iload_n 1, 1) := by decide +kernel
theorem dX7_signsDo_40 : decode cX7_signsDo 40 = .ok (.iload 7, 2) := by decide +kernel
theorem dX7_signsDo_42 : decode cX7_signsDo 42 = .ok (.ishr, 1) := by decide +kernel
theorem dX7_signsDo_43 : decode cX7_signsDo 43 = .ok (.iconst 1, 1) := by decide +kernel
theorem dX7_signsDo_44 : decode cX7_signsDo 44 = .ok (.iand, 1) := by decide +kernel
theorem dX7_signsDo_45 : decode cX7_signsDo 45 = .ok (.iconst 1, 1) := by decide +kernel
theorem dX7_signsDo_46 : decode cX7_signsDo 46 = .ok (.if_icmp .ne 7, 3) := by decide +kernel
theorem dX7_signsDo_49 : decode cX7_signsDo 49 = .ok (.iconst (-1), 1) := by decide +kernel
theorem dX7_signsDo_50 : decode cX7_signsDo 50 = .ok (.goto 4, 3) := by decide +kernel
theorem dX7_signsDo_53 : decode cX7_signsDo 53 = .ok (.iconst 1, 1) := by decide +kernel
theorem dX7_signsDo_54 : decode cX7_signsDo 54 = .ok (.imul, 1) := by decide +kernel
theorem dX7_signsDo_55 : decode cX7_signsDo 55 = .ok (.iadd, 1) := by decide +kernel
theorem dX7_signsDo_56 : decode cX7_signsDo 56 = .ok (.istore 5, 2) := by decide +kernel
theorem dX7_signsDo_58 : decode cX7_signsDo 58 = .ok (.iload 6, 2) := by decide +kernel
theorem dX7_signsDo_60 : decode cX7_signsDo 60 = .ok (.aload_n 0, 1) := by decide +kernel
theorem dX7_signsDo_61 : decode cX7_signsDo 61 = .ok (.iload 7, 2) := by decide +kernel
theorem dX7_signsDo_63 : decode cX7_signsDo 63 = .ok (.iload 4, 2) := by decide +kernel
theorem dX7_signsDo_65 : decode cX7_signsDo 65 = .ok (.invokevirtual 119, 3) := by decide +kernel
theorem dX7_signsDo_68 : decode cX7_signsDo 68 = .ok (.ifCond .eq 7, 3) := by decide +kernel
theorem dX7_signsDo_71 : decode cX7_signsDo 71 = .ok (.iconst 1, 1) := by decide +kernel
theorem dX7_signsDo_72 : decode cX7_signsDo 72 = .ok (.goto 4, 3) := by decide +kernel
theorem dX7_signsDo_75 : decode cX7_signsDo 75 = .ok (.iconst 0, 1) := by decide +kernel
theorem dX7_signsDo_76 : decode cX7_signsDo 76 = .ok (.iadd, 1) := by decide +kernel
theorem dX7_signsDo_77 : decode cX7_signsDo 77 = .ok (.istore 6, 2) := by decide +kernel
theorem dX7_signsDo_79 : decode cX7_signsDo 79 = .ok (.iinc 7 1, 3) := by decide +kernel
theorem dX7_signsDo_82 : decode cX7_signsDo 82 = .ok (.goto (-62), 3) := by decide +kernel
theorem dX7_signsDo_85 : decode cX7_signsDo 85 = .ok (.iload_n 3, 1) := by decide +kernel
theorem dX7_signsDo_86 : decode cX7_signsDo 86 = .ok (.ifCond .eq 18, 3) := by decide +kernel
theorem dX7_signsDo_89 : decode cX7_signsDo 89 = .ok (.iload 6, 2) := by decide +kernel
theorem dX7_signsDo_91 : decode cX7_signsDo 91 = .ok (.iconst 2, 1) := by decide +kernel
theorem dX7_signsDo_92 : decode cX7_signsDo 92 = .ok (.if_icmp .lt 8, 3) := by decide +kernel
theorem dX7_signsDo_95 : decode cX7_signsDo 95 = .ok (.iload 5, 2) := by decide +kernel
theorem dX7_signsDo_97 : decode cX7_signsDo 97 = .ok (.ifCond .ne 7, 3) := by decide +kernel
theorem dX7_signsDo_100 : decode cX7_signsDo 100 = .ok (.iconst 1, 1) := by decide +kernel
theorem dX7_signsDo_101 : decode cX7_signsDo 101 = .ok (.goto 4, 3) := by decide +kernel
theorem dX7_signsDo_104 : decode cX7_signsDo 104 = .ok (.iconst 0, 1) := by decide +kernel
theorem dX7_signsDo_105 : decode cX7_signsDo 105 = .ok (.istore_n 3, 1) := by decide +kernel
theorem dX7_signsDo_106 : decode cX7_signsDo 106 = .ok (.iinc 4 1, 3) := by decide +kernel
theorem dX7_signsDo_109 : decode cX7_signsDo 109 = .ok (.goto (-104), 3) := by decide +kernel
theorem dX7_signsDo_112 : decode cX7_signsDo 112 = .ok (.iload_n 3, 1) := by decide +kernel
theorem dX7_signsDo_113 : decode cX7_signsDo 113 = .ok (.ireturn, 1) := by decide +kernel
set_option maxRecDepth 20000 in
theorem ggX7_anySigns_X7_signsDo : GoodIn wsX7_anySigns wsX7_signsDo := goodIn_r _ [6, 1, 7, 8, 9, 5, 10, 11, 12, 13, 14, 15, 16, 17, 18, 19, 20, 21, 22, 23, 24, 25, 26, 27, 28, 29, 30, 31, 32, 33, 34, 35, 36, 37, 38, 39] (by decide +kernel) (by decide +kernel)
set_option maxRecDepth 20000 in
theorem gX7_anySigns_X7_signsDo : GoodIn wsX7_anySigns (wsV RX7 126 RX7 yX7_signsDo wsX7_signsDo) := goodIn_app (goodIn_of _ (by decide +kernel)) ggX7_anySigns_X7_signsDo
theorem dX7_anySigns_0 : decode cX7_anySigns 0 = .ok (.iconst 0, 1) := by decide +kernel
theorem dX7_anySigns_1 : decode cX7_anySigns 1 = .ok (.istore_n 2, 1) := by decide +kernel
theorem dX7_anySigns_2 : decode cX7_anySigns 2 = .ok (.iconst 0, 1) := by decide +kernel
theorem dX7_anySigns_3 : decode cX7_anySigns 3 = .ok (.istore_n 3, 1) := by decide +kernel
theorem dX7_anySigns_4 : decode cX7_anySigns 4 = .ok (.iload_n 3, 1) := by decide +kernel
theorem dX7_anySigns_5 : decode cX7_anySigns 5 = .ok (.iconst 1, 1) := by decide +kernel
theorem dX7_anySigns_6 : decode cX7_anySigns 6 = .ok (.aload_n 0, 1) := by decide +kernel
theorem dX7_anySigns_7 : decode cX7_anySigns 7 = .ok (.getfield 85, 3) := by decide +kernel
theorem dX7_anySigns_10 : decode cX7_anySigns 10 = .ok (.ishl, 1) := by decide +kernel
theorem dX7_anySigns_11 : decode cX7_anySigns 11 = .ok (.if_icmp .ge 20, 3) := by decide +kernel
theorem dX7_anySigns_14 : decode cX7_anySigns 14 = .ok (.iload_n 2, 1) := by decide +kernel
theorem dX7_anySigns_15 : decode cX7_anySigns 15 = .ok (.ifCond .ne 16, 3) := by decide +kernel
theorem dX7_anySigns_18 : decode cX7_anySigns 18 = .ok (.aload_n 0, 1) := by decide +kernel
theorem dX7_anySigns_19 : decode cX7_anySigns 19 = .ok (.iload_n 3, 1) := by decide +kernel
theorem dX7_anySigns_20 : decode cX7_anySigns 20 = .ok (.iload_n 1, 1) := by decide +kernel
theorem dX7_anySigns_21 : decode cX7_anySigns 21 = .ok (.invokevirtual 126, 3) := by decide +kernel
theorem dX7_anySigns_24 : decode cX7_anySigns 24 = .ok (.istore_n 2, 1) := by decide +kernel
theorem dX7_anySigns_25 : decode cX7_anySigns 25 = .ok (.iinc 3 1, 3) := by decide +kernel
theorem dX7_anySigns_28 : decode cX7_anySigns 28 = .ok (.goto (-24), 3) := by decide +kernel
theorem dX7_anySigns_31 : decode cX7_anySigns 31 = .ok (.iload_n 2, 1) := by decide +kernel
theorem dX7_anySigns_32 : decode cX7_anySigns 32 = .ok (.ireturn, 1) := by decide +kernel
set_option maxRecDepth 20000 in
theorem ggX7_isPlain_X7_coef : GoodIn wsX7_isPlain wsX7_coef := goodIn_r _ [7, 8, 12, 13, 14, 15, 16, 17, 18, 19, 20, 21, 22, 23, 24, 25, 26, 27, 28, 29, 30, 31, 32, 33, 34, 35, 36, 37, 38, 39] (by decide +kernel) (by decide +kernel)
set_option maxRecDepth 20000 in
theorem gX7_isPlain_X7_coef : GoodIn wsX7_isPlain (wsV RX7 119 RX7 yX7_coef wsX7_coef) := goodIn_app (goodIn_of _ (by decide +kernel)) ggX7_isPlain_X7_coef
set_option maxRecDepth 20000 in
theorem ggX7_isPlain_X7_within : GoodIn wsX7_isPlain wsX7_within := goodIn_r _ [11] (by decide +kernel) (by decide +kernel)
set_option maxRecDepth 20000 in
theorem gX7_isPlain_X7_within : GoodIn wsX7_isPlain (va_wsS RX7 81 yX7_within wsX7_within) := goodIn_app (goodIn_of _ (by decide +kernel)) ggX7_isPlain_X7_within
theorem dX7_isPlain_0 : decode cX7_isPlain 0 = .ok (.iconst 0, 1) := by decide +kernel
theorem dX7_isPlain_1 : decode cX7_isPlain 1 = .ok (.istore_n 2, 1) := by decide +kernel
theorem dX7_isPlain_2 : decode cX7_isPlain 2 = .ok (.iconst 1, 1) := by decide +kernel
theorem dX7_isPlain_3 : decode cX7_isPlain 3 = .ok (.istore_n 3, 1) := by decide +kernel
theorem dX7_isPlain_4 : decode cX7_isPlain 4 = .ok (.iconst 0, 1) := by decide +kernel
theorem dX7_isPlain_5 : decode cX7_isPlain 5 = .ok (.istore 4, 2) := by decide +kernel
theorem dX7_isPlain_7 : decode cX7_isPlain 7 = .ok (.iload 4, 2) := by decide +kernel
theorem dX7_isPlain_9 : decode cX7_isPlain 9 = .ok (.aload_n 0, 1) := by decide +kernel
theorem dX7_isPlain_10 : decode cX7_isPlain 10 = .ok (.getfield 85, 3) := by decide +kernel
theorem dX7_isPlain_13 : decode cX7_isPlain 13 = .ok (.if_icmp .ge 54, 3) := by decide +kernel
theorem dX7_isPlain_16 : decode cX7_isPlain 16 = .ok (.aload_n 0, 1) := by decide +kernel
theorem dX7_isPlain_17 : decode cX7_isPlain 17 = .ok (.iload 4, 2) := by decide +kernel
theorem dX7_isPlain_19 : decode cX7_isPlain 19 = .ok (.iload_n 1, 1) := by decide +kernel
theorem dX7_isPlain_20 : decode cX7_isPlain 20 = .ok (.invokevirtual 119, 3) := by decide +kernel
theorem dX7_isPlain_23 : decode cX7_isPlain 23 = .ok (.istore 5, 2) := by decide +kernel
theorem dX7_isPlain_25 : decode cX7_isPlain 25 = .ok (.iload_n 2, 1) := by decide +kernel
theorem dX7_isPlain_26 : decode cX7_isPlain 26 = .ok (.iload 5, 2) := by decide +kernel
theorem dX7_isPlain_28 : decode cX7_isPlain 28 = .ok (.ifCond .eq 7, 3) := by decide +kernel
theorem dX7_isPlain_31 : decode cX7_isPlain 31 = .ok (.iconst 1, 1) := by decide +kernel
theorem dX7_isPlain_32 : decode cX7_isPlain 32 = .ok (.goto 4, 3) := by decide +kernel
theorem dX7_isPlain_35 : decode cX7_isPlain 35 = .ok (.iconst 0, 1) := by decide +kernel
theorem dX7_isPlain_36 : decode cX7_isPlain 36 = .ok (.iadd, 1) := by decide +kernel
theorem dX7_isPlain_37 : decode cX7_isPlain 37 = .ok (.istore_n 2, 1) := by decide +kernel
theorem dX7_isPlain_38 : decode cX7_isPlain 38 = .ok (.iload_n 3, 1) := by decide +kernel
theorem dX7_isPlain_39 : decode cX7_isPlain 39 = .ok (.ifCond .eq 20, 3) := by decide +kernel
theorem dX7_isPlain_42 : decode cX7_isPlain 42 = .ok (.iload 5, 2) := by decide +kernel
theorem dX7_isPlain_44 : decode cX7_isPlain 44 = .ok (.i2l, 1) := by decide +kernel
theorem dX7_isPlain_45 : decode cX7_isPlain 45 = .ok (.ldc2_w 129, 3) := by decide +kernel
theorem dX7_isPlain_48 : decode cX7_isPlain 48 = .ok (.lconst 1, 1) := by decide +kernel
theorem dX7_isPlain_49 : decode cX7_isPlain 49 = .ok (.invokestatic 81, 3) := by decide +kernel
theorem dX7_isPlain_52 : decode cX7_isPlain 52 = .ok (.ifCond .eq 7, 3) := by decide +kernel
theorem dX7_isPlain_55 : decode cX7_isPlain 55 = .ok (.iconst 1, 1) := by decide +kernel
theorem dX7_isPlain_56 : decode cX7_isPlain 56 = .ok (.goto 4, 3) := by decide +kernel
theorem dX7_isPlain_59 : decode cX7_isPlain 59 = .ok (.iconst 0, 1) := by decide +kernel
theorem dX7_isPlain_60 : decode cX7_isPlain 60 = .ok (.istore_n 3, 1) := by decide +kernel
theorem dX7_isPlain_61 : decode cX7_isPlain 61 = .ok (.iinc 4 1, 3) := by decide +kernel
theorem dX7_isPlain_64 : decode cX7_isPlain 64 = .ok (.goto (-57), 3) := by decide +kernel
theorem dX7_isPlain_67 : decode cX7_isPlain 67 = .ok (.iload_n 3, 1) := by decide +kernel
theorem dX7_isPlain_68 : decode cX7_isPlain 68 = .ok (.ifCond .eq 12, 3) := by decide +kernel
theorem dX7_isPlain_71 : decode cX7_isPlain 71 = .ok (.iload_n 2, 1) := by decide +kernel
theorem dX7_isPlain_72 : decode cX7_isPlain 72 = .ok (.iconst 2, 1) := by decide +kernel
theorem dX7_isPlain_73 : decode cX7_isPlain 73 = .ok (.if_icmp .gt 7, 3) := by decide +kernel
theorem dX7_isPlain_76 : decode cX7_isPlain 76 = .ok (.iconst 1, 1) := by decide +kernel
theorem dX7_isPlain_77 : decode cX7_isPlain 77 = .ok (.goto 4, 3) := by decide +kernel
theorem dX7_isPlain_80 : decode cX7_isPlain 80 = .ok (.iconst 0, 1) := by decide +kernel
theorem dX7_isPlain_81 : decode cX7_isPlain 81 = .ok (.ireturn, 1) := by decide +kernel
set_option maxRecDepth 20000 in
theorem ggX7_flowReason_X7_isPlain : GoodIn wsX7_flowReason wsX7_isPlain := goodIn_r _ [6, 7, 8, 9, 10, 11, 5, 12, 13, 14, 15, 16, 25, 26, 27, 28, 29, 30, 31, 32, 33, 34, 35, 36, 37, 38, 39, 40, 41, 42, 43, 44, 45, 46, 47, 48, 49, 50, 51, 52] (by decide +kernel) (by decide +kernel)
set_option maxRecDepth 20000 in
theorem gX7_flowReason_X7_isPlain : GoodIn wsX7_flowReason (wsV RX7 131 RX7 yX7_isPlain wsX7_isPlain) := goodIn_app (goodIn_of _ (by decide +kernel)) ggX7_flowReason_X7_isPlain
set_option maxRecDepth 20000 in
theorem ggX7_flowReason_X7_anySigns : GoodIn wsX7_flowReason wsX7_anySigns := goodIn_r _ [20, 7, 21, 22, 23, 5, 24, 9, 10, 11, 12, 13, 25, 26, 27, 28, 29, 30, 31, 32, 33, 34, 35, 36, 37, 38, 39, 40, 41, 42, 43, 44, 45, 46, 47, 48, 49, 50, 51, 52] (by decide +kernel) (by decide +kernel)
set_option maxRecDepth 20000 in
theorem gX7_flowReason_X7_anySigns : GoodIn wsX7_flowReason (wsV RX7 134 RX7 yX7_anySigns wsX7_anySigns) := goodIn_app (goodIn_of _ (by decide +kernel)) ggX7_flowReason_X7_anySigns
theorem dX7_flowReason_0 : decode cX7_flowReason 0 = .ok (.iconst 0, 1) := by decide +kernel
theorem dX7_flowReason_1 : decode cX7_flowReason 1 = .ok (.istore_n 1, 1) := by decide +kernel
theorem dX7_flowReason_2 : decode cX7_flowReason 2 = .ok (.iload_n 1, 1) := by decide +kernel
theorem dX7_flowReason_3 : decode cX7_flowReason 3 = .ok (.aload_n 0, 1) := by decide +kernel
theorem dX7_flowReason_4 : decode cX7_flowReason 4 = .ok (.getfield 78, 3) := by decide +kernel
theorem dX7_flowReason_7 : decode cX7_flowReason 7 = .ok (.if_icmp .ge 19, 3) := by decide +kernel
theorem dX7_flowReason_10 : decode cX7_flowReason 10 = .ok (.aload_n 0, 1) := by decide +kernel
theorem dX7_flowReason_11 : decode cX7_flowReason 11 = .ok (.iload_n 1, 1) := by decide +kernel
theorem dX7_flowReason_12 : decode cX7_flowReason 12 = .ok (.invokevirtual 131, 3) := by decide +kernel
theorem dX7_flowReason_15 : decode cX7_flowReason 15 = .ok (.ifCond .ne 5, 3) := by decide +kernel
theorem dX7_flowReason_18 : decode cX7_flowReason 18 = .ok (.iload_n 1, 1) := by decide +kernel
theorem dX7_flowReason_19 : decode cX7_flowReason 19 = .ok (.ireturn, 1) := by decide +kernel
theorem dX7_flowReason_20 : decode cX7_flowReason 20 = .ok (.iinc 1 1, 3) := by decide +kernel
theorem dX7_flowReason_23 : decode cX7_flowReason 23 = .ok (.goto (-21), 3) := by decide +kernel
theorem dX7_flowReason_26 : decode cX7_flowReason 26 = .ok (.aload_n 0, 1) := by decide +kernel
theorem dX7_flowReason_27 : decode cX7_flowReason 27 = .ok (.getfield 78, 3) := by decide +kernel
theorem dX7_flowReason_30 : decode cX7_flowReason 30 = .ok (.istore_n 1, 1) := by decide +kernel
theorem dX7_flowReason_31 : decode cX7_flowReason 31 = .ok (.iload_n 1, 1) := by decide +kernel
theorem dX7_flowReason_32 : decode cX7_flowReason 32 = .ok (.ifCond .le 17, 3) := by decide +kernel
theorem dX7_flowReason_35 : decode cX7_flowReason 35 = .ok (.aload_n 0, 1) := by decide +kernel
theorem dX7_flowReason_36 : decode cX7_flowReason 36 = .ok (.iload_n 1, 1) := by decide +kernel
theorem dX7_flowReason_37 : decode cX7_flowReason 37 = .ok (.invokevirtual 134, 3) := by decide +kernel
theorem dX7_flowReason_40 : decode cX7_flowReason 40 = .ok (.ifCond .ne 9, 3) := by decide +kernel
theorem dX7_flowReason_43 : decode cX7_flowReason 43 = .ok (.iinc 1 (-1), 3) := by decide +kernel
theorem dX7_flowReason_46 : decode cX7_flowReason 46 = .ok (.goto (-15), 3) := by decide +kernel
theorem dX7_flowReason_49 : decode cX7_flowReason 49 = .ok (.iload_n 1, 1) := by decide +kernel
theorem dX7_flowReason_50 : decode cX7_flowReason 50 = .ok (.aload_n 0, 1) := by decide +kernel
theorem dX7_flowReason_51 : decode cX7_flowReason 51 = .ok (.getfield 78, 3) := by decide +kernel
theorem dX7_flowReason_54 : decode cX7_flowReason 54 = .ok (.if_icmp .ne 7, 3) := by decide +kernel
theorem dX7_flowReason_57 : decode cX7_flowReason 57 = .ok (.iconst (-1), 1) := by decide +kernel
theorem dX7_flowReason_58 : decode cX7_flowReason 58 = .ok (.goto 4, 3) := by decide +kernel
theorem dX7_flowReason_61 : decode cX7_flowReason 61 = .ok (.iload_n 1, 1) := by decide +kernel
theorem dX7_flowReason_62 : decode cX7_flowReason 62 = .ok (.ireturn, 1) := by decide +kernel
set_option maxRecDepth 20000 in
theorem ggX7_findSigns_X7_findParts : GoodIn wsX7_findSigns wsX7_findParts := goodIn_r _ [9, 1, 3, 2, 10, 11, 12, 8, 13, 14, 15, 16, 17, 18, 23, 24, 25, 26, 27, 28, 29, 30, 31, 32, 33, 34, 35, 36, 37, 38, 39, 40, 41, 42, 43, 44, 45, 46, 47, 48, 49, 50] (by decide +kernel) (by decide +kernel)
set_option maxRecDepth 20000 in
theorem gX7_findSigns_X7_findParts : GoodIn wsX7_findSigns (wsV RX7 123 RX7 yX7_findParts wsX7_findParts) := goodIn_app (goodIn_of _ (by decide +kernel)) ggX7_findSigns_X7_findParts
set_option maxRecDepth 20000 in
theorem ggX7_findSigns_X7_signsDo : GoodIn wsX7_findSigns wsX7_signsDo := goodIn_r _ [22, 1, 14, 15, 16, 8, 17, 18, 23, 24, 25, 26, 27, 28, 29, 30, 31, 32, 33, 34, 35, 36, 37, 38, 39, 40, 41, 42, 43, 44, 45, 46, 47, 48, 49, 50] (by decide +kernel) (by decide +kernel)
set_option maxRecDepth 20000 in
theorem gX7_findSigns_X7_signsDo : GoodIn wsX7_findSigns (wsV RX7 126 RX7 yX7_signsDo wsX7_signsDo) := goodIn_app (goodIn_of _ (by decide +kernel)) ggX7_findSigns_X7_signsDo
theorem dX7_findSigns_0 : decode cX7_findSigns 0 = .ok (.aload_n 0, 1) := by decide +kernel
theorem dX7_findSigns_1 : decode cX7_findSigns 1 = .ok (.invokevirtual 123, 3) := by decide +kernel
theorem dX7_findSigns_4 : decode cX7_findSigns 4 = .ok (.iconst 1, 1) := by decide +kernel
theorem dX7_findSigns_5 : decode cX7_findSigns 5 = .ok (.aload_n 0, 1) := by decide +kernel
theorem dX7_findSigns_6 : decode cX7_findSigns 6 = .ok (.getfield 85, 3) := by decide +kernel
theorem dX7_findSigns_9 : decode cX7_findSigns 9 = .ok (.ishl, 1) := by decide +kernel
theorem dX7_findSigns_10 : decode cX7_findSigns 10 = .ok (.iconst 1, 1) := by decide +kernel
theorem dX7_findSigns_11 : decode cX7_findSigns 11 = .ok (.isub, 1) := by decide +kernel
theorem dX7_findSigns_12 : decode cX7_findSigns 12 = .ok (.istore_n 1, 1) := by decide +kernel
theorem dX7_findSigns_13 : decode cX7_findSigns 13 = .ok (.iload_n 1, 1) := by decide +kernel
theorem dX7_findSigns_14 : decode cX7_findSigns 14 = .ok (.ifCond .lt 103, 3) := by decide +kernel
theorem dX7_findSigns_17 : decode cX7_findSigns 17 = .ok (.aload_n 0, 1) := by decide +kernel
theorem dX7_findSigns_18 : decode cX7_findSigns 18 = .ok (.iload_n 1, 1) := by decide +kernel
theorem dX7_findSigns_19 : decode cX7_findSigns 19 = .ok (.aload_n 0, 1) := by decide +kernel
theorem dX7_findSigns_20 : decode cX7_findSigns 20 = .ok (.getfield 78, 3) := by decide +kernel
theorem dX7_findSigns_23 : decode cX7_findSigns 23 = .ok (.invokevirtual 126, 3) := by decide +kernel
theorem dX7_findSigns_26 : decode cX7_findSigns 26 = .ok (.istore_n 2, 1) := by decide +kernel
theorem dX7_findSigns_27 : decode cX7_findSigns 27 = .ok (.iconst 0, 1) := by decide +kernel
theorem dX7_findSigns_28 : decode cX7_findSigns 28 = .ok (.istore_n 3, 1) := by decide +kernel
theorem dX7_findSigns_29 : decode cX7_findSigns 29 = .ok (.iload_n 3, 1) := by decide +kernel
theorem dX7_findSigns_30 : decode cX7_findSigns 30 = .ok (.aload_n 0, 1) := by decide +kernel
theorem dX7_findSigns_31 : decode cX7_findSigns 31 = .ok (.getfield 85, 3) := by decide +kernel
theorem dX7_findSigns_34 : decode cX7_findSigns 34 = .ok (.if_icmp .ge 37, 3) := by decide +kernel
theorem dX7_findSigns_37 : decode cX7_findSigns 37 = .ok (.iload_n 2, 1) := by decide +kernel
theorem dX7_findSigns_38 : decode cX7_findSigns 38 = .ok (.ifCond .eq 25, 3) := by decide +kernel
theorem dX7_findSigns_41 : decode cX7_findSigns 41 = .ok (.aload_n 0, 1) := by decide +kernel
theorem dX7_findSigns_42 : decode cX7_findSigns 42 = .ok (.getfield 39, 3) := by decide +kernel
theorem dX7_findSigns_45 : decode cX7_findSigns 45 = .ok (.iload_n 3, 1) := by decide +kernel
theorem dX7_findSigns_46 : decode cX7_findSigns 46 = .ok (.iaload, 1) := by decide +kernel
theorem dX7_findSigns_47 : decode cX7_findSigns 47 = .ok (.iload_n 3, 1) := by decide +kernel
theorem dX7_findSigns_48 : decode cX7_findSigns 48 = .ok (.if_icmp .ne 11, 3) := by decide +kernel
theorem dX7_findSigns_51 : decode cX7_findSigns 51 = .ok (.iload_n 1, 1) := by decide +kernel
theorem dX7_findSigns_52 : decode cX7_findSigns 52 = .ok (.iload_n 3, 1) := by decide +kernel
theorem dX7_findSigns_53 : decode cX7_findSigns 53 = .ok (.ishr, 1) := by decide +kernel
theorem dX7_findSigns_54 : decode cX7_findSigns 54 = .ok (.iconst 1, 1) := by decide +kernel
theorem dX7_findSigns_55 : decode cX7_findSigns 55 = .ok (.iand, 1) := by decide +kernel
theorem dX7_findSigns_56 : decode cX7_findSigns 56 = .ok (.ifCond .ne 7, 3) := by decide +kernel
theorem dX7_findSigns_59 : decode cX7_findSigns 59 = .ok (.iconst 1, 1) := by decide +kernel
theorem dX7_findSigns_60 : decode cX7_findSigns 60 = .ok (.goto 4, 3) := by decide +kernel
theorem dX7_findSigns_63 : decode cX7_findSigns 63 = .ok (.iconst 0, 1) := by decide +kernel
theorem dX7_findSigns_64 : decode cX7_findSigns 64 = .ok (.istore_n 2, 1) := by decide +kernel
theorem dX7_findSigns_65 : decode cX7_findSigns 65 = .ok (.iinc 3 1, 3) := by decide +kernel
theorem dX7_findSigns_68 : decode cX7_findSigns 68 = .ok (.goto (-39), 3) := by decide +kernel
theorem dX7_findSigns_71 : decode cX7_findSigns 71 = .ok (.iconst 0, 1) := by decide +kernel
theorem dX7_findSigns_72 : decode cX7_findSigns 72 = .ok (.istore_n 3, 1) := by decide +kernel
theorem dX7_findSigns_73 : decode cX7_findSigns 73 = .ok (.iload_n 3, 1) := by decide +kernel
theorem dX7_findSigns_74 : decode cX7_findSigns 74 = .ok (.aload_n 0, 1) := by decide +kernel
theorem dX7_findSigns_75 : decode cX7_findSigns 75 = .ok (.getfield 85, 3) := by decide +kernel
theorem dX7_findSigns_78 : decode cX7_findSigns 78 = .ok (.if_icmp .ge 33, 3) := by decide +kernel
theorem dX7_findSigns_81 : decode cX7_findSigns 81 = .ok (.iload_n 2, 1) := by decide +kernel
theorem dX7_findSigns_82 : decode cX7_findSigns 82 = .ok (.ifCond .eq 29, 3) := by decide +kernel
theorem dX7_findSigns_85 : decode cX7_findSigns 85 = .ok (.aload_n 0, 1) := by decide +kernel
theorem dX7_findSigns_86 : decode cX7_findSigns 86 = .ok (.getfield 42, 3) := by decide +kernel
theorem dX7_findSigns_89 : decode cX7_findSigns 89 = .ok (.iload_n 3, 1) := by decide +kernel
theorem dX7_findSigns_90 : decode cX7_findSigns 90 = .ok (.iload_n 1, 1) := by decide +kernel
theorem dX7_findSigns_91 : decode cX7_findSigns 91 = .ok (.iload_n 3, 1) := by decide +kernel
theorem dX7_findSigns_92 : decode cX7_findSigns 92 = .ok (.ishr, 1) := by decide +kernel
theorem dX7_findSigns_93 : decode cX7_findSigns 93 = .ok (.iconst 1, 1) := by decide +kernel
theorem dX7_findSigns_94 : decode cX7_findSigns 94 = .ok (.iand, 1) := by decide +kernel
theorem dX7_findSigns_95 : decode cX7_findSigns 95 = .ok (.iconst 1, 1) := by decide +kernel
theorem dX7_findSigns_96 : decode cX7_findSigns 96 = .ok (.if_icmp .ne 7, 3) := by decide +kernel
theorem dX7_findSigns_99 : decode cX7_findSigns 99 = .ok (.iconst (-1), 1) := by decide +kernel
theorem dX7_findSigns_100 : decode cX7_findSigns 100 = .ok (.goto 4, 3) := by decide +kernel
theorem dX7_findSigns_103 : decode cX7_findSigns 103 = .ok (.iconst 1, 1) := by decide +kernel
theorem dX7_findSigns_104 : decode cX7_findSigns 104 = .ok (.iastore, 1) := by decide +kernel
theorem dX7_findSigns_105 : decode cX7_findSigns 105 = .ok (.iinc 3 1, 3) := by decide +kernel
theorem dX7_findSigns_108 : decode cX7_findSigns 108 = .ok (.goto (-35), 3) := by decide +kernel
theorem dX7_findSigns_111 : decode cX7_findSigns 111 = .ok (.iinc 1 (-1), 3) := by decide +kernel
theorem dX7_findSigns_114 : decode cX7_findSigns 114 = .ok (.goto (-101), 3) := by decide +kernel
theorem dX7_findSigns_117 : decode cX7_findSigns 117 = .ok (.return_, 1) := by decide +kernel
set_option maxRecDepth 20000 in
theorem ggX7_flow_X7_flowReason : GoodIn wsX7_flow wsX7_flowReason := goodIn_r _ [6, 7, 8, 9, 10, 5, 11, 12, 13, 14, 15, 16, 17, 18, 19, 20, 21, 22, 23, 24, 25, 26, 27, 28, 29, 30, 31, 32, 33, 34, 35, 36, 37, 38, 39, 40, 41, 42, 43, 44, 45, 46, 47, 48, 49, 50, 51, 52, 53, 54, 55, 56, 57] (by decide +kernel) (by decide +kernel)
set_option maxRecDepth 20000 in
theorem gX7_flow_X7_flowReason : GoodIn wsX7_flow (wsV RX7 137 RX7 yX7_flowReason wsX7_flowReason) := goodIn_app (goodIn_of _ (by decide +kernel)) ggX7_flow_X7_flowReason
theorem dX7_flow_0 : decode cX7_flow 0 = .ok (.aload_n 0, 1) := by decide +kernel
theorem dX7_flow_1 : decode cX7_flow 1 = .ok (.iconst 0, 1) := by decide +kernel
theorem dX7_flow_2 : decode cX7_flow 2 = .ok (.putfield 75, 3) := by decide +kernel
theorem dX7_flow_5 : decode cX7_flow 5 = .ok (.aload_n 0, 1) := by decide +kernel
theorem dX7_flow_6 : decode cX7_flow 6 = .ok (.invokevirtual 137, 3) := by decide +kernel
theorem dX7_flow_9 : decode cX7_flow 9 = .ok (.ireturn, 1) := by decide +kernel
set_option maxRecDepth 20000 in
theorem ggX7_sign_X7_flowReason : GoodIn wsX7_sign wsX7_flowReason := goodIn_r _ [6, 7, 8, 9, 10, 5, 11, 12, 13, 14, 15, 16, 17, 18, 19, 20, 21, 22, 23, 24, 25, 26, 27, 28, 29, 52, 53, 54, 55, 56, 57, 58, 59, 60, 61, 62, 63, 64, 65, 66, 67, 68, 69, 70, 71, 72, 73, 74, 75, 76, 77, 78, 79] (by decide +kernel) (by decide +kernel)
set_option maxRecDepth 20000 in
theorem gX7_sign_X7_flowReason : GoodIn wsX7_sign (wsV RX7 137 RX7 yX7_flowReason wsX7_flowReason) := goodIn_app (goodIn_of _ (by decide +kernel)) ggX7_sign_X7_flowReason
set_option maxRecDepth 20000 in
theorem ggX7_sign_X7_isRow : GoodIn wsX7_sign wsX7_isRow := goodIn_r _ [33, 12, 19, 20, 5, 21, 52, 53, 54, 55, 56, 57, 58, 59, 60, 61, 62, 63, 64, 65, 66, 67, 68, 69, 70, 71, 72, 73, 74, 75, 76, 77, 78, 79] (by decide +kernel) (by decide +kernel)
set_option maxRecDepth 20000 in
theorem gX7_sign_X7_isRow : GoodIn wsX7_sign (wsV RX7 104 RX7 yX7_isRow wsX7_isRow) := goodIn_app (goodIn_of _ (by decide +kernel)) ggX7_sign_X7_isRow
set_option maxRecDepth 20000 in
theorem ggX7_sign_X7_passes : GoodIn wsX7_sign wsX7_passes := goodIn_r _ [37, 38, 52, 53, 54, 55, 56, 57, 58, 59, 60, 61, 62, 63, 64, 65, 66, 67, 68, 69, 70, 71, 72, 73, 74, 75, 76, 77, 78, 79] (by decide +kernel) (by decide +kernel)
set_option maxRecDepth 20000 in
theorem gX7_sign_X7_passes : GoodIn wsX7_sign (wsV RX7 96 RX7 yX7_passes wsX7_passes) := goodIn_app (goodIn_of _ (by decide +kernel)) ggX7_sign_X7_passes
set_option maxRecDepth 20000 in
theorem ggX7_sign_X7_findSigns : GoodIn wsX7_sign wsX7_findSigns := goodIn_r _ [42, 12, 7, 43, 1, 44, 45, 46, 5, 47, 48, 49, 50, 51, 14, 15, 16, 17, 18, 26, 27, 28, 29, 52, 53, 54, 55, 56, 57, 58, 59, 60, 61, 62, 63, 64, 65, 66, 67, 68, 69, 70, 71, 72, 73, 74, 75, 76, 77, 78, 79] (by decide +kernel) (by decide +kernel)
set_option maxRecDepth 20000 in
theorem gX7_sign_X7_findSigns : GoodIn wsX7_sign (wsV RX7 141 RX7 yX7_findSigns wsX7_findSigns) := goodIn_app (goodIn_of _ (by decide +kernel)) ggX7_sign_X7_findSigns
theorem dX7_sign_0 : decode cX7_sign 0 = .ok (.aload_n 0, 1) := by decide +kernel
theorem dX7_sign_1 : decode cX7_sign 1 = .ok (.aload_n 0, 1) := by decide +kernel
theorem dX7_sign_2 : decode cX7_sign 2 = .ok (.invokevirtual 137, 3) := by decide +kernel
theorem dX7_sign_5 : decode cX7_sign 5 = .ok (.iconst (-1), 1) := by decide +kernel
theorem dX7_sign_6 : decode cX7_sign 6 = .ok (.if_icmp .eq 7, 3) := by decide +kernel
theorem dX7_sign_9 : decode cX7_sign 9 = .ok (.iconst 1, 1) := by decide +kernel
theorem dX7_sign_10 : decode cX7_sign 10 = .ok (.goto 4, 3) := by decide +kernel
theorem dX7_sign_13 : decode cX7_sign 13 = .ok (.iconst 0, 1) := by decide +kernel
theorem dX7_sign_14 : decode cX7_sign 14 = .ok (.aload_n 0, 1) := by decide +kernel
theorem dX7_sign_15 : decode cX7_sign 15 = .ok (.iload_n 1, 1) := by decide +kernel
theorem dX7_sign_16 : decode cX7_sign 16 = .ok (.invokevirtual 104, 3) := by decide +kernel
theorem dX7_sign_19 : decode cX7_sign 19 = .ok (.ifCond .ne 7, 3) := by decide +kernel
theorem dX7_sign_22 : decode cX7_sign 22 = .ok (.iconst 1, 1) := by decide +kernel
theorem dX7_sign_23 : decode cX7_sign 23 = .ok (.goto 4, 3) := by decide +kernel
theorem dX7_sign_26 : decode cX7_sign 26 = .ok (.iconst 0, 1) := by decide +kernel
theorem dX7_sign_27 : decode cX7_sign 27 = .ok (.invokevirtual 96, 3) := by decide +kernel
theorem dX7_sign_30 : decode cX7_sign 30 = .ok (.ifCond .ne 5, 3) := by decide +kernel
theorem dX7_sign_33 : decode cX7_sign 33 = .ok (.iconst 0, 1) := by decide +kernel
theorem dX7_sign_34 : decode cX7_sign 34 = .ok (.ireturn, 1) := by decide +kernel
theorem dX7_sign_35 : decode cX7_sign 35 = .ok (.aload_n 0, 1) := by decide +kernel
theorem dX7_sign_36 : decode cX7_sign 36 = .ok (.invokevirtual 141, 3) := by decide +kernel
theorem dX7_sign_39 : decode cX7_sign 39 = .ok (.aload_n 0, 1) := by decide +kernel
theorem dX7_sign_40 : decode cX7_sign 40 = .ok (.getfield 42, 3) := by decide +kernel
theorem dX7_sign_43 : decode cX7_sign 43 = .ok (.iload_n 1, 1) := by decide +kernel
theorem dX7_sign_44 : decode cX7_sign 44 = .ok (.iaload, 1) := by decide +kernel
theorem dX7_sign_45 : decode cX7_sign 45 = .ok (.ireturn, 1) := by decide +kernel
set_option maxRecDepth 20000 in
theorem ggX7_isInterval_X7_coef : GoodIn wsX7_isInterval wsX7_coef := goodIn_r _ [6, 7, 11, 12, 13, 14, 15, 16, 17, 18, 19, 20, 21, 22, 23, 24, 25, 26, 27, 28, 29, 30, 31, 32, 33, 34, 35, 36, 37, 38] (by decide +kernel) (by decide +kernel)
set_option maxRecDepth 20000 in
theorem gX7_isInterval_X7_coef : GoodIn wsX7_isInterval (wsV RX7 119 RX7 yX7_coef wsX7_coef) := goodIn_app (goodIn_of _ (by decide +kernel)) ggX7_isInterval_X7_coef
set_option maxRecDepth 20000 in
theorem ggX7_isInterval_X7_within : GoodIn wsX7_isInterval wsX7_within := goodIn_r _ [10] (by decide +kernel) (by decide +kernel)
set_option maxRecDepth 20000 in
theorem gX7_isInterval_X7_within : GoodIn wsX7_isInterval (va_wsS RX7 81 yX7_within wsX7_within) := goodIn_app (goodIn_of _ (by decide +kernel)) ggX7_isInterval_X7_within
theorem dX7_isInterval_0 : decode cX7_isInterval 0 = .ok (.iconst 1, 1) := by decide +kernel
theorem dX7_isInterval_1 : decode cX7_isInterval 1 = .ok (.istore_n 2, 1) := by decide +kernel
theorem dX7_isInterval_2 : decode cX7_isInterval 2 = .ok (.iconst 0, 1) := by decide +kernel
theorem dX7_isInterval_3 : decode cX7_isInterval 3 = .ok (.istore_n 3, 1) := by decide +kernel
theorem dX7_isInterval_4 : decode cX7_isInterval 4 = .ok (.iconst 0, 1) := by decide +kernel
theorem dX7_isInterval_5 : decode cX7_isInterval 5 = .ok (.istore 4, 2) := by decide +kernel
theorem dX7_isInterval_7 : decode cX7_isInterval 7 = .ok (.iload 4, 2) := by decide +kernel
theorem dX7_isInterval_9 : decode cX7_isInterval 9 = .ok (.aload_n 0, 1) := by decide +kernel
theorem dX7_isInterval_10 : decode cX7_isInterval 10 = .ok (.getfield 85, 3) := by decide +kernel
theorem dX7_isInterval_13 : decode cX7_isInterval 13 = .ok (.if_icmp .ge 78, 3) := by decide +kernel
theorem dX7_isInterval_16 : decode cX7_isInterval 16 = .ok (.iload 4, 2) := by decide +kernel
theorem dX7_isInterval_18 : decode cX7_isInterval 18 = .ok (.ifCond .ne 7, 3) := by decide +kernel
theorem dX7_isInterval_21 : decode cX7_isInterval 21 = .ok (.iconst 0, 1) := by decide +kernel
theorem dX7_isInterval_22 : decode cX7_isInterval 22 = .ok (.goto 12, 3) := by decide +kernel
theorem dX7_isInterval_25 : decode cX7_isInterval 25 = .ok (.aload_n 0, 1) := by decide +kernel
theorem dX7_isInterval_26 : decode cX7_isInterval 26 = .ok (.iload 4, 2) := by decide +kernel
theorem dX7_isInterval_28 : decode cX7_isInterval 28 = .ok (.iconst 1, 1) := by decide +kernel
theorem dX7_isInterval_29 : decode cX7_isInterval 29 = .ok (.isub, 1) := by decide +kernel
theorem dX7_isInterval_30 : decode cX7_isInterval 30 = .ok (.iload_n 1, 1) := by decide +kernel
theorem dX7_isInterval_31 : decode cX7_isInterval 31 = .ok (.invokevirtual 119, 3) := by decide +kernel
theorem dX7_isInterval_34 : decode cX7_isInterval 34 = .ok (.istore 5, 2) := by decide +kernel
theorem dX7_isInterval_36 : decode cX7_isInterval 36 = .ok (.iload_n 2, 1) := by decide +kernel
theorem dX7_isInterval_37 : decode cX7_isInterval 37 = .ok (.ifCond .eq 23, 3) := by decide +kernel
theorem dX7_isInterval_40 : decode cX7_isInterval 40 = .ok (.aload_n 0, 1) := by decide +kernel
theorem dX7_isInterval_41 : decode cX7_isInterval 41 = .ok (.iload 4, 2) := by decide +kernel
theorem dX7_isInterval_43 : decode cX7_isInterval 43 = .ok (.iload_n 1, 1) := by decide +kernel
theorem dX7_isInterval_44 : decode cX7_isInterval 44 = .ok (.invokevirtual 119, 3) := by decide +kernel
theorem dX7_isInterval_47 : decode cX7_isInterval 47 = .ok (.i2l, 1) := by decide +kernel
theorem dX7_isInterval_48 : decode cX7_isInterval 48 = .ok (.lconst 0, 1) := by decide +kernel
theorem dX7_isInterval_49 : decode cX7_isInterval 49 = .ok (.lconst 1, 1) := by decide +kernel
theorem dX7_isInterval_50 : decode cX7_isInterval 50 = .ok (.invokestatic 81, 3) := by decide +kernel
theorem dX7_isInterval_53 : decode cX7_isInterval 53 = .ok (.ifCond .eq 7, 3) := by decide +kernel
theorem dX7_isInterval_56 : decode cX7_isInterval 56 = .ok (.iconst 1, 1) := by decide +kernel
theorem dX7_isInterval_57 : decode cX7_isInterval 57 = .ok (.goto 4, 3) := by decide +kernel
theorem dX7_isInterval_60 : decode cX7_isInterval 60 = .ok (.iconst 0, 1) := by decide +kernel
theorem dX7_isInterval_61 : decode cX7_isInterval 61 = .ok (.istore_n 2, 1) := by decide +kernel
theorem dX7_isInterval_62 : decode cX7_isInterval 62 = .ok (.iload_n 3, 1) := by decide +kernel
theorem dX7_isInterval_63 : decode cX7_isInterval 63 = .ok (.iload 5, 2) := by decide +kernel
theorem dX7_isInterval_65 : decode cX7_isInterval 65 = .ok (.ifCond .ne 17, 3) := by decide +kernel
theorem dX7_isInterval_68 : decode cX7_isInterval 68 = .ok (.aload_n 0, 1) := by decide +kernel
theorem dX7_isInterval_69 : decode cX7_isInterval 69 = .ok (.iload 4, 2) := by decide +kernel
theorem dX7_isInterval_71 : decode cX7_isInterval 71 = .ok (.iload_n 1, 1) := by decide +kernel
theorem dX7_isInterval_72 : decode cX7_isInterval 72 = .ok (.invokevirtual 119, 3) := by decide +kernel
theorem dX7_isInterval_75 : decode cX7_isInterval 75 = .ok (.ifCond .eq 7, 3) := by decide +kernel
theorem dX7_isInterval_78 : decode cX7_isInterval 78 = .ok (.iconst 1, 1) := by decide +kernel
theorem dX7_isInterval_79 : decode cX7_isInterval 79 = .ok (.goto 4, 3) := by decide +kernel
theorem dX7_isInterval_82 : decode cX7_isInterval 82 = .ok (.iconst 0, 1) := by decide +kernel
theorem dX7_isInterval_83 : decode cX7_isInterval 83 = .ok (.iadd, 1) := by decide +kernel
theorem dX7_isInterval_84 : decode cX7_isInterval 84 = .ok (.istore_n 3, 1) := by decide +kernel
theorem dX7_isInterval_85 : decode cX7_isInterval 85 = .ok (.iinc 4 1, 3) := by decide +kernel
theorem dX7_isInterval_88 : decode cX7_isInterval 88 = .ok (.goto (-81), 3) := by decide +kernel
theorem dX7_isInterval_91 : decode cX7_isInterval 91 = .ok (.iload_n 2, 1) := by decide +kernel
theorem dX7_isInterval_92 : decode cX7_isInterval 92 = .ok (.ifCond .eq 12, 3) := by decide +kernel
theorem dX7_isInterval_95 : decode cX7_isInterval 95 = .ok (.iload_n 3, 1) := by decide +kernel
theorem dX7_isInterval_96 : decode cX7_isInterval 96 = .ok (.iconst 1, 1) := by decide +kernel
theorem dX7_isInterval_97 : decode cX7_isInterval 97 = .ok (.if_icmp .gt 7, 3) := by decide +kernel
theorem dX7_isInterval_100 : decode cX7_isInterval 100 = .ok (.iconst 1, 1) := by decide +kernel
theorem dX7_isInterval_101 : decode cX7_isInterval 101 = .ok (.goto 4, 3) := by decide +kernel
theorem dX7_isInterval_104 : decode cX7_isInterval 104 = .ok (.iconst 0, 1) := by decide +kernel
theorem dX7_isInterval_105 : decode cX7_isInterval 105 = .ok (.ireturn, 1) := by decide +kernel
set_option maxRecDepth 20000 in
theorem ggX7_intervals_X7_isInterval : GoodIn wsX7_intervals wsX7_isInterval := goodIn_r _ [7, 8, 9, 10, 11, 6, 12, 13, 14, 15, 16, 17, 18, 19, 20, 21, 22, 23, 24, 25, 26, 27, 28, 29, 30, 31, 32, 33, 34, 35, 36, 37, 38, 39, 40, 41, 42, 43, 44] (by decide +kernel) (by decide +kernel)
set_option maxRecDepth 20000 in
theorem gX7_intervals_X7_isInterval : GoodIn wsX7_intervals (wsV RX7 144 RX7 yX7_isInterval wsX7_isInterval) := goodIn_app (goodIn_of _ (by decide +kernel)) ggX7_intervals_X7_isInterval
theorem dX7_intervals_0 : decode cX7_intervals 0 = .ok (.aload_n 0, 1) := by decide +kernel
theorem dX7_intervals_1 : decode cX7_intervals 1 = .ok (.iconst 0, 1) := by decide +kernel
theorem dX7_intervals_2 : decode cX7_intervals 2 = .ok (.putfield 75, 3) := by decide +kernel
theorem dX7_intervals_5 : decode cX7_intervals 5 = .ok (.iconst 0, 1) := by decide +kernel
theorem dX7_intervals_6 : decode cX7_intervals 6 = .ok (.istore_n 1, 1) := by decide +kernel
theorem dX7_intervals_7 : decode cX7_intervals 7 = .ok (.iload_n 1, 1) := by decide +kernel
theorem dX7_intervals_8 : decode cX7_intervals 8 = .ok (.aload_n 0, 1) := by decide +kernel
theorem dX7_intervals_9 : decode cX7_intervals 9 = .ok (.getfield 78, 3) := by decide +kernel
theorem dX7_intervals_12 : decode cX7_intervals 12 = .ok (.if_icmp .ge 19, 3) := by decide +kernel
theorem dX7_intervals_15 : decode cX7_intervals 15 = .ok (.aload_n 0, 1) := by decide +kernel
theorem dX7_intervals_16 : decode cX7_intervals 16 = .ok (.iload_n 1, 1) := by decide +kernel
theorem dX7_intervals_17 : decode cX7_intervals 17 = .ok (.invokevirtual 144, 3) := by decide +kernel
theorem dX7_intervals_20 : decode cX7_intervals 20 = .ok (.ifCond .ne 5, 3) := by decide +kernel
theorem dX7_intervals_23 : decode cX7_intervals 23 = .ok (.iload_n 1, 1) := by decide +kernel
theorem dX7_intervals_24 : decode cX7_intervals 24 = .ok (.ireturn, 1) := by decide +kernel
theorem dX7_intervals_25 : decode cX7_intervals 25 = .ok (.iinc 1 1, 3) := by decide +kernel
theorem dX7_intervals_28 : decode cX7_intervals 28 = .ok (.goto (-21), 3) := by decide +kernel
theorem dX7_intervals_31 : decode cX7_intervals 31 = .ok (.iconst (-1), 1) := by decide +kernel
theorem dX7_intervals_32 : decode cX7_intervals 32 = .ok (.ireturn, 1) := by decide +kernel
set_option maxRecDepth 20000 in
theorem ggX7_isEven_X7_coef : GoodIn wsX7_isEven wsX7_coef := goodIn_r _ [8, 9, 13, 14, 15, 16, 17, 18, 19, 20, 21, 22, 23, 24, 25, 26, 27, 28, 29, 30, 31, 32, 33, 34, 35, 36, 37, 38, 39, 40] (by decide +kernel) (by decide +kernel)
set_option maxRecDepth 20000 in
theorem gX7_isEven_X7_coef : GoodIn wsX7_isEven (wsV RX7 119 RX7 yX7_coef wsX7_coef) := goodIn_app (goodIn_of _ (by decide +kernel)) ggX7_isEven_X7_coef
set_option maxRecDepth 20000 in
theorem ggX7_isEven_X7_within : GoodIn wsX7_isEven wsX7_within := goodIn_r _ [12] (by decide +kernel) (by decide +kernel)
set_option maxRecDepth 20000 in
theorem gX7_isEven_X7_within : GoodIn wsX7_isEven (va_wsS RX7 81 yX7_within wsX7_within) := goodIn_app (goodIn_of _ (by decide +kernel)) ggX7_isEven_X7_within
theorem dX7_isEven_0 : decode cX7_isEven 0 = .ok (.iconst 1, 1) := by decide +kernel
theorem dX7_isEven_1 : decode cX7_isEven 1 = .ok (.istore_n 3, 1) := by decide +kernel
theorem dX7_isEven_2 : decode cX7_isEven 2 = .ok (.iconst 0, 1) := by decide +kernel
theorem dX7_isEven_3 : decode cX7_isEven 3 = .ok (.istore 4, 2) := by decide +kernel
theorem dX7_isEven_5 : decode cX7_isEven 5 = .ok (.iload 4, 2) := by decide +kernel
theorem dX7_isEven_7 : decode cX7_isEven 7 = .ok (.aload_n 0, 1) := by decide +kernel
theorem dX7_isEven_8 : decode cX7_isEven 8 = .ok (.getfield 78, 3) := by decide +kernel
theorem dX7_isEven_11 : decode cX7_isEven 11 = .ok (.if_icmp .ge 91, 3) := by decide +kernel
theorem dX7_isEven_14 : decode cX7_isEven 14 = .ok (.iload_n 3, 1) := by decide +kernel
theorem dX7_isEven_15 : decode cX7_isEven 15 = .ok (.ifCond .eq 87, 3) := by decide +kernel
theorem dX7_isEven_18 : decode cX7_isEven 18 = .ok (.iconst 0, 1) := by decide +kernel
theorem dX7_isEven_19 : decode cX7_isEven 19 = .ok (.istore 5, 2) := by decide +kernel
theorem dX7_isEven_21 : decode cX7_isEven 21 = .ok (.iconst 0, 1) := by decide +kernel
theorem dX7_isEven_22 : decode cX7_isEven 22 = .ok (.istore 6, 2) := by decide +kernel
theorem dX7_isEven_24 : decode cX7_isEven 24 = .ok (.iload 6, 2) := by decide +kernel
theorem dX7_isEven_26 : decode cX7_isEven 26 = .ok (.aload_n 0, 1) := by decide +kernel
theorem dX7_isEven_27 : decode cX7_isEven 27 = .ok (.getfield 85, 3) := by decide +kernel
theorem dX7_isEven_30 : decode cX7_isEven 30 = .ok (.if_icmp .ge 55, 3) := by decide +kernel
theorem dX7_isEven_33 : decode cX7_isEven 33 = .ok (.iload_n 1, 1) := by decide +kernel
theorem dX7_isEven_34 : decode cX7_isEven 34 = .ok (.iload 6, 2) := by decide +kernel
theorem dX7_isEven_36 : decode cX7_isEven 36 = .ok (.ishr, 1) := by decide +kernel
theorem dX7_isEven_37 : decode cX7_isEven 37 = .ok (.iconst 1, 1) := by decide +kernel
theorem dX7_isEven_38 : decode cX7_isEven 38 = .ok (.iand, 1) := by decide +kernel
theorem dX7_isEven_39 : decode cX7_isEven 39 = .ok (.ifCond .ne 7, 3) := by decide +kernel
theorem dX7_isEven_42 : decode cX7_isEven 42 = .ok (.iconst 0, 1) := by decide +kernel
theorem dX7_isEven_43 : decode cX7_isEven 43 = .ok (.goto 11, 3) := by decide +kernel
theorem dX7_isEven_46 : decode cX7_isEven 46 = .ok (.aload_n 0, 1) := by decide +kernel
theorem dX7_isEven_47 : decode cX7_isEven 47 = .ok (.iload 6, 2) := by decide +kernel
theorem dX7_isEven_49 : decode cX7_isEven 49 = .ok (.iload 4, 2) := by decide +kernel
theorem dX7_isEven_51 : decode cX7_isEven 51 = .ok (.invokevirtual 119, 3) := by decide +kernel
theorem dX7_isEven_54 : decode cX7_isEven 54 = .ok (.istore 7, 2) := by decide +kernel
theorem dX7_isEven_56 : decode cX7_isEven 56 = .ok (.iload 5, 2) := by decide +kernel
theorem dX7_isEven_58 : decode cX7_isEven 58 = .ok (.iload_n 2, 1) := by decide +kernel
theorem dX7_isEven_59 : decode cX7_isEven 59 = .ok (.iload 6, 2) := by decide +kernel
theorem dX7_isEven_61 : decode cX7_isEven 61 = .ok (.ishr, 1) := by decide +kernel
theorem dX7_isEven_62 : decode cX7_isEven 62 = .ok (.iconst 1, 1) := by decide +kernel
theorem dX7_isEven_63 : decode cX7_isEven 63 = .ok (.iand, 1) := by decide +kernel
theorem dX7_isEven_64 : decode cX7_isEven 64 = .ok (.iconst 1, 1) := by decide +kernel
theorem dX7_isEven_65 : decode cX7_isEven 65 = .ok (.if_icmp .ne 9, 3) := by decide +kernel
theorem dX7_isEven_68 : decode cX7_isEven 68 = .ok (.iload 7, 2) := by decide +kernel
theorem dX7_isEven_70 : decode cX7_isEven 70 = .ok (.ineg, 1) := by decide +kernel
theorem dX7_isEven_71 : decode cX7_isEven 71 = .ok (.goto 5, 3) := by decide +kernel
theorem dX7_isEven_74 : decode cX7_isEven 74 = .ok (.iload 7, 2) := by decide +kernel
theorem dX7_isEven_76 : decode cX7_isEven 76 = .ok (.iadd, 1) := by decide +kernel
theorem dX7_isEven_77 : decode cX7_isEven 77 = .ok (.istore 5, 2) := by decide +kernel
theorem dX7_isEven_79 : decode cX7_isEven 79 = .ok (.iinc 6 1, 3) := by decide +kernel
theorem dX7_isEven_82 : decode cX7_isEven 82 = .ok (.goto (-58), 3) := by decide +kernel
theorem dX7_isEven_85 : decode cX7_isEven 85 = .ok (.iload 5, 2) := by decide +kernel
theorem dX7_isEven_87 : decode cX7_isEven 87 = .ok (.i2l, 1) := by decide +kernel
theorem dX7_isEven_88 : decode cX7_isEven 88 = .ok (.ldc2_w 129, 3) := by decide +kernel
theorem dX7_isEven_91 : decode cX7_isEven 91 = .ok (.lconst 1, 1) := by decide +kernel
theorem dX7_isEven_92 : decode cX7_isEven 92 = .ok (.invokestatic 81, 3) := by decide +kernel
theorem dX7_isEven_95 : decode cX7_isEven 95 = .ok (.istore_n 3, 1) := by decide +kernel
theorem dX7_isEven_96 : decode cX7_isEven 96 = .ok (.iinc 4 1, 3) := by decide +kernel
theorem dX7_isEven_99 : decode cX7_isEven 99 = .ok (.goto (-94), 3) := by decide +kernel
theorem dX7_isEven_102 : decode cX7_isEven 102 = .ok (.iload_n 3, 1) := by decide +kernel
theorem dX7_isEven_103 : decode cX7_isEven 103 = .ok (.ireturn, 1) := by decide +kernel
set_option maxRecDepth 20000 in
theorem ggX7_nature_X7_isEven : GoodIn wsX7_nature wsX7_isEven := goodIn_r _ [7, 8, 2, 9, 10, 11, 12, 6, 13, 14, 15, 16, 17, 18, 19, 20, 21, 22, 23, 24, 25, 26, 27, 28, 29, 30, 31, 32, 33, 34, 35, 36, 37, 38, 39, 40, 41, 42, 43, 44, 45] (by decide +kernel) (by decide +kernel)
set_option maxRecDepth 20000 in
theorem gX7_nature_X7_isEven : GoodIn wsX7_nature (wsV RX7 147 RX7 yX7_isEven wsX7_isEven) := goodIn_app (goodIn_of _ (by decide +kernel)) ggX7_nature_X7_isEven
theorem dX7_nature_0 : decode cX7_nature 0 = .ok (.aload_n 0, 1) := by decide +kernel
theorem dX7_nature_1 : decode cX7_nature 1 = .ok (.iconst 0, 1) := by decide +kernel
theorem dX7_nature_2 : decode cX7_nature 2 = .ok (.putfield 75, 3) := by decide +kernel
theorem dX7_nature_5 : decode cX7_nature 5 = .ok (.iconst 1, 1) := by decide +kernel
theorem dX7_nature_6 : decode cX7_nature 6 = .ok (.istore_n 1, 1) := by decide +kernel
theorem dX7_nature_7 : decode cX7_nature 7 = .ok (.iload_n 1, 1) := by decide +kernel
theorem dX7_nature_8 : decode cX7_nature 8 = .ok (.iconst 1, 1) := by decide +kernel
theorem dX7_nature_9 : decode cX7_nature 9 = .ok (.aload_n 0, 1) := by decide +kernel
theorem dX7_nature_10 : decode cX7_nature 10 = .ok (.getfield 85, 3) := by decide +kernel
theorem dX7_nature_13 : decode cX7_nature 13 = .ok (.ishl, 1) := by decide +kernel
theorem dX7_nature_14 : decode cX7_nature 14 = .ok (.if_icmp .ge 56, 3) := by decide +kernel
theorem dX7_nature_17 : decode cX7_nature 17 = .ok (.iconst 0, 1) := by decide +kernel
theorem dX7_nature_18 : decode cX7_nature 18 = .ok (.istore_n 2, 1) := by decide +kernel
theorem dX7_nature_19 : decode cX7_nature 19 = .ok (.iload_n 1, 1) := by decide +kernel
theorem dX7_nature_20 : decode cX7_nature 20 = .ok (.istore_n 3, 1) := by decide +kernel
theorem dX7_nature_21 : decode cX7_nature 21 = .ok (.iload_n 3, 1) := by decide +kernel
theorem dX7_nature_22 : decode cX7_nature 22 = .ok (.ifCond .lt 36, 3) := by decide +kernel
theorem dX7_nature_25 : decode cX7_nature 25 = .ok (.iload_n 2, 1) := by decide +kernel
theorem dX7_nature_26 : decode cX7_nature 26 = .ok (.ifCond .ne 32, 3) := by decide +kernel
theorem dX7_nature_29 : decode cX7_nature 29 = .ok (.iload_n 3, 1) := by decide +kernel
theorem dX7_nature_30 : decode cX7_nature 30 = .ok (.iload_n 1, 1) := by decide +kernel
theorem dX7_nature_31 : decode cX7_nature 31 = .ok (.iconst (-1), 1) := by decide +kernel
theorem dX7_nature_32 : decode cX7_nature 32 = .ok (.ixor, 1) := by decide +kernel
theorem dX7_nature_33 : decode cX7_nature 33 = .ok (.iand, 1) := by decide +kernel
theorem dX7_nature_34 : decode cX7_nature 34 = .ok (.ifCond .ne 16, 3) := by decide +kernel
theorem dX7_nature_37 : decode cX7_nature 37 = .ok (.aload_n 0, 1) := by decide +kernel
theorem dX7_nature_38 : decode cX7_nature 38 = .ok (.iload_n 1, 1) := by decide +kernel
theorem dX7_nature_39 : decode cX7_nature 39 = .ok (.iload_n 3, 1) := by decide +kernel
theorem dX7_nature_40 : decode cX7_nature 40 = .ok (.invokevirtual 147, 3) := by decide +kernel
theorem dX7_nature_43 : decode cX7_nature 43 = .ok (.ifCond .eq 7, 3) := by decide +kernel
theorem dX7_nature_46 : decode cX7_nature 46 = .ok (.iconst 1, 1) := by decide +kernel
theorem dX7_nature_47 : decode cX7_nature 47 = .ok (.goto 4, 3) := by decide +kernel
theorem dX7_nature_50 : decode cX7_nature 50 = .ok (.iconst 0, 1) := by decide +kernel
theorem dX7_nature_51 : decode cX7_nature 51 = .ok (.istore_n 2, 1) := by decide +kernel
theorem dX7_nature_52 : decode cX7_nature 52 = .ok (.iinc 3 (-1), 3) := by decide +kernel
theorem dX7_nature_55 : decode cX7_nature 55 = .ok (.goto (-34), 3) := by decide +kernel
theorem dX7_nature_58 : decode cX7_nature 58 = .ok (.iload_n 2, 1) := by decide +kernel
theorem dX7_nature_59 : decode cX7_nature 59 = .ok (.ifCond .ne 5, 3) := by decide +kernel
theorem dX7_nature_62 : decode cX7_nature 62 = .ok (.iload_n 1, 1) := by decide +kernel
theorem dX7_nature_63 : decode cX7_nature 63 = .ok (.ireturn, 1) := by decide +kernel
theorem dX7_nature_64 : decode cX7_nature 64 = .ok (.iinc 1 1, 3) := by decide +kernel
theorem dX7_nature_67 : decode cX7_nature 67 = .ok (.goto (-60), 3) := by decide +kernel
theorem dX7_nature_70 : decode cX7_nature 70 = .ok (.iconst (-1), 1) := by decide +kernel
theorem dX7_nature_71 : decode cX7_nature 71 = .ok (.ireturn, 1) := by decide +kernel
set_option maxRecDepth 20000 in
theorem ggX7_isKnapsack_X7_within : GoodIn wsX7_isKnapsack wsX7_within := goodIn_r _ [10] (by decide +kernel) (by decide +kernel)
set_option maxRecDepth 20000 in
theorem gX7_isKnapsack_X7_within : GoodIn wsX7_isKnapsack (va_wsS RX7 81 yX7_within wsX7_within) := goodIn_app (goodIn_of _ (by decide +kernel)) ggX7_isKnapsack_X7_within
set_option maxRecDepth 20000 in
theorem ggX7_isKnapsack_X7_coef : GoodIn wsX7_isKnapsack wsX7_coef := goodIn_r _ [14, 15, 16, 17, 18, 19, 20, 21, 22, 23, 24, 25, 26, 27, 28, 29, 30, 31, 32, 33, 34, 35, 36, 37, 38, 39, 40, 41, 42, 43] (by decide +kernel) (by decide +kernel)
set_option maxRecDepth 20000 in
theorem gX7_isKnapsack_X7_coef : GoodIn wsX7_isKnapsack (wsV RX7 119 RX7 yX7_coef wsX7_coef) := goodIn_app (goodIn_of _ (by decide +kernel)) ggX7_isKnapsack_X7_coef
theorem dX7_isKnapsack_0 : decode cX7_isKnapsack 0 = .ok (.aload_n 0, 1) := by decide +kernel
theorem dX7_isKnapsack_1 : decode cX7_isKnapsack 1 = .ok (.getfield 85, 3) := by decide +kernel
theorem dX7_isKnapsack_4 : decode cX7_isKnapsack 4 = .ok (.iconst 1, 1) := by decide +kernel
theorem dX7_isKnapsack_5 : decode cX7_isKnapsack 5 = .ok (.if_icmp .ne 33, 3) := by decide +kernel
theorem dX7_isKnapsack_8 : decode cX7_isKnapsack 8 = .ok (.aload_n 0, 1) := by decide +kernel
theorem dX7_isKnapsack_9 : decode cX7_isKnapsack 9 = .ok (.getfield 19, 3) := by decide +kernel
theorem dX7_isKnapsack_12 : decode cX7_isKnapsack 12 = .ok (.iconst 0, 1) := by decide +kernel
theorem dX7_isKnapsack_13 : decode cX7_isKnapsack 13 = .ok (.iaload, 1) := by decide +kernel
theorem dX7_isKnapsack_14 : decode cX7_isKnapsack 14 = .ok (.ifCond .ne 24, 3) := by decide +kernel
theorem dX7_isKnapsack_17 : decode cX7_isKnapsack 17 = .ok (.aload_n 0, 1) := by decide +kernel
theorem dX7_isKnapsack_18 : decode cX7_isKnapsack 18 = .ok (.getfield 22, 3) := by decide +kernel
theorem dX7_isKnapsack_21 : decode cX7_isKnapsack 21 = .ok (.iconst 0, 1) := by decide +kernel
theorem dX7_isKnapsack_22 : decode cX7_isKnapsack 22 = .ok (.iaload, 1) := by decide +kernel
theorem dX7_isKnapsack_23 : decode cX7_isKnapsack 23 = .ok (.i2l, 1) := by decide +kernel
theorem dX7_isKnapsack_24 : decode cX7_isKnapsack 24 = .ok (.lconst 0, 1) := by decide +kernel
theorem dX7_isKnapsack_25 : decode cX7_isKnapsack 25 = .ok (.ldc2_w 150, 3) := by decide +kernel
theorem dX7_isKnapsack_28 : decode cX7_isKnapsack 28 = .ok (.invokestatic 81, 3) := by decide +kernel
theorem dX7_isKnapsack_31 : decode cX7_isKnapsack 31 = .ok (.ifCond .eq 7, 3) := by decide +kernel
theorem dX7_isKnapsack_34 : decode cX7_isKnapsack 34 = .ok (.iconst 1, 1) := by decide +kernel
theorem dX7_isKnapsack_35 : decode cX7_isKnapsack 35 = .ok (.goto 4, 3) := by decide +kernel
theorem dX7_isKnapsack_38 : decode cX7_isKnapsack 38 = .ok (.iconst 0, 1) := by decide +kernel
theorem dX7_isKnapsack_39 : decode cX7_isKnapsack 39 = .ok (.istore_n 1, 1) := by decide +kernel
theorem dX7_isKnapsack_40 : decode cX7_isKnapsack 40 = .ok (.iconst 0, 1) := by decide +kernel
theorem dX7_isKnapsack_41 : decode cX7_isKnapsack 41 = .ok (.istore_n 2, 1) := by decide +kernel
theorem dX7_isKnapsack_42 : decode cX7_isKnapsack 42 = .ok (.iload_n 2, 1) := by decide +kernel
theorem dX7_isKnapsack_43 : decode cX7_isKnapsack 43 = .ok (.aload_n 0, 1) := by decide +kernel
theorem dX7_isKnapsack_44 : decode cX7_isKnapsack 44 = .ok (.getfield 78, 3) := by decide +kernel
theorem dX7_isKnapsack_47 : decode cX7_isKnapsack 47 = .ok (.if_icmp .ge 37, 3) := by decide +kernel
theorem dX7_isKnapsack_50 : decode cX7_isKnapsack 50 = .ok (.iload_n 1, 1) := by decide +kernel
theorem dX7_isKnapsack_51 : decode cX7_isKnapsack 51 = .ok (.ifCond .eq 25, 3) := by decide +kernel
theorem dX7_isKnapsack_54 : decode cX7_isKnapsack 54 = .ok (.aload_n 0, 1) := by decide +kernel
theorem dX7_isKnapsack_55 : decode cX7_isKnapsack 55 = .ok (.iconst 0, 1) := by decide +kernel
theorem dX7_isKnapsack_56 : decode cX7_isKnapsack 56 = .ok (.iload_n 2, 1) := by decide +kernel
theorem dX7_isKnapsack_57 : decode cX7_isKnapsack 57 = .ok (.invokevirtual 119, 3) := by decide +kernel
theorem dX7_isKnapsack_60 : decode cX7_isKnapsack 60 = .ok (.ifCond .le 16, 3) := by decide +kernel
theorem dX7_isKnapsack_63 : decode cX7_isKnapsack 63 = .ok (.aload_n 0, 1) := by decide +kernel
theorem dX7_isKnapsack_64 : decode cX7_isKnapsack 64 = .ok (.getfield 7, 3) := by decide +kernel
theorem dX7_isKnapsack_67 : decode cX7_isKnapsack 67 = .ok (.iload_n 2, 1) := by decide +kernel
theorem dX7_isKnapsack_68 : decode cX7_isKnapsack 68 = .ok (.iaload, 1) := by decide +kernel
theorem dX7_isKnapsack_69 : decode cX7_isKnapsack 69 = .ok (.ifCond .ne 7, 3) := by decide +kernel
theorem dX7_isKnapsack_72 : decode cX7_isKnapsack 72 = .ok (.iconst 1, 1) := by decide +kernel
theorem dX7_isKnapsack_73 : decode cX7_isKnapsack 73 = .ok (.goto 4, 3) := by decide +kernel
theorem dX7_isKnapsack_76 : decode cX7_isKnapsack 76 = .ok (.iconst 0, 1) := by decide +kernel
theorem dX7_isKnapsack_77 : decode cX7_isKnapsack 77 = .ok (.istore_n 1, 1) := by decide +kernel
theorem dX7_isKnapsack_78 : decode cX7_isKnapsack 78 = .ok (.iinc 2 1, 3) := by decide +kernel
theorem dX7_isKnapsack_81 : decode cX7_isKnapsack 81 = .ok (.goto (-39), 3) := by decide +kernel
theorem dX7_isKnapsack_84 : decode cX7_isKnapsack 84 = .ok (.iload_n 1, 1) := by decide +kernel
theorem dX7_isKnapsack_85 : decode cX7_isKnapsack 85 = .ok (.ireturn, 1) := by decide +kernel
set_option maxRecDepth 20000 in
theorem ggX7_knapsack_X7_isKnapsack : GoodIn wsX7_knapsack wsX7_isKnapsack := goodIn_r _ [6, 7, 8, 9, 10, 11, 12, 13, 14, 5, 15, 16, 17, 18, 19, 20, 21, 22, 23, 24, 25, 26, 27, 28, 29, 30, 31, 32, 33, 34, 35, 36, 37, 38, 39, 40, 41, 42, 43, 44, 45, 46, 47, 48] (by decide +kernel) (by decide +kernel)
set_option maxRecDepth 20000 in
theorem gX7_knapsack_X7_isKnapsack : GoodIn wsX7_knapsack (wsV RX7 152 RX7 yX7_isKnapsack wsX7_isKnapsack) := goodIn_app (goodIn_of _ (by decide +kernel)) ggX7_knapsack_X7_isKnapsack
theorem dX7_knapsack_0 : decode cX7_knapsack 0 = .ok (.aload_n 0, 1) := by decide +kernel
theorem dX7_knapsack_1 : decode cX7_knapsack 1 = .ok (.iconst 0, 1) := by decide +kernel
theorem dX7_knapsack_2 : decode cX7_knapsack 2 = .ok (.putfield 75, 3) := by decide +kernel
theorem dX7_knapsack_5 : decode cX7_knapsack 5 = .ok (.aload_n 0, 1) := by decide +kernel
theorem dX7_knapsack_6 : decode cX7_knapsack 6 = .ok (.invokevirtual 152, 3) := by decide +kernel
theorem dX7_knapsack_9 : decode cX7_knapsack 9 = .ok (.ireturn, 1) := by decide +kernel
set_option maxRecDepth 20000 in
theorem ggX7_matching_X7_flowReason : GoodIn wsX7_matching wsX7_flowReason := goodIn_r _ [11, 4, 12, 13, 14, 10, 15, 2, 16, 17, 18, 19, 20, 21, 22, 23, 24, 25, 26, 27, 28, 29, 30, 31, 32, 33, 34, 35, 36, 37, 38, 39, 40, 41, 42, 43, 44, 45, 46, 47, 48, 49, 50, 51, 52, 53, 54, 55, 56, 57, 58, 59, 60] (by decide +kernel) (by decide +kernel)
set_option maxRecDepth 20000 in
theorem gX7_matching_X7_flowReason : GoodIn wsX7_matching (wsV RX7 137 RX7 yX7_flowReason wsX7_flowReason) := goodIn_app (goodIn_of _ (by decide +kernel)) ggX7_matching_X7_flowReason
set_option maxRecDepth 20000 in
theorem ggX7_matching_X7_coef : GoodIn wsX7_matching wsX7_coef := goodIn_r _ [20, 21, 33, 34, 35, 36, 37, 38, 39, 40, 41, 42, 43, 44, 45, 46, 47, 48, 49, 50, 51, 52, 53, 54, 55, 56, 57, 58, 59, 60] (by decide +kernel) (by decide +kernel)
set_option maxRecDepth 20000 in
theorem gX7_matching_X7_coef : GoodIn wsX7_matching (wsV RX7 119 RX7 yX7_coef wsX7_coef) := goodIn_app (goodIn_of _ (by decide +kernel)) ggX7_matching_X7_coef
set_option maxRecDepth 20000 in
theorem ggX7_matching_X7_within : GoodIn wsX7_matching wsX7_within := goodIn_r _ [24] (by decide +kernel) (by decide +kernel)
set_option maxRecDepth 20000 in
theorem gX7_matching_X7_within : GoodIn wsX7_matching (va_wsS RX7 81 yX7_within wsX7_within) := goodIn_app (goodIn_of _ (by decide +kernel)) ggX7_matching_X7_within
theorem dX7_matching_0 : decode cX7_matching 0 = .ok (.aload_n 0, 1) := by decide +kernel
theorem dX7_matching_1 : decode cX7_matching 1 = .ok (.iconst 0, 1) := by decide +kernel
theorem dX7_matching_2 : decode cX7_matching 2 = .ok (.putfield 75, 3) := by decide +kernel
theorem dX7_matching_5 : decode cX7_matching 5 = .ok (.aload_n 0, 1) := by decide +kernel
theorem dX7_matching_6 : decode cX7_matching 6 = .ok (.invokevirtual 137, 3) := by decide +kernel
theorem dX7_matching_9 : decode cX7_matching 9 = .ok (.iconst (-1), 1) := by decide +kernel
theorem dX7_matching_10 : decode cX7_matching 10 = .ok (.if_icmp .ne 7, 3) := by decide +kernel
theorem dX7_matching_13 : decode cX7_matching 13 = .ok (.iconst 1, 1) := by decide +kernel
theorem dX7_matching_14 : decode cX7_matching 14 = .ok (.goto 4, 3) := by decide +kernel
theorem dX7_matching_17 : decode cX7_matching 17 = .ok (.iconst 0, 1) := by decide +kernel
theorem dX7_matching_18 : decode cX7_matching 18 = .ok (.istore_n 1, 1) := by decide +kernel
theorem dX7_matching_19 : decode cX7_matching 19 = .ok (.iconst 0, 1) := by decide +kernel
theorem dX7_matching_20 : decode cX7_matching 20 = .ok (.istore_n 2, 1) := by decide +kernel
theorem dX7_matching_21 : decode cX7_matching 21 = .ok (.iload_n 2, 1) := by decide +kernel
theorem dX7_matching_22 : decode cX7_matching 22 = .ok (.aload_n 0, 1) := by decide +kernel
theorem dX7_matching_23 : decode cX7_matching 23 = .ok (.getfield 85, 3) := by decide +kernel
theorem dX7_matching_26 : decode cX7_matching 26 = .ok (.if_icmp .ge 70, 3) := by decide +kernel
theorem dX7_matching_29 : decode cX7_matching 29 = .ok (.iload_n 1, 1) := by decide +kernel
theorem dX7_matching_30 : decode cX7_matching 30 = .ok (.ifCond .eq 17, 3) := by decide +kernel
theorem dX7_matching_33 : decode cX7_matching 33 = .ok (.aload_n 0, 1) := by decide +kernel
theorem dX7_matching_34 : decode cX7_matching 34 = .ok (.getfield 22, 3) := by decide +kernel
theorem dX7_matching_37 : decode cX7_matching 37 = .ok (.iload_n 2, 1) := by decide +kernel
theorem dX7_matching_38 : decode cX7_matching 38 = .ok (.iaload, 1) := by decide +kernel
theorem dX7_matching_39 : decode cX7_matching 39 = .ok (.iconst 1, 1) := by decide +kernel
theorem dX7_matching_40 : decode cX7_matching 40 = .ok (.if_icmp .ne 7, 3) := by decide +kernel
theorem dX7_matching_43 : decode cX7_matching 43 = .ok (.iconst 1, 1) := by decide +kernel
theorem dX7_matching_44 : decode cX7_matching 44 = .ok (.goto 4, 3) := by decide +kernel
theorem dX7_matching_47 : decode cX7_matching 47 = .ok (.iconst 0, 1) := by decide +kernel
theorem dX7_matching_48 : decode cX7_matching 48 = .ok (.istore_n 1, 1) := by decide +kernel
theorem dX7_matching_49 : decode cX7_matching 49 = .ok (.iconst 0, 1) := by decide +kernel
theorem dX7_matching_50 : decode cX7_matching 50 = .ok (.istore_n 3, 1) := by decide +kernel
theorem dX7_matching_51 : decode cX7_matching 51 = .ok (.iload_n 3, 1) := by decide +kernel
theorem dX7_matching_52 : decode cX7_matching 52 = .ok (.aload_n 0, 1) := by decide +kernel
theorem dX7_matching_53 : decode cX7_matching 53 = .ok (.getfield 78, 3) := by decide +kernel
