theorem dX4_startAlone_3 : decode cX4_startAlone 3 = .ok (.aload_n 0, 1) := by decide +kernel
theorem dX4_startAlone_4 : decode cX4_startAlone 4 = .ok (.getfield 12, 3) := by decide +kernel
theorem dX4_startAlone_7 : decode cX4_startAlone 7 = .ok (.getfield 42, 3) := by decide +kernel
theorem dX4_startAlone_10 : decode cX4_startAlone 10 = .ok (.if_icmp .ge 23, 3) := by decide +kernel
theorem dX4_startAlone_13 : decode cX4_startAlone 13 = .ok (.aload_n 0, 1) := by decide +kernel
theorem dX4_startAlone_14 : decode cX4_startAlone 14 = .ok (.getfield 18, 3) := by decide +kernel
theorem dX4_startAlone_17 : decode cX4_startAlone 17 = .ok (.iload_n 1, 1) := by decide +kernel
theorem dX4_startAlone_18 : decode cX4_startAlone 18 = .ok (.iload_n 1, 1) := by decide +kernel
theorem dX4_startAlone_19 : decode cX4_startAlone 19 = .ok (.iastore, 1) := by decide +kernel
theorem dX4_startAlone_20 : decode cX4_startAlone 20 = .ok (.aload_n 0, 1) := by decide +kernel
theorem dX4_startAlone_21 : decode cX4_startAlone 21 = .ok (.getfield 22, 3) := by decide +kernel
theorem dX4_startAlone_24 : decode cX4_startAlone 24 = .ok (.iload_n 1, 1) := by decide +kernel
theorem dX4_startAlone_25 : decode cX4_startAlone 25 = .ok (.iconst 1, 1) := by decide +kernel
theorem dX4_startAlone_26 : decode cX4_startAlone 26 = .ok (.iastore, 1) := by decide +kernel
theorem dX4_startAlone_27 : decode cX4_startAlone 27 = .ok (.iinc 1 1, 3) := by decide +kernel
theorem dX4_startAlone_30 : decode cX4_startAlone 30 = .ok (.goto (-28), 3) := by decide +kernel
theorem dX4_startAlone_33 : decode cX4_startAlone 33 = .ok (.return_, 1) := by decide +kernel
set_option maxRecDepth 20000 in
theorem ggX4_joinColumn_X5_nextTerm : GoodIn wsX4_joinColumn wsX5_nextTerm := goodIn_r _ [8, 9, 10, 30, 31, 32, 33, 34, 35, 36, 37] (by decide +kernel) (by decide +kernel)
set_option maxRecDepth 20000 in
theorem gX4_joinColumn_X5_nextTerm : GoodIn wsX4_joinColumn (wsV RX4 95 RX5 yX5_nextTerm wsX5_nextTerm) := goodIn_app (goodIn_of _ (by decide +kernel)) ggX4_joinColumn_X5_nextTerm
set_option maxRecDepth 20000 in
theorem ggX4_joinColumn_X4_join : GoodIn wsX4_joinColumn wsX4_join := goodIn_r _ [15, 16, 17, 18, 19, 20, 21, 22, 23, 1, 2, 24, 25, 26, 27, 28, 29, 30, 31, 32, 33, 34, 35, 36, 37] (by decide +kernel) (by decide +kernel)
set_option maxRecDepth 20000 in
theorem gX4_joinColumn_X4_join : GoodIn wsX4_joinColumn (wsV RX4 99 RX4 yX4_join wsX4_join) := goodIn_app (goodIn_of _ (by decide +kernel)) ggX4_joinColumn_X4_join
theorem dX4_joinColumn_0 : decode cX4_joinColumn 0 = .ok (.aload_n 0, 1) := by decide +kernel
theorem dX4_joinColumn_1 : decode cX4_joinColumn 1 = .ok (.getfield 12, 3) := by decide +kernel
theorem dX4_joinColumn_4 : decode cX4_joinColumn 4 = .ok (.iload_n 1, 1) := by decide +kernel
theorem dX4_joinColumn_5 : decode cX4_joinColumn 5 = .ok (.iconst 0, 1) := by decide +kernel
theorem dX4_joinColumn_6 : decode cX4_joinColumn 6 = .ok (.invokevirtual 95, 3) := by decide +kernel
theorem dX4_joinColumn_9 : decode cX4_joinColumn 9 = .ok (.istore_n 2, 1) := by decide +kernel
theorem dX4_joinColumn_10 : decode cX4_joinColumn 10 = .ok (.iload_n 2, 1) := by decide +kernel
theorem dX4_joinColumn_11 : decode cX4_joinColumn 11 = .ok (.iconst (-1), 1) := by decide +kernel
theorem dX4_joinColumn_12 : decode cX4_joinColumn 12 = .ok (.if_icmp .ne 4, 3) := by decide +kernel
theorem dX4_joinColumn_15 : decode cX4_joinColumn 15 = .ok (.return_, 1) := by decide +kernel
theorem dX4_joinColumn_16 : decode cX4_joinColumn 16 = .ok (.iload_n 2, 1) := by decide +kernel
theorem dX4_joinColumn_17 : decode cX4_joinColumn 17 = .ok (.iconst 1, 1) := by decide +kernel
theorem dX4_joinColumn_18 : decode cX4_joinColumn 18 = .ok (.iadd, 1) := by decide +kernel
theorem dX4_joinColumn_19 : decode cX4_joinColumn 19 = .ok (.istore_n 3, 1) := by decide +kernel
theorem dX4_joinColumn_20 : decode cX4_joinColumn 20 = .ok (.iload_n 3, 1) := by decide +kernel
theorem dX4_joinColumn_21 : decode cX4_joinColumn 21 = .ok (.aload_n 0, 1) := by decide +kernel
theorem dX4_joinColumn_22 : decode cX4_joinColumn 22 = .ok (.getfield 12, 3) := by decide +kernel
theorem dX4_joinColumn_25 : decode cX4_joinColumn 25 = .ok (.getfield 42, 3) := by decide +kernel
theorem dX4_joinColumn_28 : decode cX4_joinColumn 28 = .ok (.if_icmp .ge 30, 3) := by decide +kernel
theorem dX4_joinColumn_31 : decode cX4_joinColumn 31 = .ok (.aload_n 0, 1) := by decide +kernel
theorem dX4_joinColumn_32 : decode cX4_joinColumn 32 = .ok (.getfield 12, 3) := by decide +kernel
theorem dX4_joinColumn_35 : decode cX4_joinColumn 35 = .ok (.getfield 71, 3) := by decide +kernel
theorem dX4_joinColumn_38 : decode cX4_joinColumn 38 = .ok (.iload_n 3, 1) := by decide +kernel
theorem dX4_joinColumn_39 : decode cX4_joinColumn 39 = .ok (.aaload, 1) := by decide +kernel
theorem dX4_joinColumn_40 : decode cX4_joinColumn 40 = .ok (.iload_n 1, 1) := by decide +kernel
theorem dX4_joinColumn_41 : decode cX4_joinColumn 41 = .ok (.iaload, 1) := by decide +kernel
theorem dX4_joinColumn_42 : decode cX4_joinColumn 42 = .ok (.ifCond .eq 10, 3) := by decide +kernel
theorem dX4_joinColumn_45 : decode cX4_joinColumn 45 = .ok (.aload_n 0, 1) := by decide +kernel
theorem dX4_joinColumn_46 : decode cX4_joinColumn 46 = .ok (.iload_n 2, 1) := by decide +kernel
theorem dX4_joinColumn_47 : decode cX4_joinColumn 47 = .ok (.iload_n 3, 1) := by decide +kernel
theorem dX4_joinColumn_48 : decode cX4_joinColumn 48 = .ok (.iconst 1, 1) := by decide +kernel
theorem dX4_joinColumn_49 : decode cX4_joinColumn 49 = .ok (.invokevirtual 99, 3) := by decide +kernel
theorem dX4_joinColumn_52 : decode cX4_joinColumn 52 = .ok (.iinc 3 1, 3) := by decide +kernel
theorem dX4_joinColumn_55 : decode cX4_joinColumn 55 = .ok (.goto (-35), 3) := by decide +kernel
theorem dX4_joinColumn_58 : decode cX4_joinColumn 58 = .ok (.return_, 1) := by decide +kernel
theorem dX4_join_0 : decode cX4_join 0 = .ok (.aload_n 0, 1) := by decide +kernel
theorem dX4_join_1 : decode cX4_join 1 = .ok (.getfield 18, 3) := by decide +kernel
theorem dX4_join_4 : decode cX4_join 4 = .ok (.iload_n 1, 1) := by decide +kernel
theorem dX4_join_5 : decode cX4_join 5 = .ok (.iaload, 1) := by decide +kernel
theorem dX4_join_6 : decode cX4_join 6 = .ok (.aload_n 0, 1) := by decide +kernel
theorem dX4_join_7 : decode cX4_join 7 = .ok (.getfield 18, 3) := by decide +kernel
theorem dX4_join_10 : decode cX4_join 10 = .ok (.iload_n 2, 1) := by decide +kernel
theorem dX4_join_11 : decode cX4_join 11 = .ok (.iaload, 1) := by decide +kernel
theorem dX4_join_12 : decode cX4_join 12 = .ok (.invokestatic 103, 3) := by decide +kernel
theorem dX4_join_15 : decode cX4_join 15 = .ok (.istore 4, 2) := by decide +kernel
theorem dX4_join_17 : decode cX4_join 17 = .ok (.aload_n 0, 1) := by decide +kernel
theorem dX4_join_18 : decode cX4_join 18 = .ok (.getfield 18, 3) := by decide +kernel
theorem dX4_join_21 : decode cX4_join 21 = .ok (.iload_n 1, 1) := by decide +kernel
theorem dX4_join_22 : decode cX4_join 22 = .ok (.iaload, 1) := by decide +kernel
theorem dX4_join_23 : decode cX4_join 23 = .ok (.aload_n 0, 1) := by decide +kernel
theorem dX4_join_24 : decode cX4_join 24 = .ok (.getfield 18, 3) := by decide +kernel
theorem dX4_join_27 : decode cX4_join 27 = .ok (.iload_n 2, 1) := by decide +kernel
theorem dX4_join_28 : decode cX4_join 28 = .ok (.iaload, 1) := by decide +kernel
theorem dX4_join_29 : decode cX4_join 29 = .ok (.invokestatic 108, 3) := by decide +kernel
theorem dX4_join_32 : decode cX4_join 32 = .ok (.istore 5, 2) := by decide +kernel
theorem dX4_join_34 : decode cX4_join 34 = .ok (.iload 4, 2) := by decide +kernel
theorem dX4_join_36 : decode cX4_join 36 = .ok (.iload 5, 2) := by decide +kernel
theorem dX4_join_38 : decode cX4_join 38 = .ok (.if_icmp .ne 4, 3) := by decide +kernel
theorem dX4_join_41 : decode cX4_join 41 = .ok (.return_, 1) := by decide +kernel
theorem dX4_join_42 : decode cX4_join 42 = .ok (.iconst 0, 1) := by decide +kernel
theorem dX4_join_43 : decode cX4_join 43 = .ok (.istore 6, 2) := by decide +kernel
theorem dX4_join_45 : decode cX4_join 45 = .ok (.iload 6, 2) := by decide +kernel
theorem dX4_join_47 : decode cX4_join 47 = .ok (.aload_n 0, 1) := by decide +kernel
theorem dX4_join_48 : decode cX4_join 48 = .ok (.getfield 12, 3) := by decide +kernel
theorem dX4_join_51 : decode cX4_join 51 = .ok (.getfield 42, 3) := by decide +kernel
theorem dX4_join_54 : decode cX4_join 54 = .ok (.if_icmp .ge 41, 3) := by decide +kernel
theorem dX4_join_57 : decode cX4_join 57 = .ok (.aload_n 0, 1) := by decide +kernel
theorem dX4_join_58 : decode cX4_join 58 = .ok (.getfield 18, 3) := by decide +kernel
theorem dX4_join_61 : decode cX4_join 61 = .ok (.iload 6, 2) := by decide +kernel
theorem dX4_join_63 : decode cX4_join 63 = .ok (.iaload, 1) := by decide +kernel
theorem dX4_join_64 : decode cX4_join 64 = .ok (.iload 5, 2) := by decide +kernel
theorem dX4_join_66 : decode cX4_join 66 = .ok (.if_icmp .ne 23, 3) := by decide +kernel
theorem dX4_join_69 : decode cX4_join 69 = .ok (.aload_n 0, 1) := by decide +kernel
theorem dX4_join_70 : decode cX4_join 70 = .ok (.getfield 18, 3) := by decide +kernel
theorem dX4_join_73 : decode cX4_join 73 = .ok (.iload 6, 2) := by decide +kernel
theorem dX4_join_75 : decode cX4_join 75 = .ok (.iload 4, 2) := by decide +kernel
theorem dX4_join_77 : decode cX4_join 77 = .ok (.iastore, 1) := by decide +kernel
theorem dX4_join_78 : decode cX4_join 78 = .ok (.aload_n 0, 1) := by decide +kernel
theorem dX4_join_79 : decode cX4_join 79 = .ok (.getfield 22, 3) := by decide +kernel
theorem dX4_join_82 : decode cX4_join 82 = .ok (.iload 6, 2) := by decide +kernel
theorem dX4_join_84 : decode cX4_join 84 = .ok (.dup2, 1) := by decide +kernel
theorem dX4_join_85 : decode cX4_join 85 = .ok (.iaload, 1) := by decide +kernel
theorem dX4_join_86 : decode cX4_join 86 = .ok (.iload_n 3, 1) := by decide +kernel
theorem dX4_join_87 : decode cX4_join 87 = .ok (.imul, 1) := by decide +kernel
theorem dX4_join_88 : decode cX4_join 88 = .ok (.iastore, 1) := by decide +kernel
theorem dX4_join_89 : decode cX4_join 89 = .ok (.iinc 6 1, 3) := by decide +kernel
theorem dX4_join_92 : decode cX4_join 92 = .ok (.goto (-47), 3) := by decide +kernel
theorem dX4_join_95 : decode cX4_join 95 = .ok (.return_, 1) := by decide +kernel
set_option maxRecDepth 20000 in
theorem ggX4_canBeArc_X6_isWithin : GoodIn wsX4_canBeArc wsX6_isWithin := goodIn_r _ [6] (by decide +kernel) (by decide +kernel)
set_option maxRecDepth 20000 in
theorem gX4_canBeArc_X6_isWithin_n111 : GoodIn wsX4_canBeArc (wsX6_isWithin) := ggX4_canBeArc_X6_isWithin
set_option maxRecDepth 20000 in
theorem ggX4_canBeArc_X5_countTerms : GoodIn wsX4_canBeArc wsX5_countTerms := goodIn_r _ [11, 12, 13, 19, 20, 21, 22, 23, 24, 25, 26] (by decide +kernel) (by decide +kernel)
set_option maxRecDepth 20000 in
theorem gX4_canBeArc_X5_countTerms : GoodIn wsX4_canBeArc (wsV RX4 114 RX5 yX5_countTerms wsX5_countTerms) := goodIn_app (goodIn_of _ (by decide +kernel)) ggX4_canBeArc_X5_countTerms
theorem dX4_canBeArc_0 : decode cX4_canBeArc 0 = .ok (.iconst 0, 1) := by decide +kernel
theorem dX4_canBeArc_1 : decode cX4_canBeArc 1 = .ok (.istore_n 2, 1) := by decide +kernel
theorem dX4_canBeArc_2 : decode cX4_canBeArc 2 = .ok (.iload_n 2, 1) := by decide +kernel
theorem dX4_canBeArc_3 : decode cX4_canBeArc 3 = .ok (.aload_n 0, 1) := by decide +kernel
theorem dX4_canBeArc_4 : decode cX4_canBeArc 4 = .ok (.getfield 12, 3) := by decide +kernel
theorem dX4_canBeArc_7 : decode cX4_canBeArc 7 = .ok (.getfield 42, 3) := by decide +kernel
theorem dX4_canBeArc_10 : decode cX4_canBeArc 10 = .ok (.if_icmp .ge 29, 3) := by decide +kernel
theorem dX4_canBeArc_13 : decode cX4_canBeArc 13 = .ok (.aload_n 0, 1) := by decide +kernel
theorem dX4_canBeArc_14 : decode cX4_canBeArc 14 = .ok (.getfield 12, 3) := by decide +kernel
theorem dX4_canBeArc_17 : decode cX4_canBeArc 17 = .ok (.getfield 71, 3) := by decide +kernel
theorem dX4_canBeArc_20 : decode cX4_canBeArc 20 = .ok (.iload_n 2, 1) := by decide +kernel
theorem dX4_canBeArc_21 : decode cX4_canBeArc 21 = .ok (.aaload, 1) := by decide +kernel
theorem dX4_canBeArc_22 : decode cX4_canBeArc 22 = .ok (.iload_n 1, 1) := by decide +kernel
theorem dX4_canBeArc_23 : decode cX4_canBeArc 23 = .ok (.iaload, 1) := by decide +kernel
theorem dX4_canBeArc_24 : decode cX4_canBeArc 24 = .ok (.iconst 1, 1) := by decide +kernel
theorem dX4_canBeArc_25 : decode cX4_canBeArc 25 = .ok (.invokestatic 111, 3) := by decide +kernel
theorem dX4_canBeArc_28 : decode cX4_canBeArc 28 = .ok (.ifCond .ne 5, 3) := by decide +kernel
theorem dX4_canBeArc_31 : decode cX4_canBeArc 31 = .ok (.iconst 0, 1) := by decide +kernel
theorem dX4_canBeArc_32 : decode cX4_canBeArc 32 = .ok (.ireturn, 1) := by decide +kernel
theorem dX4_canBeArc_33 : decode cX4_canBeArc 33 = .ok (.iinc 2 1, 3) := by decide +kernel
theorem dX4_canBeArc_36 : decode cX4_canBeArc 36 = .ok (.goto (-34), 3) := by decide +kernel
theorem dX4_canBeArc_39 : decode cX4_canBeArc 39 = .ok (.aload_n 0, 1) := by decide +kernel
theorem dX4_canBeArc_40 : decode cX4_canBeArc 40 = .ok (.getfield 12, 3) := by decide +kernel
theorem dX4_canBeArc_43 : decode cX4_canBeArc 43 = .ok (.iload_n 1, 1) := by decide +kernel
theorem dX4_canBeArc_44 : decode cX4_canBeArc 44 = .ok (.invokevirtual 114, 3) := by decide +kernel
theorem dX4_canBeArc_47 : decode cX4_canBeArc 47 = .ok (.iconst 2, 1) := by decide +kernel
theorem dX4_canBeArc_48 : decode cX4_canBeArc 48 = .ok (.if_icmp .gt 7, 3) := by decide +kernel
theorem dX4_canBeArc_51 : decode cX4_canBeArc 51 = .ok (.iconst 1, 1) := by decide +kernel
theorem dX4_canBeArc_52 : decode cX4_canBeArc 52 = .ok (.goto 4, 3) := by decide +kernel
theorem dX4_canBeArc_55 : decode cX4_canBeArc 55 = .ok (.iconst 0, 1) := by decide +kernel
theorem dX4_canBeArc_56 : decode cX4_canBeArc 56 = .ok (.ireturn, 1) := by decide +kernel
set_option maxRecDepth 20000 in
theorem ggX4_takeArc_X5_nextTerm : GoodIn wsX4_takeArc wsX5_nextTerm := goodIn_r _ [9, 10, 11, 30, 31, 32, 33, 34, 35, 36, 37] (by decide +kernel) (by decide +kernel)
set_option maxRecDepth 20000 in
theorem gX4_takeArc_X5_nextTerm : GoodIn wsX4_takeArc (wsV RX4 95 RX5 yX5_nextTerm wsX5_nextTerm) := goodIn_app (goodIn_of _ (by decide +kernel)) ggX4_takeArc_X5_nextTerm
set_option maxRecDepth 20000 in
theorem ggX4_takeArc_X4_join : GoodIn wsX4_takeArc wsX4_join := goodIn_r _ [16, 4, 17, 18, 19, 20, 21, 22, 23, 1, 24, 2, 25, 26, 27, 28, 29, 30, 31, 32, 33, 34, 35, 36, 37] (by decide +kernel) (by decide +kernel)
set_option maxRecDepth 20000 in
theorem gX4_takeArc_X4_join : GoodIn wsX4_takeArc (wsV RX4 99 RX4 yX4_join wsX4_join) := goodIn_app (goodIn_of _ (by decide +kernel)) ggX4_takeArc_X4_join
theorem dX4_takeArc_0 : decode cX4_takeArc 0 = .ok (.aload_n 0, 1) := by decide +kernel
theorem dX4_takeArc_1 : decode cX4_takeArc 1 = .ok (.getfield 12, 3) := by decide +kernel
theorem dX4_takeArc_4 : decode cX4_takeArc 4 = .ok (.iload_n 1, 1) := by decide +kernel
theorem dX4_takeArc_5 : decode cX4_takeArc 5 = .ok (.iconst 0, 1) := by decide +kernel
theorem dX4_takeArc_6 : decode cX4_takeArc 6 = .ok (.invokevirtual 95, 3) := by decide +kernel
theorem dX4_takeArc_9 : decode cX4_takeArc 9 = .ok (.istore_n 2, 1) := by decide +kernel
theorem dX4_takeArc_10 : decode cX4_takeArc 10 = .ok (.iload_n 2, 1) := by decide +kernel
theorem dX4_takeArc_11 : decode cX4_takeArc 11 = .ok (.iconst (-1), 1) := by decide +kernel
theorem dX4_takeArc_12 : decode cX4_takeArc 12 = .ok (.if_icmp .ne 7, 3) := by decide +kernel
theorem dX4_takeArc_15 : decode cX4_takeArc 15 = .ok (.iconst (-1), 1) := by decide +kernel
theorem dX4_takeArc_16 : decode cX4_takeArc 16 = .ok (.goto 14, 3) := by decide +kernel
theorem dX4_takeArc_19 : decode cX4_takeArc 19 = .ok (.aload_n 0, 1) := by decide +kernel
theorem dX4_takeArc_20 : decode cX4_takeArc 20 = .ok (.getfield 12, 3) := by decide +kernel
theorem dX4_takeArc_23 : decode cX4_takeArc 23 = .ok (.iload_n 1, 1) := by decide +kernel
theorem dX4_takeArc_24 : decode cX4_takeArc 24 = .ok (.iload_n 2, 1) := by decide +kernel
theorem dX4_takeArc_25 : decode cX4_takeArc 25 = .ok (.iconst 1, 1) := by decide +kernel
theorem dX4_takeArc_26 : decode cX4_takeArc 26 = .ok (.iadd, 1) := by decide +kernel
theorem dX4_takeArc_27 : decode cX4_takeArc 27 = .ok (.invokevirtual 95, 3) := by decide +kernel
theorem dX4_takeArc_30 : decode cX4_takeArc 30 = .ok (.istore_n 3, 1) := by decide +kernel
theorem dX4_takeArc_31 : decode cX4_takeArc 31 = .ok (.iload_n 3, 1) := by decide +kernel
theorem dX4_takeArc_32 : decode cX4_takeArc 32 = .ok (.iconst (-1), 1) := by decide +kernel
theorem dX4_takeArc_33 : decode cX4_takeArc 33 = .ok (.if_icmp .ne 5, 3) := by decide +kernel
theorem dX4_takeArc_36 : decode cX4_takeArc 36 = .ok (.iconst 1, 1) := by decide +kernel
theorem dX4_takeArc_37 : decode cX4_takeArc 37 = .ok (.ireturn, 1) := by decide +kernel
theorem dX4_takeArc_38 : decode cX4_takeArc 38 = .ok (.aload_n 0, 1) := by decide +kernel
theorem dX4_takeArc_39 : decode cX4_takeArc 39 = .ok (.getfield 22, 3) := by decide +kernel
theorem dX4_takeArc_42 : decode cX4_takeArc 42 = .ok (.iload_n 2, 1) := by decide +kernel
theorem dX4_takeArc_43 : decode cX4_takeArc 43 = .ok (.iaload, 1) := by decide +kernel
theorem dX4_takeArc_44 : decode cX4_takeArc 44 = .ok (.aload_n 0, 1) := by decide +kernel
theorem dX4_takeArc_45 : decode cX4_takeArc 45 = .ok (.getfield 12, 3) := by decide +kernel
theorem dX4_takeArc_48 : decode cX4_takeArc 48 = .ok (.getfield 71, 3) := by decide +kernel
theorem dX4_takeArc_51 : decode cX4_takeArc 51 = .ok (.iload_n 2, 1) := by decide +kernel
theorem dX4_takeArc_52 : decode cX4_takeArc 52 = .ok (.aaload, 1) := by decide +kernel
theorem dX4_takeArc_53 : decode cX4_takeArc 53 = .ok (.iload_n 1, 1) := by decide +kernel
theorem dX4_takeArc_54 : decode cX4_takeArc 54 = .ok (.iaload, 1) := by decide +kernel
theorem dX4_takeArc_55 : decode cX4_takeArc 55 = .ok (.imul, 1) := by decide +kernel
theorem dX4_takeArc_56 : decode cX4_takeArc 56 = .ok (.aload_n 0, 1) := by decide +kernel
theorem dX4_takeArc_57 : decode cX4_takeArc 57 = .ok (.getfield 22, 3) := by decide +kernel
theorem dX4_takeArc_60 : decode cX4_takeArc 60 = .ok (.iload_n 3, 1) := by decide +kernel
theorem dX4_takeArc_61 : decode cX4_takeArc 61 = .ok (.iaload, 1) := by decide +kernel
theorem dX4_takeArc_62 : decode cX4_takeArc 62 = .ok (.aload_n 0, 1) := by decide +kernel
theorem dX4_takeArc_63 : decode cX4_takeArc 63 = .ok (.getfield 12, 3) := by decide +kernel
theorem dX4_takeArc_66 : decode cX4_takeArc 66 = .ok (.getfield 71, 3) := by decide +kernel
theorem dX4_takeArc_69 : decode cX4_takeArc 69 = .ok (.iload_n 3, 1) := by decide +kernel
theorem dX4_takeArc_70 : decode cX4_takeArc 70 = .ok (.aaload, 1) := by decide +kernel
theorem dX4_takeArc_71 : decode cX4_takeArc 71 = .ok (.iload_n 1, 1) := by decide +kernel
theorem dX4_takeArc_72 : decode cX4_takeArc 72 = .ok (.iaload, 1) := by decide +kernel
theorem dX4_takeArc_73 : decode cX4_takeArc 73 = .ok (.imul, 1) := by decide +kernel
theorem dX4_takeArc_74 : decode cX4_takeArc 74 = .ok (.iadd, 1) := by decide +kernel
theorem dX4_takeArc_75 : decode cX4_takeArc 75 = .ok (.ifCond .ne 7, 3) := by decide +kernel
theorem dX4_takeArc_78 : decode cX4_takeArc 78 = .ok (.iconst 1, 1) := by decide +kernel
theorem dX4_takeArc_79 : decode cX4_takeArc 79 = .ok (.goto 4, 3) := by decide +kernel
theorem dX4_takeArc_82 : decode cX4_takeArc 82 = .ok (.iconst 0, 1) := by decide +kernel
theorem dX4_takeArc_83 : decode cX4_takeArc 83 = .ok (.istore 4, 2) := by decide +kernel
theorem dX4_takeArc_85 : decode cX4_takeArc 85 = .ok (.aload_n 0, 1) := by decide +kernel
theorem dX4_takeArc_86 : decode cX4_takeArc 86 = .ok (.getfield 18, 3) := by decide +kernel
theorem dX4_takeArc_89 : decode cX4_takeArc 89 = .ok (.iload_n 2, 1) := by decide +kernel
theorem dX4_takeArc_90 : decode cX4_takeArc 90 = .ok (.iaload, 1) := by decide +kernel
theorem dX4_takeArc_91 : decode cX4_takeArc 91 = .ok (.aload_n 0, 1) := by decide +kernel
theorem dX4_takeArc_92 : decode cX4_takeArc 92 = .ok (.getfield 18, 3) := by decide +kernel
theorem dX4_takeArc_95 : decode cX4_takeArc 95 = .ok (.iload_n 3, 1) := by decide +kernel
theorem dX4_takeArc_96 : decode cX4_takeArc 96 = .ok (.iaload, 1) := by decide +kernel
theorem dX4_takeArc_97 : decode cX4_takeArc 97 = .ok (.if_icmp .ne 6, 3) := by decide +kernel
theorem dX4_takeArc_100 : decode cX4_takeArc 100 = .ok (.iload 4, 2) := by decide +kernel
theorem dX4_takeArc_102 : decode cX4_takeArc 102 = .ok (.ireturn, 1) := by decide +kernel
theorem dX4_takeArc_103 : decode cX4_takeArc 103 = .ok (.aload_n 0, 1) := by decide +kernel
theorem dX4_takeArc_104 : decode cX4_takeArc 104 = .ok (.iload_n 2, 1) := by decide +kernel
theorem dX4_takeArc_105 : decode cX4_takeArc 105 = .ok (.iload_n 3, 1) := by decide +kernel
theorem dX4_takeArc_106 : decode cX4_takeArc 106 = .ok (.iload 4, 2) := by decide +kernel
theorem dX4_takeArc_108 : decode cX4_takeArc 108 = .ok (.ifCond .eq 7, 3) := by decide +kernel
theorem dX4_takeArc_111 : decode cX4_takeArc 111 = .ok (.iconst 1, 1) := by decide +kernel
theorem dX4_takeArc_112 : decode cX4_takeArc 112 = .ok (.goto 4, 3) := by decide +kernel
theorem dX4_takeArc_115 : decode cX4_takeArc 115 = .ok (.iconst (-1), 1) := by decide +kernel
theorem dX4_takeArc_116 : decode cX4_takeArc 116 = .ok (.invokevirtual 99, 3) := by decide +kernel
theorem dX4_takeArc_119 : decode cX4_takeArc 119 = .ok (.iconst 1, 1) := by decide +kernel
theorem dX4_takeArc_120 : decode cX4_takeArc 120 = .ok (.ireturn, 1) := by decide +kernel
theorem dX4_isInterval_0 : decode cX4_isInterval 0 = .ok (.iconst 0, 1) := by decide +kernel
theorem dX4_isInterval_1 : decode cX4_isInterval 1 = .ok (.istore_n 2, 1) := by decide +kernel
theorem dX4_isInterval_2 : decode cX4_isInterval 2 = .ok (.iconst 0, 1) := by decide +kernel
theorem dX4_isInterval_3 : decode cX4_isInterval 3 = .ok (.istore_n 3, 1) := by decide +kernel
theorem dX4_isInterval_4 : decode cX4_isInterval 4 = .ok (.iconst 0, 1) := by decide +kernel
theorem dX4_isInterval_5 : decode cX4_isInterval 5 = .ok (.istore 4, 2) := by decide +kernel
theorem dX4_isInterval_7 : decode cX4_isInterval 7 = .ok (.iload 4, 2) := by decide +kernel
theorem dX4_isInterval_9 : decode cX4_isInterval 9 = .ok (.aload_n 0, 1) := by decide +kernel
theorem dX4_isInterval_10 : decode cX4_isInterval 10 = .ok (.getfield 12, 3) := by decide +kernel
theorem dX4_isInterval_13 : decode cX4_isInterval 13 = .ok (.getfield 42, 3) := by decide +kernel
theorem dX4_isInterval_16 : decode cX4_isInterval 16 = .ok (.if_icmp .ge 48, 3) := by decide +kernel
theorem dX4_isInterval_19 : decode cX4_isInterval 19 = .ok (.aload_n 0, 1) := by decide +kernel
theorem dX4_isInterval_20 : decode cX4_isInterval 20 = .ok (.getfield 12, 3) := by decide +kernel
theorem dX4_isInterval_23 : decode cX4_isInterval 23 = .ok (.getfield 71, 3) := by decide +kernel
theorem dX4_isInterval_26 : decode cX4_isInterval 26 = .ok (.iload 4, 2) := by decide +kernel
theorem dX4_isInterval_28 : decode cX4_isInterval 28 = .ok (.aaload, 1) := by decide +kernel
theorem dX4_isInterval_29 : decode cX4_isInterval 29 = .ok (.iload_n 1, 1) := by decide +kernel
theorem dX4_isInterval_30 : decode cX4_isInterval 30 = .ok (.iaload, 1) := by decide +kernel
theorem dX4_isInterval_31 : decode cX4_isInterval 31 = .ok (.istore 5, 2) := by decide +kernel
theorem dX4_isInterval_33 : decode cX4_isInterval 33 = .ok (.iload 5, 2) := by decide +kernel
theorem dX4_isInterval_35 : decode cX4_isInterval 35 = .ok (.ifCond .eq 11, 3) := by decide +kernel
theorem dX4_isInterval_38 : decode cX4_isInterval 38 = .ok (.iload 5, 2) := by decide +kernel
theorem dX4_isInterval_40 : decode cX4_isInterval 40 = .ok (.iconst 1, 1) := by decide +kernel
theorem dX4_isInterval_41 : decode cX4_isInterval 41 = .ok (.if_icmp .eq 5, 3) := by decide +kernel
theorem dX4_isInterval_44 : decode cX4_isInterval 44 = .ok (.iconst 0, 1) := by decide +kernel
theorem dX4_isInterval_45 : decode cX4_isInterval 45 = .ok (.ireturn, 1) := by decide +kernel
theorem dX4_isInterval_46 : decode cX4_isInterval 46 = .ok (.iload 5, 2) := by decide +kernel
theorem dX4_isInterval_48 : decode cX4_isInterval 48 = .ok (.iload_n 3, 1) := by decide +kernel
theorem dX4_isInterval_49 : decode cX4_isInterval 49 = .ok (.if_icmp .le 6, 3) := by decide +kernel
theorem dX4_isInterval_52 : decode cX4_isInterval 52 = .ok (.iinc 2 1, 3) := by decide +kernel
theorem dX4_isInterval_55 : decode cX4_isInterval 55 = .ok (.iload 5, 2) := by decide +kernel
theorem dX4_isInterval_57 : decode cX4_isInterval 57 = .ok (.istore_n 3, 1) := by decide +kernel
theorem dX4_isInterval_58 : decode cX4_isInterval 58 = .ok (.iinc 4 1, 3) := by decide +kernel
theorem dX4_isInterval_61 : decode cX4_isInterval 61 = .ok (.goto (-54), 3) := by decide +kernel
theorem dX4_isInterval_64 : decode cX4_isInterval 64 = .ok (.iload_n 2, 1) := by decide +kernel
theorem dX4_isInterval_65 : decode cX4_isInterval 65 = .ok (.iconst 1, 1) := by decide +kernel
theorem dX4_isInterval_66 : decode cX4_isInterval 66 = .ok (.if_icmp .gt 7, 3) := by decide +kernel
theorem dX4_isInterval_69 : decode cX4_isInterval 69 = .ok (.iconst 1, 1) := by decide +kernel
theorem dX4_isInterval_70 : decode cX4_isInterval 70 = .ok (.goto 4, 3) := by decide +kernel
theorem dX4_isInterval_73 : decode cX4_isInterval 73 = .ok (.iconst 0, 1) := by decide +kernel
theorem dX4_isInterval_74 : decode cX4_isInterval 74 = .ok (.ireturn, 1) := by decide +kernel
theorem dX4_noteSides_0 : decode cX4_noteSides 0 = .ok (.iconst 0, 1) := by decide +kernel
theorem dX4_noteSides_1 : decode cX4_noteSides 1 = .ok (.istore_n 1, 1) := by decide +kernel
theorem dX4_noteSides_2 : decode cX4_noteSides 2 = .ok (.iload_n 1, 1) := by decide +kernel
theorem dX4_noteSides_3 : decode cX4_noteSides 3 = .ok (.aload_n 0, 1) := by decide +kernel
theorem dX4_noteSides_4 : decode cX4_noteSides 4 = .ok (.getfield 12, 3) := by decide +kernel
theorem dX4_noteSides_7 : decode cX4_noteSides 7 = .ok (.getfield 34, 3) := by decide +kernel
theorem dX4_noteSides_10 : decode cX4_noteSides 10 = .ok (.if_icmp .ge 94, 3) := by decide +kernel
theorem dX4_noteSides_13 : decode cX4_noteSides 13 = .ok (.iconst 0, 1) := by decide +kernel
theorem dX4_noteSides_14 : decode cX4_noteSides 14 = .ok (.istore_n 2, 1) := by decide +kernel
theorem dX4_noteSides_15 : decode cX4_noteSides 15 = .ok (.iconst 0, 1) := by decide +kernel
theorem dX4_noteSides_16 : decode cX4_noteSides 16 = .ok (.istore_n 3, 1) := by decide +kernel
theorem dX4_noteSides_17 : decode cX4_noteSides 17 = .ok (.iconst 0, 1) := by decide +kernel
theorem dX4_noteSides_18 : decode cX4_noteSides 18 = .ok (.istore 4, 2) := by decide +kernel
theorem dX4_noteSides_20 : decode cX4_noteSides 20 = .ok (.iload 4, 2) := by decide +kernel
theorem dX4_noteSides_22 : decode cX4_noteSides 22 = .ok (.aload_n 0, 1) := by decide +kernel
theorem dX4_noteSides_23 : decode cX4_noteSides 23 = .ok (.getfield 12, 3) := by decide +kernel
theorem dX4_noteSides_26 : decode cX4_noteSides 26 = .ok (.getfield 42, 3) := by decide +kernel
theorem dX4_noteSides_29 : decode cX4_noteSides 29 = .ok (.if_icmp .ge 55, 3) := by decide +kernel
theorem dX4_noteSides_32 : decode cX4_noteSides 32 = .ok (.aload_n 0, 1) := by decide +kernel
theorem dX4_noteSides_33 : decode cX4_noteSides 33 = .ok (.getfield 12, 3) := by decide +kernel
theorem dX4_noteSides_36 : decode cX4_noteSides 36 = .ok (.getfield 71, 3) := by decide +kernel
theorem dX4_noteSides_39 : decode cX4_noteSides 39 = .ok (.iload 4, 2) := by decide +kernel
theorem dX4_noteSides_41 : decode cX4_noteSides 41 = .ok (.aaload, 1) := by decide +kernel
theorem dX4_noteSides_42 : decode cX4_noteSides 42 = .ok (.iload_n 1, 1) := by decide +kernel
theorem dX4_noteSides_43 : decode cX4_noteSides 43 = .ok (.iaload, 1) := by decide +kernel
theorem dX4_noteSides_44 : decode cX4_noteSides 44 = .ok (.istore 5, 2) := by decide +kernel
theorem dX4_noteSides_46 : decode cX4_noteSides 46 = .ok (.iload_n 2, 1) := by decide +kernel
theorem dX4_noteSides_47 : decode cX4_noteSides 47 = .ok (.iload 5, 2) := by decide +kernel
theorem dX4_noteSides_49 : decode cX4_noteSides 49 = .ok (.ifCond .le 10, 3) := by decide +kernel
theorem dX4_noteSides_52 : decode cX4_noteSides 52 = .ok (.iconst 1, 1) := by decide +kernel
theorem dX4_noteSides_53 : decode cX4_noteSides 53 = .ok (.iload 4, 2) := by decide +kernel
theorem dX4_noteSides_55 : decode cX4_noteSides 55 = .ok (.ishl, 1) := by decide +kernel
theorem dX4_noteSides_56 : decode cX4_noteSides 56 = .ok (.goto 4, 3) := by decide +kernel
theorem dX4_noteSides_59 : decode cX4_noteSides 59 = .ok (.iconst 0, 1) := by decide +kernel
theorem dX4_noteSides_60 : decode cX4_noteSides 60 = .ok (.ior, 1) := by decide +kernel
theorem dX4_noteSides_61 : decode cX4_noteSides 61 = .ok (.istore_n 2, 1) := by decide +kernel
theorem dX4_noteSides_62 : decode cX4_noteSides 62 = .ok (.iload_n 3, 1) := by decide +kernel
theorem dX4_noteSides_63 : decode cX4_noteSides 63 = .ok (.iload 5, 2) := by decide +kernel
theorem dX4_noteSides_65 : decode cX4_noteSides 65 = .ok (.ifCond .ge 10, 3) := by decide +kernel
theorem dX4_noteSides_68 : decode cX4_noteSides 68 = .ok (.iconst 1, 1) := by decide +kernel
theorem dX4_noteSides_69 : decode cX4_noteSides 69 = .ok (.iload 4, 2) := by decide +kernel
theorem dX4_noteSides_71 : decode cX4_noteSides 71 = .ok (.ishl, 1) := by decide +kernel
theorem dX4_noteSides_72 : decode cX4_noteSides 72 = .ok (.goto 4, 3) := by decide +kernel
theorem dX4_noteSides_75 : decode cX4_noteSides 75 = .ok (.iconst 0, 1) := by decide +kernel
theorem dX4_noteSides_76 : decode cX4_noteSides 76 = .ok (.ior, 1) := by decide +kernel
theorem dX4_noteSides_77 : decode cX4_noteSides 77 = .ok (.istore_n 3, 1) := by decide +kernel
theorem dX4_noteSides_78 : decode cX4_noteSides 78 = .ok (.iinc 4 1, 3) := by decide +kernel
theorem dX4_noteSides_81 : decode cX4_noteSides 81 = .ok (.goto (-61), 3) := by decide +kernel
theorem dX4_noteSides_84 : decode cX4_noteSides 84 = .ok (.aload_n 0, 1) := by decide +kernel
theorem dX4_noteSides_85 : decode cX4_noteSides 85 = .ok (.getfield 25, 3) := by decide +kernel
theorem dX4_noteSides_88 : decode cX4_noteSides 88 = .ok (.iload_n 1, 1) := by decide +kernel
theorem dX4_noteSides_89 : decode cX4_noteSides 89 = .ok (.iload_n 2, 1) := by decide +kernel
theorem dX4_noteSides_90 : decode cX4_noteSides 90 = .ok (.iastore, 1) := by decide +kernel
theorem dX4_noteSides_91 : decode cX4_noteSides 91 = .ok (.aload_n 0, 1) := by decide +kernel
theorem dX4_noteSides_92 : decode cX4_noteSides 92 = .ok (.getfield 28, 3) := by decide +kernel
theorem dX4_noteSides_95 : decode cX4_noteSides 95 = .ok (.iload_n 1, 1) := by decide +kernel
theorem dX4_noteSides_96 : decode cX4_noteSides 96 = .ok (.iload_n 3, 1) := by decide +kernel
theorem dX4_noteSides_97 : decode cX4_noteSides 97 = .ok (.iastore, 1) := by decide +kernel
theorem dX4_noteSides_98 : decode cX4_noteSides 98 = .ok (.iinc 1 1, 3) := by decide +kernel
theorem dX4_noteSides_101 : decode cX4_noteSides 101 = .ok (.goto (-99), 3) := by decide +kernel
theorem dX4_noteSides_104 : decode cX4_noteSides 104 = .ok (.return_, 1) := by decide +kernel
set_option maxRecDepth 20000 in
theorem ggX4_hasUnitTerms_X6_isWithin : GoodIn wsX4_hasUnitTerms wsX6_isWithin := goodIn_r _ [6] (by decide +kernel) (by decide +kernel)
set_option maxRecDepth 20000 in
theorem gX4_hasUnitTerms_X6_isWithin_n111 : GoodIn wsX4_hasUnitTerms (wsX6_isWithin) := ggX4_hasUnitTerms_X6_isWithin
theorem dX4_hasUnitTerms_0 : decode cX4_hasUnitTerms 0 = .ok (.iconst 0, 1) := by decide +kernel
theorem dX4_hasUnitTerms_1 : decode cX4_hasUnitTerms 1 = .ok (.istore_n 2, 1) := by decide +kernel
theorem dX4_hasUnitTerms_2 : decode cX4_hasUnitTerms 2 = .ok (.iload_n 2, 1) := by decide +kernel
theorem dX4_hasUnitTerms_3 : decode cX4_hasUnitTerms 3 = .ok (.aload_n 0, 1) := by decide +kernel
theorem dX4_hasUnitTerms_4 : decode cX4_hasUnitTerms 4 = .ok (.getfield 12, 3) := by decide +kernel
theorem dX4_hasUnitTerms_7 : decode cX4_hasUnitTerms 7 = .ok (.getfield 34, 3) := by decide +kernel
theorem dX4_hasUnitTerms_10 : decode cX4_hasUnitTerms 10 = .ok (.if_icmp .ge 29, 3) := by decide +kernel
theorem dX4_hasUnitTerms_13 : decode cX4_hasUnitTerms 13 = .ok (.aload_n 0, 1) := by decide +kernel
theorem dX4_hasUnitTerms_14 : decode cX4_hasUnitTerms 14 = .ok (.getfield 12, 3) := by decide +kernel
theorem dX4_hasUnitTerms_17 : decode cX4_hasUnitTerms 17 = .ok (.getfield 71, 3) := by decide +kernel
theorem dX4_hasUnitTerms_20 : decode cX4_hasUnitTerms 20 = .ok (.iload_n 1, 1) := by decide +kernel
theorem dX4_hasUnitTerms_21 : decode cX4_hasUnitTerms 21 = .ok (.aaload, 1) := by decide +kernel
theorem dX4_hasUnitTerms_22 : decode cX4_hasUnitTerms 22 = .ok (.iload_n 2, 1) := by decide +kernel
theorem dX4_hasUnitTerms_23 : decode cX4_hasUnitTerms 23 = .ok (.iaload, 1) := by decide +kernel
theorem dX4_hasUnitTerms_24 : decode cX4_hasUnitTerms 24 = .ok (.iconst 1, 1) := by decide +kernel
theorem dX4_hasUnitTerms_25 : decode cX4_hasUnitTerms 25 = .ok (.invokestatic 111, 3) := by decide +kernel
theorem dX4_hasUnitTerms_28 : decode cX4_hasUnitTerms 28 = .ok (.ifCond .ne 5, 3) := by decide +kernel
theorem dX4_hasUnitTerms_31 : decode cX4_hasUnitTerms 31 = .ok (.iconst 0, 1) := by decide +kernel
theorem dX4_hasUnitTerms_32 : decode cX4_hasUnitTerms 32 = .ok (.ireturn, 1) := by decide +kernel
theorem dX4_hasUnitTerms_33 : decode cX4_hasUnitTerms 33 = .ok (.iinc 2 1, 3) := by decide +kernel
theorem dX4_hasUnitTerms_36 : decode cX4_hasUnitTerms 36 = .ok (.goto (-34), 3) := by decide +kernel
theorem dX4_hasUnitTerms_39 : decode cX4_hasUnitTerms 39 = .ok (.iconst 1, 1) := by decide +kernel
theorem dX4_hasUnitTerms_40 : decode cX4_hasUnitTerms 40 = .ok (.ireturn, 1) := by decide +kernel
set_option maxRecDepth 20000 in
theorem ggX4_canBeParted_X4_isParting : GoodIn wsX4_canBeParted wsX4_isParting := goodIn_r _ [5, 6, 7, 8, 9, 10, 11, 12, 13, 14, 15, 16, 17, 18, 19, 20, 21, 22, 23, 24, 25, 26, 27, 28, 29, 30, 31, 32] (by decide +kernel) (by decide +kernel)
set_option maxRecDepth 20000 in
theorem gX4_canBeParted_X4_isParting : GoodIn wsX4_canBeParted (wsV RX4 118 RX4 yX4_isParting wsX4_isParting) := goodIn_app (goodIn_of _ (by decide +kernel)) ggX4_canBeParted_X4_isParting
theorem dX4_canBeParted_0 : decode cX4_canBeParted 0 = .ok (.iload_n 1, 1) := by decide +kernel
theorem dX4_canBeParted_1 : decode cX4_canBeParted 1 = .ok (.istore_n 3, 1) := by decide +kernel
theorem dX4_canBeParted_2 : decode cX4_canBeParted 2 = .ok (.iload_n 3, 1) := by decide +kernel
theorem dX4_canBeParted_3 : decode cX4_canBeParted 3 = .ok (.ifCond .le 27, 3) := by decide +kernel
theorem dX4_canBeParted_6 : decode cX4_canBeParted 6 = .ok (.aload_n 0, 1) := by decide +kernel
theorem dX4_canBeParted_7 : decode cX4_canBeParted 7 = .ok (.iload_n 3, 1) := by decide +kernel
theorem dX4_canBeParted_8 : decode cX4_canBeParted 8 = .ok (.iload_n 1, 1) := by decide +kernel
theorem dX4_canBeParted_9 : decode cX4_canBeParted 9 = .ok (.iload_n 3, 1) := by decide +kernel
theorem dX4_canBeParted_10 : decode cX4_canBeParted 10 = .ok (.isub, 1) := by decide +kernel
theorem dX4_canBeParted_11 : decode cX4_canBeParted 11 = .ok (.iload_n 2, 1) := by decide +kernel
theorem dX4_canBeParted_12 : decode cX4_canBeParted 12 = .ok (.iadd, 1) := by decide +kernel
theorem dX4_canBeParted_13 : decode cX4_canBeParted 13 = .ok (.invokevirtual 118, 3) := by decide +kernel
theorem dX4_canBeParted_16 : decode cX4_canBeParted 16 = .ok (.ifCond .eq 5, 3) := by decide +kernel
theorem dX4_canBeParted_19 : decode cX4_canBeParted 19 = .ok (.iconst 1, 1) := by decide +kernel
theorem dX4_canBeParted_20 : decode cX4_canBeParted 20 = .ok (.ireturn, 1) := by decide +kernel
theorem dX4_canBeParted_21 : decode cX4_canBeParted 21 = .ok (.iload_n 3, 1) := by decide +kernel
theorem dX4_canBeParted_22 : decode cX4_canBeParted 22 = .ok (.iconst 1, 1) := by decide +kernel
theorem dX4_canBeParted_23 : decode cX4_canBeParted 23 = .ok (.isub, 1) := by decide +kernel
theorem dX4_canBeParted_24 : decode cX4_canBeParted 24 = .ok (.iload_n 1, 1) := by decide +kernel
theorem dX4_canBeParted_25 : decode cX4_canBeParted 25 = .ok (.iand, 1) := by decide +kernel
theorem dX4_canBeParted_26 : decode cX4_canBeParted 26 = .ok (.istore_n 3, 1) := by decide +kernel
theorem dX4_canBeParted_27 : decode cX4_canBeParted 27 = .ok (.goto (-25), 3) := by decide +kernel
theorem dX4_canBeParted_30 : decode cX4_canBeParted 30 = .ok (.aload_n 0, 1) := by decide +kernel
theorem dX4_canBeParted_31 : decode cX4_canBeParted 31 = .ok (.iconst 0, 1) := by decide +kernel
theorem dX4_canBeParted_32 : decode cX4_canBeParted 32 = .ok (.iload_n 1, 1) := by decide +kernel
theorem dX4_canBeParted_33 : decode cX4_canBeParted 33 = .ok (.iload_n 2, 1) := by decide +kernel
theorem dX4_canBeParted_34 : decode cX4_canBeParted 34 = .ok (.iadd, 1) := by decide +kernel
theorem dX4_canBeParted_35 : decode cX4_canBeParted 35 = .ok (.invokevirtual 118, 3) := by decide +kernel
theorem dX4_canBeParted_38 : decode cX4_canBeParted 38 = .ok (.ireturn, 1) := by decide +kernel
set_option maxRecDepth 20000 in
theorem ggX4_isParting_J6_bitCount_0f7a4 : GoodIn wsX4_isParting wsJ6_bitCount_0f7a4 := goodIn_r _ [8, 9, 10, 11] (by decide +kernel) (by decide +kernel)
set_option maxRecDepth 20000 in
theorem gX4_isParting_J6_bitCount_0f7a4 : GoodIn wsX4_isParting (va_wsS RX4 121 yJ6_bitCount_0f7a4 wsJ6_bitCount_0f7a4) := goodIn_app (goodIn_of _ (by decide +kernel)) ggX4_isParting_J6_bitCount_0f7a4
set_option maxRecDepth 20000 in
theorem ggX4_isParting_X6_isWithin : GoodIn wsX4_isParting wsX6_isWithin := goodIn_r _ [14] (by decide +kernel) (by decide +kernel)
set_option maxRecDepth 20000 in
theorem gX4_isParting_X6_isWithin_n111 : GoodIn wsX4_isParting (wsX6_isWithin) := ggX4_isParting_X6_isWithin
theorem dX4_isParting_0 : decode cX4_isParting 0 = .ok (.iconst 0, 1) := by decide +kernel
theorem dX4_isParting_1 : decode cX4_isParting 1 = .ok (.istore_n 3, 1) := by decide +kernel
theorem dX4_isParting_2 : decode cX4_isParting 2 = .ok (.iload_n 3, 1) := by decide +kernel
theorem dX4_isParting_3 : decode cX4_isParting 3 = .ok (.aload_n 0, 1) := by decide +kernel
theorem dX4_isParting_4 : decode cX4_isParting 4 = .ok (.getfield 12, 3) := by decide +kernel
theorem dX4_isParting_7 : decode cX4_isParting 7 = .ok (.getfield 34, 3) := by decide +kernel
theorem dX4_isParting_10 : decode cX4_isParting 10 = .ok (.if_icmp .ge 67, 3) := by decide +kernel
theorem dX4_isParting_13 : decode cX4_isParting 13 = .ok (.aload_n 0, 1) := by decide +kernel
theorem dX4_isParting_14 : decode cX4_isParting 14 = .ok (.getfield 25, 3) := by decide +kernel
theorem dX4_isParting_17 : decode cX4_isParting 17 = .ok (.iload_n 3, 1) := by decide +kernel
theorem dX4_isParting_18 : decode cX4_isParting 18 = .ok (.iaload, 1) := by decide +kernel
theorem dX4_isParting_19 : decode cX4_isParting 19 = .ok (.istore 4, 2) := by decide +kernel
theorem dX4_isParting_21 : decode cX4_isParting 21 = .ok (.aload_n 0, 1) := by decide +kernel
theorem dX4_isParting_22 : decode cX4_isParting 22 = .ok (.getfield 28, 3) := by decide +kernel
theorem dX4_isParting_25 : decode cX4_isParting 25 = .ok (.iload_n 3, 1) := by decide +kernel
theorem dX4_isParting_26 : decode cX4_isParting 26 = .ok (.iaload, 1) := by decide +kernel
theorem dX4_isParting_27 : decode cX4_isParting 27 = .ok (.istore 5, 2) := by decide +kernel
theorem dX4_isParting_29 : decode cX4_isParting 29 = .ok (.iload 4, 2) := by decide +kernel
theorem dX4_isParting_31 : decode cX4_isParting 31 = .ok (.iload_n 1, 1) := by decide +kernel
theorem dX4_isParting_32 : decode cX4_isParting 32 = .ok (.iand, 1) := by decide +kernel
theorem dX4_isParting_33 : decode cX4_isParting 33 = .ok (.iload 5, 2) := by decide +kernel
theorem dX4_isParting_35 : decode cX4_isParting 35 = .ok (.iload_n 2, 1) := by decide +kernel
theorem dX4_isParting_36 : decode cX4_isParting 36 = .ok (.iand, 1) := by decide +kernel
theorem dX4_isParting_37 : decode cX4_isParting 37 = .ok (.ior, 1) := by decide +kernel
theorem dX4_isParting_38 : decode cX4_isParting 38 = .ok (.invokestatic 121, 3) := by decide +kernel
theorem dX4_isParting_41 : decode cX4_isParting 41 = .ok (.istore 6, 2) := by decide +kernel
theorem dX4_isParting_43 : decode cX4_isParting 43 = .ok (.iload 4, 2) := by decide +kernel
theorem dX4_isParting_45 : decode cX4_isParting 45 = .ok (.iload_n 2, 1) := by decide +kernel
theorem dX4_isParting_46 : decode cX4_isParting 46 = .ok (.iand, 1) := by decide +kernel
theorem dX4_isParting_47 : decode cX4_isParting 47 = .ok (.iload 5, 2) := by decide +kernel
theorem dX4_isParting_49 : decode cX4_isParting 49 = .ok (.iload_n 1, 1) := by decide +kernel
theorem dX4_isParting_50 : decode cX4_isParting 50 = .ok (.iand, 1) := by decide +kernel
theorem dX4_isParting_51 : decode cX4_isParting 51 = .ok (.ior, 1) := by decide +kernel
theorem dX4_isParting_52 : decode cX4_isParting 52 = .ok (.invokestatic 121, 3) := by decide +kernel
theorem dX4_isParting_55 : decode cX4_isParting 55 = .ok (.istore 7, 2) := by decide +kernel
theorem dX4_isParting_57 : decode cX4_isParting 57 = .ok (.iload 6, 2) := by decide +kernel
theorem dX4_isParting_59 : decode cX4_isParting 59 = .ok (.iload 7, 2) := by decide +kernel
theorem dX4_isParting_61 : decode cX4_isParting 61 = .ok (.isub, 1) := by decide +kernel
theorem dX4_isParting_62 : decode cX4_isParting 62 = .ok (.iconst 1, 1) := by decide +kernel
theorem dX4_isParting_63 : decode cX4_isParting 63 = .ok (.invokestatic 111, 3) := by decide +kernel
theorem dX4_isParting_66 : decode cX4_isParting 66 = .ok (.ifCond .ne 5, 3) := by decide +kernel
theorem dX4_isParting_69 : decode cX4_isParting 69 = .ok (.iconst 0, 1) := by decide +kernel
theorem dX4_isParting_70 : decode cX4_isParting 70 = .ok (.ireturn, 1) := by decide +kernel
theorem dX4_isParting_71 : decode cX4_isParting 71 = .ok (.iinc 3 1, 3) := by decide +kernel
theorem dX4_isParting_74 : decode cX4_isParting 74 = .ok (.goto (-72), 3) := by decide +kernel
theorem dX4_isParting_77 : decode cX4_isParting 77 = .ok (.iconst 1, 1) := by decide +kernel
theorem dX4_isParting_78 : decode cX4_isParting 78 = .ok (.ireturn, 1) := by decide +kernel
theorem dX4_hasTermBelowZero_0 : decode cX4_hasTermBelowZero 0 = .ok (.iconst 0, 1) := by decide +kernel
theorem dX4_hasTermBelowZero_1 : decode cX4_hasTermBelowZero 1 = .ok (.istore_n 2, 1) := by decide +kernel
theorem dX4_hasTermBelowZero_2 : decode cX4_hasTermBelowZero 2 = .ok (.iload_n 2, 1) := by decide +kernel
theorem dX4_hasTermBelowZero_3 : decode cX4_hasTermBelowZero 3 = .ok (.aload_n 0, 1) := by decide +kernel
theorem dX4_hasTermBelowZero_4 : decode cX4_hasTermBelowZero 4 = .ok (.getfield 12, 3) := by decide +kernel
theorem dX4_hasTermBelowZero_7 : decode cX4_hasTermBelowZero 7 = .ok (.getfield 34, 3) := by decide +kernel
theorem dX4_hasTermBelowZero_10 : decode cX4_hasTermBelowZero 10 = .ok (.if_icmp .ge 25, 3) := by decide +kernel
theorem dX4_hasTermBelowZero_13 : decode cX4_hasTermBelowZero 13 = .ok (.aload_n 0, 1) := by decide +kernel
theorem dX4_hasTermBelowZero_14 : decode cX4_hasTermBelowZero 14 = .ok (.getfield 12, 3) := by decide +kernel
theorem dX4_hasTermBelowZero_17 : decode cX4_hasTermBelowZero 17 = .ok (.getfield 71, 3) := by decide +kernel
theorem dX4_hasTermBelowZero_20 : decode cX4_hasTermBelowZero 20 = .ok (.iload_n 1, 1) := by decide +kernel
theorem dX4_hasTermBelowZero_21 : decode cX4_hasTermBelowZero 21 = .ok (.aaload, 1) := by decide +kernel
theorem dX4_hasTermBelowZero_22 : decode cX4_hasTermBelowZero 22 = .ok (.iload_n 2, 1) := by decide +kernel
theorem dX4_hasTermBelowZero_23 : decode cX4_hasTermBelowZero 23 = .ok (.iaload, 1) := by decide +kernel
theorem dX4_hasTermBelowZero_24 : decode cX4_hasTermBelowZero 24 = .ok (.ifCond .ge 5, 3) := by decide +kernel
theorem dX4_hasTermBelowZero_27 : decode cX4_hasTermBelowZero 27 = .ok (.iconst 1, 1) := by decide +kernel
theorem dX4_hasTermBelowZero_28 : decode cX4_hasTermBelowZero 28 = .ok (.ireturn, 1) := by decide +kernel
theorem dX4_hasTermBelowZero_29 : decode cX4_hasTermBelowZero 29 = .ok (.iinc 2 1, 3) := by decide +kernel
theorem dX4_hasTermBelowZero_32 : decode cX4_hasTermBelowZero 32 = .ok (.goto (-30), 3) := by decide +kernel
theorem dX4_hasTermBelowZero_35 : decode cX4_hasTermBelowZero 35 = .ok (.iconst 0, 1) := by decide +kernel
theorem dX4_hasTermBelowZero_36 : decode cX4_hasTermBelowZero 36 = .ok (.ireturn, 1) := by decide +kernel
set_option maxRecDepth 20000 in
theorem ggX4_canBeWalked_X5_countTerms : GoodIn wsX4_canBeWalked wsX5_countTerms := goodIn_r _ [9, 10, 11, 17, 18, 19, 20, 21, 22, 23, 24] (by decide +kernel) (by decide +kernel)
set_option maxRecDepth 20000 in
theorem gX4_canBeWalked_X5_countTerms : GoodIn wsX4_canBeWalked (wsV RX4 114 RX5 yX5_countTerms wsX5_countTerms) := goodIn_app (goodIn_of _ (by decide +kernel)) ggX4_canBeWalked_X5_countTerms
theorem dX4_canBeWalked_0 : decode cX4_canBeWalked 0 = .ok (.aload_n 0, 1) := by decide +kernel
theorem dX4_canBeWalked_1 : decode cX4_canBeWalked 1 = .ok (.getfield 12, 3) := by decide +kernel
theorem dX4_canBeWalked_4 : decode cX4_canBeWalked 4 = .ok (.iload_n 1, 1) := by decide +kernel
theorem dX4_canBeWalked_5 : decode cX4_canBeWalked 5 = .ok (.invokevirtual 114, 3) := by decide +kernel
theorem dX4_canBeWalked_8 : decode cX4_canBeWalked 8 = .ok (.iconst 2, 1) := by decide +kernel
theorem dX4_canBeWalked_9 : decode cX4_canBeWalked 9 = .ok (.if_icmp .ne 44, 3) := by decide +kernel
theorem dX4_canBeWalked_12 : decode cX4_canBeWalked 12 = .ok (.aload_n 0, 1) := by decide +kernel
theorem dX4_canBeWalked_13 : decode cX4_canBeWalked 13 = .ok (.getfield 12, 3) := by decide +kernel
theorem dX4_canBeWalked_16 : decode cX4_canBeWalked 16 = .ok (.getfield 75, 3) := by decide +kernel
theorem dX4_canBeWalked_19 : decode cX4_canBeWalked 19 = .ok (.iload_n 1, 1) := by decide +kernel
theorem dX4_canBeWalked_20 : decode cX4_canBeWalked 20 = .ok (.iaload, 1) := by decide +kernel
theorem dX4_canBeWalked_21 : decode cX4_canBeWalked 21 = .ok (.ifCond .ne 32, 3) := by decide +kernel
theorem dX4_canBeWalked_24 : decode cX4_canBeWalked 24 = .ok (.aload_n 0, 1) := by decide +kernel
theorem dX4_canBeWalked_25 : decode cX4_canBeWalked 25 = .ok (.getfield 12, 3) := by decide +kernel
theorem dX4_canBeWalked_28 : decode cX4_canBeWalked 28 = .ok (.getfield 82, 3) := by decide +kernel
theorem dX4_canBeWalked_31 : decode cX4_canBeWalked 31 = .ok (.iload_n 1, 1) := by decide +kernel
theorem dX4_canBeWalked_32 : decode cX4_canBeWalked 32 = .ok (.iaload, 1) := by decide +kernel
theorem dX4_canBeWalked_33 : decode cX4_canBeWalked 33 = .ok (.iconst 1, 1) := by decide +kernel
theorem dX4_canBeWalked_34 : decode cX4_canBeWalked 34 = .ok (.if_icmp .lt 19, 3) := by decide +kernel
theorem dX4_canBeWalked_37 : decode cX4_canBeWalked 37 = .ok (.aload_n 0, 1) := by decide +kernel
theorem dX4_canBeWalked_38 : decode cX4_canBeWalked 38 = .ok (.getfield 12, 3) := by decide +kernel
theorem dX4_canBeWalked_41 : decode cX4_canBeWalked 41 = .ok (.getfield 126, 3) := by decide +kernel
theorem dX4_canBeWalked_44 : decode cX4_canBeWalked 44 = .ok (.iload_n 1, 1) := by decide +kernel
theorem dX4_canBeWalked_45 : decode cX4_canBeWalked 45 = .ok (.iaload, 1) := by decide +kernel
theorem dX4_canBeWalked_46 : decode cX4_canBeWalked 46 = .ok (.ifCond .lt 7, 3) := by decide +kernel
theorem dX4_canBeWalked_49 : decode cX4_canBeWalked 49 = .ok (.iconst 1, 1) := by decide +kernel
theorem dX4_canBeWalked_50 : decode cX4_canBeWalked 50 = .ok (.goto 4, 3) := by decide +kernel
theorem dX4_canBeWalked_53 : decode cX4_canBeWalked 53 = .ok (.iconst 0, 1) := by decide +kernel
theorem dX4_canBeWalked_54 : decode cX4_canBeWalked 54 = .ok (.ireturn, 1) := by decide +kernel
theorem dX4_hasTwoEnds_0 : decode cX4_hasTwoEnds 0 = .ok (.iconst (-1), 1) := by decide +kernel
theorem dX4_hasTwoEnds_1 : decode cX4_hasTwoEnds 1 = .ok (.istore_n 1, 1) := by decide +kernel
theorem dX4_hasTwoEnds_2 : decode cX4_hasTwoEnds 2 = .ok (.iconst (-1), 1) := by decide +kernel
theorem dX4_hasTwoEnds_3 : decode cX4_hasTwoEnds 3 = .ok (.istore_n 2, 1) := by decide +kernel
theorem dX4_hasTwoEnds_4 : decode cX4_hasTwoEnds 4 = .ok (.iconst 0, 1) := by decide +kernel
theorem dX4_hasTwoEnds_5 : decode cX4_hasTwoEnds 5 = .ok (.istore_n 3, 1) := by decide +kernel
theorem dX4_hasTwoEnds_6 : decode cX4_hasTwoEnds 6 = .ok (.iload_n 3, 1) := by decide +kernel
theorem dX4_hasTwoEnds_7 : decode cX4_hasTwoEnds 7 = .ok (.aload_n 0, 1) := by decide +kernel
theorem dX4_hasTwoEnds_8 : decode cX4_hasTwoEnds 8 = .ok (.getfield 12, 3) := by decide +kernel
theorem dX4_hasTwoEnds_11 : decode cX4_hasTwoEnds 11 = .ok (.getfield 42, 3) := by decide +kernel
theorem dX4_hasTwoEnds_14 : decode cX4_hasTwoEnds 14 = .ok (.if_icmp .ge 66, 3) := by decide +kernel
theorem dX4_hasTwoEnds_17 : decode cX4_hasTwoEnds 17 = .ok (.aload_n 0, 1) := by decide +kernel
theorem dX4_hasTwoEnds_18 : decode cX4_hasTwoEnds 18 = .ok (.getfield 12, 3) := by decide +kernel
theorem dX4_hasTwoEnds_21 : decode cX4_hasTwoEnds 21 = .ok (.getfield 68, 3) := by decide +kernel
theorem dX4_hasTwoEnds_24 : decode cX4_hasTwoEnds 24 = .ok (.iload_n 3, 1) := by decide +kernel
theorem dX4_hasTwoEnds_25 : decode cX4_hasTwoEnds 25 = .ok (.iaload, 1) := by decide +kernel
theorem dX4_hasTwoEnds_26 : decode cX4_hasTwoEnds 26 = .ok (.aload_n 0, 1) := by decide +kernel
theorem dX4_hasTwoEnds_27 : decode cX4_hasTwoEnds 27 = .ok (.getfield 22, 3) := by decide +kernel
theorem dX4_hasTwoEnds_30 : decode cX4_hasTwoEnds 30 = .ok (.iload_n 3, 1) := by decide +kernel
theorem dX4_hasTwoEnds_31 : decode cX4_hasTwoEnds 31 = .ok (.iaload, 1) := by decide +kernel
theorem dX4_hasTwoEnds_32 : decode cX4_hasTwoEnds 32 = .ok (.imul, 1) := by decide +kernel
theorem dX4_hasTwoEnds_33 : decode cX4_hasTwoEnds 33 = .ok (.istore 4, 2) := by decide +kernel
theorem dX4_hasTwoEnds_35 : decode cX4_hasTwoEnds 35 = .ok (.iload 4, 2) := by decide +kernel
theorem dX4_hasTwoEnds_37 : decode cX4_hasTwoEnds 37 = .ok (.iconst 1, 1) := by decide +kernel
theorem dX4_hasTwoEnds_38 : decode cX4_hasTwoEnds 38 = .ok (.if_icmp .ne 13, 3) := by decide +kernel
theorem dX4_hasTwoEnds_41 : decode cX4_hasTwoEnds 41 = .ok (.iload_n 2, 1) := by decide +kernel
theorem dX4_hasTwoEnds_42 : decode cX4_hasTwoEnds 42 = .ok (.iconst (-1), 1) := by decide +kernel
theorem dX4_hasTwoEnds_43 : decode cX4_hasTwoEnds 43 = .ok (.if_icmp .ne 8, 3) := by decide +kernel
theorem dX4_hasTwoEnds_46 : decode cX4_hasTwoEnds 46 = .ok (.iload_n 3, 1) := by decide +kernel
theorem dX4_hasTwoEnds_47 : decode cX4_hasTwoEnds 47 = .ok (.istore_n 2, 1) := by decide +kernel
theorem dX4_hasTwoEnds_48 : decode cX4_hasTwoEnds 48 = .ok (.goto 26, 3) := by decide +kernel
theorem dX4_hasTwoEnds_51 : decode cX4_hasTwoEnds 51 = .ok (.iload 4, 2) := by decide +kernel
theorem dX4_hasTwoEnds_53 : decode cX4_hasTwoEnds 53 = .ok (.iconst (-1), 1) := by decide +kernel
theorem dX4_hasTwoEnds_54 : decode cX4_hasTwoEnds 54 = .ok (.if_icmp .ne 13, 3) := by decide +kernel
theorem dX4_hasTwoEnds_57 : decode cX4_hasTwoEnds 57 = .ok (.iload_n 1, 1) := by decide +kernel
theorem dX4_hasTwoEnds_58 : decode cX4_hasTwoEnds 58 = .ok (.iconst (-1), 1) := by decide +kernel
theorem dX4_hasTwoEnds_59 : decode cX4_hasTwoEnds 59 = .ok (.if_icmp .ne 8, 3) := by decide +kernel
theorem dX4_hasTwoEnds_62 : decode cX4_hasTwoEnds 62 = .ok (.iload_n 3, 1) := by decide +kernel
theorem dX4_hasTwoEnds_63 : decode cX4_hasTwoEnds 63 = .ok (.istore_n 1, 1) := by decide +kernel
theorem dX4_hasTwoEnds_64 : decode cX4_hasTwoEnds 64 = .ok (.goto 10, 3) := by decide +kernel
theorem dX4_hasTwoEnds_67 : decode cX4_hasTwoEnds 67 = .ok (.iload 4, 2) := by decide +kernel
theorem dX4_hasTwoEnds_69 : decode cX4_hasTwoEnds 69 = .ok (.ifCond .eq 5, 3) := by decide +kernel
theorem dX4_hasTwoEnds_72 : decode cX4_hasTwoEnds 72 = .ok (.iconst 0, 1) := by decide +kernel
theorem dX4_hasTwoEnds_73 : decode cX4_hasTwoEnds 73 = .ok (.ireturn, 1) := by decide +kernel
theorem dX4_hasTwoEnds_74 : decode cX4_hasTwoEnds 74 = .ok (.iinc 3 1, 3) := by decide +kernel
theorem dX4_hasTwoEnds_77 : decode cX4_hasTwoEnds 77 = .ok (.goto (-71), 3) := by decide +kernel
theorem dX4_hasTwoEnds_80 : decode cX4_hasTwoEnds 80 = .ok (.iload_n 1, 1) := by decide +kernel
theorem dX4_hasTwoEnds_81 : decode cX4_hasTwoEnds 81 = .ok (.iconst (-1), 1) := by decide +kernel
theorem dX4_hasTwoEnds_82 : decode cX4_hasTwoEnds 82 = .ok (.if_icmp .eq 27, 3) := by decide +kernel
theorem dX4_hasTwoEnds_85 : decode cX4_hasTwoEnds 85 = .ok (.iload_n 2, 1) := by decide +kernel
theorem dX4_hasTwoEnds_86 : decode cX4_hasTwoEnds 86 = .ok (.iconst (-1), 1) := by decide +kernel
theorem dX4_hasTwoEnds_87 : decode cX4_hasTwoEnds 87 = .ok (.if_icmp .eq 22, 3) := by decide +kernel
theorem dX4_hasTwoEnds_90 : decode cX4_hasTwoEnds 90 = .ok (.aload_n 0, 1) := by decide +kernel
theorem dX4_hasTwoEnds_91 : decode cX4_hasTwoEnds 91 = .ok (.getfield 18, 3) := by decide +kernel
theorem dX4_hasTwoEnds_94 : decode cX4_hasTwoEnds 94 = .ok (.iload_n 1, 1) := by decide +kernel
theorem dX4_hasTwoEnds_95 : decode cX4_hasTwoEnds 95 = .ok (.iaload, 1) := by decide +kernel
theorem dX4_hasTwoEnds_96 : decode cX4_hasTwoEnds 96 = .ok (.aload_n 0, 1) := by decide +kernel
theorem dX4_hasTwoEnds_97 : decode cX4_hasTwoEnds 97 = .ok (.getfield 18, 3) := by decide +kernel
theorem dX4_hasTwoEnds_100 : decode cX4_hasTwoEnds 100 = .ok (.iload_n 2, 1) := by decide +kernel
theorem dX4_hasTwoEnds_101 : decode cX4_hasTwoEnds 101 = .ok (.iaload, 1) := by decide +kernel
theorem dX4_hasTwoEnds_102 : decode cX4_hasTwoEnds 102 = .ok (.if_icmp .ne 7, 3) := by decide +kernel
theorem dX4_hasTwoEnds_105 : decode cX4_hasTwoEnds 105 = .ok (.iconst 1, 1) := by decide +kernel
theorem dX4_hasTwoEnds_106 : decode cX4_hasTwoEnds 106 = .ok (.goto 4, 3) := by decide +kernel
theorem dX4_hasTwoEnds_109 : decode cX4_hasTwoEnds 109 = .ok (.iconst 0, 1) := by decide +kernel
theorem dX4_hasTwoEnds_110 : decode cX4_hasTwoEnds 110 = .ok (.ireturn, 1) := by decide +kernel
theorem dX5_init_0 : decode cX5_init 0 = .ok (.aload_n 0, 1) := by decide +kernel
theorem dX5_init_1 : decode cX5_init 1 = .ok (.invokespecial 3, 3) := by decide +kernel
theorem dX5_init_4 : decode cX5_init 4 = .ok (.aload_n 0, 1) := by decide +kernel
theorem dX5_init_5 : decode cX5_init 5 = .ok (.bipush 10, 2) := by decide +kernel
theorem dX5_init_7 : decode cX5_init 7 = .ok (.newarray .int, 2) := by decide +kernel
theorem dX5_init_9 : decode cX5_init 9 = .ok (.putfield 9, 3) := by decide +kernel
theorem dX5_init_12 : decode cX5_init 12 = .ok (.aload_n 0, 1) := by decide +kernel
theorem dX5_init_13 : decode cX5_init 13 = .ok (.bipush 10, 2) := by decide +kernel
theorem dX5_init_15 : decode cX5_init 15 = .ok (.newarray .int, 2) := by decide +kernel
theorem dX5_init_17 : decode cX5_init 17 = .ok (.putfield 15, 3) := by decide +kernel
theorem dX5_init_20 : decode cX5_init 20 = .ok (.aload_n 0, 1) := by decide +kernel
theorem dX5_init_21 : decode cX5_init 21 = .ok (.bipush 10, 2) := by decide +kernel
theorem dX5_init_23 : decode cX5_init 23 = .ok (.newarray .int, 2) := by decide +kernel
theorem dX5_init_25 : decode cX5_init 25 = .ok (.putfield 18, 3) := by decide +kernel
theorem dX5_init_28 : decode cX5_init 28 = .ok (.aload_n 0, 1) := by decide +kernel
theorem dX5_init_29 : decode cX5_init 29 = .ok (.bipush 8, 2) := by decide +kernel
theorem dX5_init_31 : decode cX5_init 31 = .ok (.newarray .int, 2) := by decide +kernel
theorem dX5_init_33 : decode cX5_init 33 = .ok (.putfield 21, 3) := by decide +kernel
theorem dX5_init_36 : decode cX5_init 36 = .ok (.aload_n 0, 1) := by decide +kernel
theorem dX5_init_37 : decode cX5_init 37 = .ok (.bipush 8, 2) := by decide +kernel
theorem dX5_init_39 : decode cX5_init 39 = .ok (.newarray .int, 2) := by decide +kernel
theorem dX5_init_41 : decode cX5_init 41 = .ok (.putfield 24, 3) := by decide +kernel
theorem dX5_init_44 : decode cX5_init 44 = .ok (.aload_n 0, 1) := by decide +kernel
theorem dX5_init_45 : decode cX5_init 45 = .ok (.bipush 8, 2) := by decide +kernel
theorem dX5_init_47 : decode cX5_init 47 = .ok (.bipush 10, 2) := by decide +kernel
theorem dX5_init_49 : decode cX5_init 49 = .ok (.multianewarray 27 2, 4) := by decide +kernel
theorem dX5_init_53 : decode cX5_init 53 = .ok (.putfield 29, 3) := by decide +kernel
theorem dX5_init_56 : decode cX5_init 56 = .ok (.return_, 1) := by decide +kernel
theorem dX5_addColumn_0 : decode cX5_addColumn 0 = .ok (.aload_n 0, 1) := by decide +kernel
theorem dX5_addColumn_1 : decode cX5_addColumn 1 = .ok (.getfield 32, 3) := by decide +kernel
theorem dX5_addColumn_4 : decode cX5_addColumn 4 = .ok (.istore 4, 2) := by decide +kernel
theorem dX5_addColumn_6 : decode cX5_addColumn 6 = .ok (.aload_n 0, 1) := by decide +kernel
theorem dX5_addColumn_7 : decode cX5_addColumn 7 = .ok (.getfield 9, 3) := by decide +kernel
theorem dX5_addColumn_10 : decode cX5_addColumn 10 = .ok (.iload 4, 2) := by decide +kernel
theorem dX5_addColumn_12 : decode cX5_addColumn 12 = .ok (.iload_n 1, 1) := by decide +kernel
theorem dX5_addColumn_13 : decode cX5_addColumn 13 = .ok (.iastore, 1) := by decide +kernel
theorem dX5_addColumn_14 : decode cX5_addColumn 14 = .ok (.aload_n 0, 1) := by decide +kernel
theorem dX5_addColumn_15 : decode cX5_addColumn 15 = .ok (.getfield 15, 3) := by decide +kernel
theorem dX5_addColumn_18 : decode cX5_addColumn 18 = .ok (.iload 4, 2) := by decide +kernel
theorem dX5_addColumn_20 : decode cX5_addColumn 20 = .ok (.iload_n 2, 1) := by decide +kernel
theorem dX5_addColumn_21 : decode cX5_addColumn 21 = .ok (.iastore, 1) := by decide +kernel
theorem dX5_addColumn_22 : decode cX5_addColumn 22 = .ok (.aload_n 0, 1) := by decide +kernel
theorem dX5_addColumn_23 : decode cX5_addColumn 23 = .ok (.getfield 18, 3) := by decide +kernel
theorem dX5_addColumn_26 : decode cX5_addColumn 26 = .ok (.iload 4, 2) := by decide +kernel
theorem dX5_addColumn_28 : decode cX5_addColumn 28 = .ok (.iload_n 3, 1) := by decide +kernel
theorem dX5_addColumn_29 : decode cX5_addColumn 29 = .ok (.iastore, 1) := by decide +kernel
theorem dX5_addColumn_30 : decode cX5_addColumn 30 = .ok (.aload_n 0, 1) := by decide +kernel
theorem dX5_addColumn_31 : decode cX5_addColumn 31 = .ok (.iload 4, 2) := by decide +kernel
theorem dX5_addColumn_33 : decode cX5_addColumn 33 = .ok (.iconst 1, 1) := by decide +kernel
theorem dX5_addColumn_34 : decode cX5_addColumn 34 = .ok (.iadd, 1) := by decide +kernel
theorem dX5_addColumn_35 : decode cX5_addColumn 35 = .ok (.putfield 32, 3) := by decide +kernel
theorem dX5_addColumn_38 : decode cX5_addColumn 38 = .ok (.iload 4, 2) := by decide +kernel
theorem dX5_addColumn_40 : decode cX5_addColumn 40 = .ok (.ireturn, 1) := by decide +kernel
theorem dX5_addRow_0 : decode cX5_addRow 0 = .ok (.aload_n 0, 1) := by decide +kernel
theorem dX5_addRow_1 : decode cX5_addRow 1 = .ok (.getfield 36, 3) := by decide +kernel
theorem dX5_addRow_4 : decode cX5_addRow 4 = .ok (.istore_n 3, 1) := by decide +kernel
theorem dX5_addRow_5 : decode cX5_addRow 5 = .ok (.aload_n 0, 1) := by decide +kernel
theorem dX5_addRow_6 : decode cX5_addRow 6 = .ok (.getfield 21, 3) := by decide +kernel
theorem dX5_addRow_9 : decode cX5_addRow 9 = .ok (.iload_n 3, 1) := by decide +kernel
theorem dX5_addRow_10 : decode cX5_addRow 10 = .ok (.iload_n 1, 1) := by decide +kernel
theorem dX5_addRow_11 : decode cX5_addRow 11 = .ok (.iastore, 1) := by decide +kernel
theorem dX5_addRow_12 : decode cX5_addRow 12 = .ok (.aload_n 0, 1) := by decide +kernel
theorem dX5_addRow_13 : decode cX5_addRow 13 = .ok (.getfield 24, 3) := by decide +kernel
theorem dX5_addRow_16 : decode cX5_addRow 16 = .ok (.iload_n 3, 1) := by decide +kernel
theorem dX5_addRow_17 : decode cX5_addRow 17 = .ok (.iload_n 2, 1) := by decide +kernel
theorem dX5_addRow_18 : decode cX5_addRow 18 = .ok (.iastore, 1) := by decide +kernel
theorem dX5_addRow_19 : decode cX5_addRow 19 = .ok (.aload_n 0, 1) := by decide +kernel
theorem dX5_addRow_20 : decode cX5_addRow 20 = .ok (.iload_n 3, 1) := by decide +kernel
theorem dX5_addRow_21 : decode cX5_addRow 21 = .ok (.iconst 1, 1) := by decide +kernel
theorem dX5_addRow_22 : decode cX5_addRow 22 = .ok (.iadd, 1) := by decide +kernel
theorem dX5_addRow_23 : decode cX5_addRow 23 = .ok (.putfield 36, 3) := by decide +kernel
theorem dX5_addRow_26 : decode cX5_addRow 26 = .ok (.iload_n 3, 1) := by decide +kernel
theorem dX5_addRow_27 : decode cX5_addRow 27 = .ok (.ireturn, 1) := by decide +kernel
set_option maxRecDepth 20000 in
theorem ggX5_wipe_J7_fill_53178 : GoodIn wsX5_wipe wsJ7_fill_53178 := goodIn_r _ [7] (by decide +kernel) (by decide +kernel)
set_option maxRecDepth 20000 in
theorem gX5_wipe_J7_fill_53178 : GoodIn wsX5_wipe (va_wsS RX5 39 yJ7_fill_53178 wsJ7_fill_53178) := goodIn_app (goodIn_of _ (by decide +kernel)) ggX5_wipe_J7_fill_53178
theorem dX5_wipe_0 : decode cX5_wipe 0 = .ok (.iconst 0, 1) := by decide +kernel
theorem dX5_wipe_1 : decode cX5_wipe 1 = .ok (.istore_n 1, 1) := by decide +kernel
theorem dX5_wipe_2 : decode cX5_wipe 2 = .ok (.iload_n 1, 1) := by decide +kernel
theorem dX5_wipe_3 : decode cX5_wipe 3 = .ok (.bipush 8, 2) := by decide +kernel
theorem dX5_wipe_5 : decode cX5_wipe 5 = .ok (.if_icmp .ge 19, 3) := by decide +kernel
theorem dX5_wipe_8 : decode cX5_wipe 8 = .ok (.aload_n 0, 1) := by decide +kernel
theorem dX5_wipe_9 : decode cX5_wipe 9 = .ok (.getfield 29, 3) := by decide +kernel
theorem dX5_wipe_12 : decode cX5_wipe 12 = .ok (.iload_n 1, 1) := by decide +kernel
theorem dX5_wipe_13 : decode cX5_wipe 13 = .ok (.aaload, 1) := by decide +kernel
theorem dX5_wipe_14 : decode cX5_wipe 14 = .ok (.iconst 0, 1) := by decide +kernel
theorem dX5_wipe_15 : decode cX5_wipe 15 = .ok (.invokestatic 39, 3) := by decide +kernel
theorem dX5_wipe_18 : decode cX5_wipe 18 = .ok (.iinc 1 1, 3) := by decide +kernel
theorem dX5_wipe_21 : decode cX5_wipe 21 = .ok (.goto (-19), 3) := by decide +kernel
theorem dX5_wipe_24 : decode cX5_wipe 24 = .ok (.aload_n 0, 1) := by decide +kernel
theorem dX5_wipe_25 : decode cX5_wipe 25 = .ok (.iconst 0, 1) := by decide +kernel
theorem dX5_wipe_26 : decode cX5_wipe 26 = .ok (.putfield 32, 3) := by decide +kernel
theorem dX5_wipe_29 : decode cX5_wipe 29 = .ok (.aload_n 0, 1) := by decide +kernel
theorem dX5_wipe_30 : decode cX5_wipe 30 = .ok (.iconst 0, 1) := by decide +kernel
theorem dX5_wipe_31 : decode cX5_wipe 31 = .ok (.putfield 36, 3) := by decide +kernel
theorem dX5_wipe_34 : decode cX5_wipe 34 = .ok (.return_, 1) := by decide +kernel
theorem dX5_countTerms_0 : decode cX5_countTerms 0 = .ok (.iconst 0, 1) := by decide +kernel
theorem dX5_countTerms_1 : decode cX5_countTerms 1 = .ok (.istore_n 2, 1) := by decide +kernel
theorem dX5_countTerms_2 : decode cX5_countTerms 2 = .ok (.iconst 0, 1) := by decide +kernel
theorem dX5_countTerms_3 : decode cX5_countTerms 3 = .ok (.istore_n 3, 1) := by decide +kernel
theorem dX5_countTerms_4 : decode cX5_countTerms 4 = .ok (.iload_n 3, 1) := by decide +kernel
theorem dX5_countTerms_5 : decode cX5_countTerms 5 = .ok (.aload_n 0, 1) := by decide +kernel
theorem dX5_countTerms_6 : decode cX5_countTerms 6 = .ok (.getfield 36, 3) := by decide +kernel
theorem dX5_countTerms_9 : decode cX5_countTerms 9 = .ok (.if_icmp .ge 23, 3) := by decide +kernel
theorem dX5_countTerms_12 : decode cX5_countTerms 12 = .ok (.aload_n 0, 1) := by decide +kernel
theorem dX5_countTerms_13 : decode cX5_countTerms 13 = .ok (.getfield 29, 3) := by decide +kernel
theorem dX5_countTerms_16 : decode cX5_countTerms 16 = .ok (.iload_n 3, 1) := by decide +kernel
theorem dX5_countTerms_17 : decode cX5_countTerms 17 = .ok (.aaload, 1) := by decide +kernel
theorem dX5_countTerms_18 : decode cX5_countTerms 18 = .ok (.iload_n 1, 1) := by decide +kernel
theorem dX5_countTerms_19 : decode cX5_countTerms 19 = .ok (.iaload, 1) := by decide +kernel
theorem dX5_countTerms_20 : decode cX5_countTerms 20 = .ok (.ifCond .eq 6, 3) := by decide +kernel
theorem dX5_countTerms_23 : decode cX5_countTerms 23 = .ok (.iinc 2 1, 3) := by decide +kernel
theorem dX5_countTerms_26 : decode cX5_countTerms 26 = .ok (.iinc 3 1, 3) := by decide +kernel
theorem dX5_countTerms_29 : decode cX5_countTerms 29 = .ok (.goto (-25), 3) := by decide +kernel
theorem dX5_countTerms_32 : decode cX5_countTerms 32 = .ok (.iload_n 2, 1) := by decide +kernel
theorem dX5_countTerms_33 : decode cX5_countTerms 33 = .ok (.ireturn, 1) := by decide +kernel
theorem dX5_nextTerm_0 : decode cX5_nextTerm 0 = .ok (.iload_n 2, 1) := by decide +kernel
theorem dX5_nextTerm_1 : decode cX5_nextTerm 1 = .ok (.istore_n 3, 1) := by decide +kernel
theorem dX5_nextTerm_2 : decode cX5_nextTerm 2 = .ok (.iload_n 3, 1) := by decide +kernel
theorem dX5_nextTerm_3 : decode cX5_nextTerm 3 = .ok (.aload_n 0, 1) := by decide +kernel
theorem dX5_nextTerm_4 : decode cX5_nextTerm 4 = .ok (.getfield 36, 3) := by decide +kernel
theorem dX5_nextTerm_7 : decode cX5_nextTerm 7 = .ok (.if_icmp .ge 22, 3) := by decide +kernel
theorem dX5_nextTerm_10 : decode cX5_nextTerm 10 = .ok (.aload_n 0, 1) := by decide +kernel
theorem dX5_nextTerm_11 : decode cX5_nextTerm 11 = .ok (.getfield 29, 3) := by decide +kernel
theorem dX5_nextTerm_14 : decode cX5_nextTerm 14 = .ok (.iload_n 3, 1) := by decide +kernel
theorem dX5_nextTerm_15 : decode cX5_nextTerm 15 = .ok (.aaload, 1) := by decide +kernel
theorem dX5_nextTerm_16 : decode cX5_nextTerm 16 = .ok (.iload_n 1, 1) := by decide +kernel
theorem dX5_nextTerm_17 : decode cX5_nextTerm 17 = .ok (.iaload, 1) := by decide +kernel
theorem dX5_nextTerm_18 : decode cX5_nextTerm 18 = .ok (.ifCond .eq 5, 3) := by decide +kernel
theorem dX5_nextTerm_21 : decode cX5_nextTerm 21 = .ok (.iload_n 3, 1) := by decide +kernel
theorem dX5_nextTerm_22 : decode cX5_nextTerm 22 = .ok (.ireturn, 1) := by decide +kernel
theorem dX5_nextTerm_23 : decode cX5_nextTerm 23 = .ok (.iinc 3 1, 3) := by decide +kernel
theorem dX5_nextTerm_26 : decode cX5_nextTerm 26 = .ok (.goto (-24), 3) := by decide +kernel
theorem dX5_nextTerm_29 : decode cX5_nextTerm 29 = .ok (.iconst (-1), 1) := by decide +kernel
theorem dX5_nextTerm_30 : decode cX5_nextTerm 30 = .ok (.ireturn, 1) := by decide +kernel
set_option maxRecDepth 20000 in
theorem ggX6_init_X4_init : GoodIn wsX6_init wsX4_init := goodIn_r _ [30, 31, 2, 3, 32, 33, 34, 35, 26, 36, 37, 38, 39, 40, 41, 42, 43, 44, 45, 46, 47, 48, 49, 111, 112, 113, 114, 115, 116, 117, 118, 80, 81, 82, 83, 84] (by decide +kernel) (by decide +kernel)
set_option maxRecDepth 20000 in
theorem gX6_init_X4_init_n11 : GoodIn wsX6_init (wsX4_init) := ggX6_init_X4_init
set_option maxRecDepth 20000 in
theorem ggX6_init_X1_init : GoodIn wsX6_init wsX1_init := goodIn_r _ [51, 52, 2, 3, 26, 53, 54, 55, 56, 57, 58, 59, 60, 61, 62, 63, 64, 93, 94, 95, 96, 97, 98, 99, 100, 101, 102, 103, 104] (by decide +kernel) (by decide +kernel)
set_option maxRecDepth 20000 in
theorem gX6_init_X1_init_n23 : GoodIn wsX6_init (wsX1_init) := ggX6_init_X1_init
set_option maxRecDepth 20000 in
theorem ggX6_init_X2_init : GoodIn wsX6_init wsX2_init := goodIn_r _ [66, 67, 2, 3, 26, 68, 69, 70, 71, 105, 106, 107] (by decide +kernel) (by decide +kernel)
set_option maxRecDepth 20000 in
theorem gX6_init_X2_init_n30 : GoodIn wsX6_init (wsX2_init) := ggX6_init_X2_init
set_option maxRecDepth 20000 in
theorem ggX6_init_X3_init : GoodIn wsX6_init wsX3_init := goodIn_r _ [73, 74, 2, 3] (by decide +kernel) (by decide +kernel)
set_option maxRecDepth 20000 in
theorem gX6_init_X3_init_n37 : GoodIn wsX6_init (wsX3_init) := ggX6_init_X3_init
set_option maxRecDepth 20000 in
theorem ggX6_init_X0_init : GoodIn wsX6_init wsX0_init := goodIn_r _ [76, 77, 2, 3, 78, 26, 79, 110] (by decide +kernel) (by decide +kernel)
set_option maxRecDepth 20000 in
theorem gX6_init_X0_init_n44 : GoodIn wsX6_init (wsX0_init) := ggX6_init_X0_init
theorem dX6_init_0 : decode cX6_init 0 = .ok (.aload_n 0, 1) := by decide +kernel
theorem dX6_init_1 : decode cX6_init 1 = .ok (.invokespecial 3, 3) := by decide +kernel
theorem dX6_init_4 : decode cX6_init 4 = .ok (.aload_n 0, 1) := by decide +kernel
theorem dX6_init_5 : decode cX6_init 5 = .ok (.new 9, 3) := by decide +kernel
theorem dX6_init_8 : decode cX6_init 8 = .ok (.dup, 1) := by decide +kernel
theorem dX6_init_9 : decode cX6_init 9 = .ok (.invokespecial 11, 3) := by decide +kernel
theorem dX6_init_12 : decode cX6_init 12 = .ok (.putfield 12, 3) := by decide +kernel
theorem dX6_init_15 : decode cX6_init 15 = .ok (.aload_n 0, 1) := by decide +kernel
theorem dX6_init_16 : decode cX6_init 16 = .ok (.aload_n 0, 1) := by decide +kernel
theorem dX6_init_17 : decode cX6_init 17 = .ok (.getfield 12, 3) := by decide +kernel
theorem dX6_init_20 : decode cX6_init 20 = .ok (.getfield 16, 3) := by decide +kernel
theorem dX6_init_23 : decode cX6_init 23 = .ok (.putfield 20, 3) := by decide +kernel
theorem dX6_init_26 : decode cX6_init 26 = .ok (.aload_n 0, 1) := by decide +kernel
theorem dX6_init_27 : decode cX6_init 27 = .ok (.new 21, 3) := by decide +kernel
theorem dX6_init_30 : decode cX6_init 30 = .ok (.dup, 1) := by decide +kernel
theorem dX6_init_31 : decode cX6_init 31 = .ok (.invokespecial 23, 3) := by decide +kernel
theorem dX6_init_34 : decode cX6_init 34 = .ok (.putfield 24, 3) := by decide +kernel
theorem dX6_init_37 : decode cX6_init 37 = .ok (.aload_n 0, 1) := by decide +kernel
theorem dX6_init_38 : decode cX6_init 38 = .ok (.new 28, 3) := by decide +kernel
theorem dX6_init_41 : decode cX6_init 41 = .ok (.dup, 1) := by decide +kernel
theorem dX6_init_42 : decode cX6_init 42 = .ok (.invokespecial 30, 3) := by decide +kernel
theorem dX6_init_45 : decode cX6_init 45 = .ok (.putfield 31, 3) := by decide +kernel
theorem dX6_init_48 : decode cX6_init 48 = .ok (.aload_n 0, 1) := by decide +kernel
theorem dX6_init_49 : decode cX6_init 49 = .ok (.new 35, 3) := by decide +kernel
theorem dX6_init_52 : decode cX6_init 52 = .ok (.dup, 1) := by decide +kernel
theorem dX6_init_53 : decode cX6_init 53 = .ok (.invokespecial 37, 3) := by decide +kernel
theorem dX6_init_56 : decode cX6_init 56 = .ok (.putfield 38, 3) := by decide +kernel
theorem dX6_init_59 : decode cX6_init 59 = .ok (.aload_n 0, 1) := by decide +kernel
theorem dX6_init_60 : decode cX6_init 60 = .ok (.new 42, 3) := by decide +kernel
theorem dX6_init_63 : decode cX6_init 63 = .ok (.dup, 1) := by decide +kernel
theorem dX6_init_64 : decode cX6_init 64 = .ok (.invokespecial 44, 3) := by decide +kernel
theorem dX6_init_67 : decode cX6_init 67 = .ok (.putfield 45, 3) := by decide +kernel
theorem dX6_init_70 : decode cX6_init 70 = .ok (.aload_n 0, 1) := by decide +kernel
theorem dX6_init_71 : decode cX6_init 71 = .ok (.bipush 10, 2) := by decide +kernel
theorem dX6_init_73 : decode cX6_init 73 = .ok (.newarray .int, 2) := by decide +kernel
theorem dX6_init_75 : decode cX6_init 75 = .ok (.putfield 49, 3) := by decide +kernel
theorem dX6_init_78 : decode cX6_init 78 = .ok (.aload_n 0, 1) := by decide +kernel
theorem dX6_init_79 : decode cX6_init 79 = .ok (.iconst 0, 1) := by decide +kernel
theorem dX6_init_80 : decode cX6_init 80 = .ok (.putfield 53, 3) := by decide +kernel
theorem dX6_init_83 : decode cX6_init 83 = .ok (.return_, 1) := by decide +kernel
set_option maxRecDepth 20000 in
theorem ggX6_column_X6_areBounds : GoodIn wsX6_column wsX6_areBounds := goodIn_r _ [11, 12, 13, 10, 14] (by decide +kernel) (by decide +kernel)
set_option maxRecDepth 20000 in
theorem gX6_column_X6_areBounds : GoodIn wsX6_column (va_wsS RX6 69 yX6_areBounds wsX6_areBounds) := goodIn_app (goodIn_of _ (by decide +kernel)) ggX6_column_X6_areBounds
set_option maxRecDepth 20000 in
theorem ggX6_column_X6_isWithin : GoodIn wsX6_column wsX6_isWithin := goodIn_r _ [14] (by decide +kernel) (by decide +kernel)
set_option maxRecDepth 20000 in
theorem gX6_column_X6_isWithin : GoodIn wsX6_column (va_wsS RX6 73 yX6_isWithin wsX6_isWithin) := goodIn_app (goodIn_of _ (by decide +kernel)) ggX6_column_X6_isWithin
set_option maxRecDepth 20000 in
theorem ggX6_column_X5_addColumn : GoodIn wsX6_column wsX5_addColumn := goodIn_r _ [19, 20, 21, 22, 23, 32, 33, 34, 35, 36, 37, 38, 39] (by decide +kernel) (by decide +kernel)
set_option maxRecDepth 20000 in
theorem gX6_column_X5_addColumn : GoodIn wsX6_column (wsV RX6 81 RX5 yX5_addColumn wsX5_addColumn) := goodIn_app (goodIn_of _ (by decide +kernel)) ggX6_column_X5_addColumn
theorem dX6_column_0 : decode cX6_column 0 = .ok (.aload_n 0, 1) := by decide +kernel
theorem dX6_column_1 : decode cX6_column 1 = .ok (.getfield 20, 3) := by decide +kernel
theorem dX6_column_4 : decode cX6_column 4 = .ok (.getfield 57, 3) := by decide +kernel
theorem dX6_column_7 : decode cX6_column 7 = .ok (.bipush 10, 2) := by decide +kernel
theorem dX6_column_9 : decode cX6_column 9 = .ok (.if_icmp .lt 13, 3) := by decide +kernel
theorem dX6_column_12 : decode cX6_column 12 = .ok (.new 62, 3) := by decide +kernel
theorem dX6_column_15 : decode cX6_column 15 = .ok (.dup, 1) := by decide +kernel
theorem dX6_column_16 : decode cX6_column 16 = .ok (.ldc 64, 2) := by decide +kernel
theorem dX6_column_18 : decode cX6_column 18 = .ok (.invokespecial 66, 3) := by decide +kernel
theorem dX6_column_21 : decode cX6_column 21 = .ok (.athrow, 1) := by decide +kernel
theorem dX6_column_22 : decode cX6_column 22 = .ok (.iload_n 1, 1) := by decide +kernel
theorem dX6_column_23 : decode cX6_column 23 = .ok (.iload_n 2, 1) := by decide +kernel
theorem dX6_column_24 : decode cX6_column 24 = .ok (.invokestatic 69, 3) := by decide +kernel
theorem dX6_column_27 : decode cX6_column 27 = .ok (.ifCond .eq 13, 3) := by decide +kernel
theorem dX6_column_30 : decode cX6_column 30 = .ok (.iload_n 3, 1) := by decide +kernel
theorem dX6_column_31 : decode cX6_column 31 = .ok (.sipush 1000, 3) := by decide +kernel
theorem dX6_column_34 : decode cX6_column 34 = .ok (.invokestatic 73, 3) := by decide +kernel
theorem dX6_column_37 : decode cX6_column 37 = .ok (.ifCond .ne 13, 3) := by decide +kernel
theorem dX6_column_40 : decode cX6_column 40 = .ok (.new 76, 3) := by decide +kernel
theorem dX6_column_43 : decode cX6_column 43 = .ok (.dup, 1) := by decide +kernel
theorem dX6_column_44 : decode cX6_column 44 = .ok (.ldc 78, 2) := by decide +kernel
theorem dX6_column_46 : decode cX6_column 46 = .ok (.invokespecial 80, 3) := by decide +kernel
theorem dX6_column_49 : decode cX6_column 49 = .ok (.athrow, 1) := by decide +kernel
theorem dX6_column_50 : decode cX6_column 50 = .ok (.aload_n 0, 1) := by decide +kernel
theorem dX6_column_51 : decode cX6_column 51 = .ok (.iconst 0, 1) := by decide +kernel
theorem dX6_column_52 : decode cX6_column 52 = .ok (.putfield 53, 3) := by decide +kernel
theorem dX6_column_55 : decode cX6_column 55 = .ok (.aload_n 0, 1) := by decide +kernel
theorem dX6_column_56 : decode cX6_column 56 = .ok (.getfield 20, 3) := by decide +kernel
theorem dX6_column_59 : decode cX6_column 59 = .ok (.iload_n 1, 1) := by decide +kernel
theorem dX6_column_60 : decode cX6_column 60 = .ok (.iload_n 2, 1) := by decide +kernel
theorem dX6_column_61 : decode cX6_column 61 = .ok (.iload_n 3, 1) := by decide +kernel
theorem dX6_column_62 : decode cX6_column 62 = .ok (.invokevirtual 81, 3) := by decide +kernel
theorem dX6_column_65 : decode cX6_column 65 = .ok (.ireturn, 1) := by decide +kernel
set_option maxRecDepth 20000 in
theorem ggX6_row_X6_isWithin : GoodIn wsX6_row wsX6_isWithin := goodIn_r _ [12] (by decide +kernel) (by decide +kernel)
set_option maxRecDepth 20000 in
theorem gX6_row_X6_isWithin : GoodIn wsX6_row (va_wsS RX6 73 yX6_isWithin wsX6_isWithin) := goodIn_app (goodIn_of _ (by decide +kernel)) ggX6_row_X6_isWithin
set_option maxRecDepth 20000 in
theorem ggX6_row_X5_addRow : GoodIn wsX6_row wsX5_addRow := goodIn_r _ [17, 18, 19, 20, 29, 30, 31, 32, 33, 34, 35, 36] (by decide +kernel) (by decide +kernel)
set_option maxRecDepth 20000 in
theorem gX6_row_X5_addRow : GoodIn wsX6_row (wsV RX6 93 RX5 yX5_addRow wsX5_addRow) := goodIn_app (goodIn_of _ (by decide +kernel)) ggX6_row_X5_addRow
theorem dX6_row_0 : decode cX6_row 0 = .ok (.aload_n 0, 1) := by decide +kernel
theorem dX6_row_1 : decode cX6_row 1 = .ok (.getfield 20, 3) := by decide +kernel
theorem dX6_row_4 : decode cX6_row 4 = .ok (.getfield 85, 3) := by decide +kernel
theorem dX6_row_7 : decode cX6_row 7 = .ok (.bipush 8, 2) := by decide +kernel
theorem dX6_row_9 : decode cX6_row 9 = .ok (.if_icmp .lt 13, 3) := by decide +kernel
theorem dX6_row_12 : decode cX6_row 12 = .ok (.new 62, 3) := by decide +kernel
theorem dX6_row_15 : decode cX6_row 15 = .ok (.dup, 1) := by decide +kernel
theorem dX6_row_16 : decode cX6_row 16 = .ok (.ldc 88, 2) := by decide +kernel
theorem dX6_row_18 : decode cX6_row 18 = .ok (.invokespecial 66, 3) := by decide +kernel
theorem dX6_row_21 : decode cX6_row 21 = .ok (.athrow, 1) := by decide +kernel
theorem dX6_row_22 : decode cX6_row 22 = .ok (.iload_n 1, 1) := by decide +kernel
theorem dX6_row_23 : decode cX6_row 23 = .ok (.ifCond .eq 8, 3) := by decide +kernel
theorem dX6_row_26 : decode cX6_row 26 = .ok (.iload_n 1, 1) := by decide +kernel
theorem dX6_row_27 : decode cX6_row 27 = .ok (.iconst 1, 1) := by decide +kernel
theorem dX6_row_28 : decode cX6_row 28 = .ok (.if_icmp .ne 7, 3) := by decide +kernel
theorem dX6_row_31 : decode cX6_row 31 = .ok (.iconst 1, 1) := by decide +kernel
theorem dX6_row_32 : decode cX6_row 32 = .ok (.goto 4, 3) := by decide +kernel
theorem dX6_row_35 : decode cX6_row 35 = .ok (.iconst 0, 1) := by decide +kernel
theorem dX6_row_36 : decode cX6_row 36 = .ok (.istore_n 3, 1) := by decide +kernel
theorem dX6_row_37 : decode cX6_row 37 = .ok (.iload_n 3, 1) := by decide +kernel
theorem dX6_row_38 : decode cX6_row 38 = .ok (.ifCond .eq 12, 3) := by decide +kernel
theorem dX6_row_41 : decode cX6_row 41 = .ok (.iload_n 2, 1) := by decide +kernel
theorem dX6_row_42 : decode cX6_row 42 = .ok (.ldc 90, 2) := by decide +kernel
theorem dX6_row_44 : decode cX6_row 44 = .ok (.invokestatic 73, 3) := by decide +kernel
theorem dX6_row_47 : decode cX6_row 47 = .ok (.ifCond .ne 13, 3) := by decide +kernel
theorem dX6_row_50 : decode cX6_row 50 = .ok (.new 76, 3) := by decide +kernel
theorem dX6_row_53 : decode cX6_row 53 = .ok (.dup, 1) := by decide +kernel
theorem dX6_row_54 : decode cX6_row 54 = .ok (.ldc 91, 2) := by decide +kernel
theorem dX6_row_56 : decode cX6_row 56 = .ok (.invokespecial 80, 3) := by decide +kernel
theorem dX6_row_59 : decode cX6_row 59 = .ok (.athrow, 1) := by decide +kernel
theorem dX6_row_60 : decode cX6_row 60 = .ok (.aload_n 0, 1) := by decide +kernel
theorem dX6_row_61 : decode cX6_row 61 = .ok (.iconst 0, 1) := by decide +kernel
theorem dX6_row_62 : decode cX6_row 62 = .ok (.putfield 53, 3) := by decide +kernel
theorem dX6_row_65 : decode cX6_row 65 = .ok (.aload_n 0, 1) := by decide +kernel
theorem dX6_row_66 : decode cX6_row 66 = .ok (.getfield 20, 3) := by decide +kernel
theorem dX6_row_69 : decode cX6_row 69 = .ok (.iload_n 1, 1) := by decide +kernel
theorem dX6_row_70 : decode cX6_row 70 = .ok (.iload_n 2, 1) := by decide +kernel
theorem dX6_row_71 : decode cX6_row 71 = .ok (.invokevirtual 93, 3) := by decide +kernel
theorem dX6_row_74 : decode cX6_row 74 = .ok (.ireturn, 1) := by decide +kernel
set_option maxRecDepth 20000 in
theorem ggX6_term_X6_needRow : GoodIn wsX6_term wsX6_needRow := goodIn_ca (goodIn_r _ [10, 11, 12, 4, 13, 22, 23, 24, 25, 26, 27, 28, 29, 30, 31, 32, 33, 34, 35, 36, 37] (by decide +kernel) (by decide +kernel)) (goodIn_sub (fun _ h => List.mem_cons_of_mem _ (List.mem_append_right _ h)) (by decide +kernel))
set_option maxRecDepth 20000 in
theorem gX6_term_X6_needRow : GoodIn wsX6_term (wsV RX6 97 RX6 yX6_needRow wsX6_needRow) := goodIn_app (goodIn_of _ (by decide +kernel)) ggX6_term_X6_needRow
set_option maxRecDepth 20000 in
theorem ggX6_term_X6_needColumn : GoodIn wsX6_term wsX6_needColumn := goodIn_ca (goodIn_r _ [17, 11, 12, 4, 18, 22, 23, 24, 25, 26, 27, 28, 29, 30, 31, 32, 33, 34, 35, 36, 37] (by decide +kernel) (by decide +kernel)) (goodIn_sub (fun _ h => List.mem_cons_of_mem _ (List.mem_append_right _ h)) (by decide +kernel))
set_option maxRecDepth 20000 in
theorem gX6_term_X6_needColumn : GoodIn wsX6_term (wsV RX6 101 RX6 yX6_needColumn wsX6_needColumn) := goodIn_app (goodIn_of _ (by decide +kernel)) ggX6_term_X6_needColumn
set_option maxRecDepth 20000 in
theorem ggX6_term_X6_isWithin : GoodIn wsX6_term wsX6_isWithin := goodIn_r _ [21] (by decide +kernel) (by decide +kernel)
set_option maxRecDepth 20000 in
theorem gX6_term_X6_isWithin : GoodIn wsX6_term (va_wsS RX6 73 yX6_isWithin wsX6_isWithin) := goodIn_app (goodIn_of _ (by decide +kernel)) ggX6_term_X6_isWithin
theorem dX6_term_0 : decode cX6_term 0 = .ok (.aload_n 0, 1) := by decide +kernel
theorem dX6_term_1 : decode cX6_term 1 = .ok (.iload_n 1, 1) := by decide +kernel
theorem dX6_term_2 : decode cX6_term 2 = .ok (.invokevirtual 97, 3) := by decide +kernel
theorem dX6_term_5 : decode cX6_term 5 = .ok (.aload_n 0, 1) := by decide +kernel
theorem dX6_term_6 : decode cX6_term 6 = .ok (.iload_n 2, 1) := by decide +kernel
theorem dX6_term_7 : decode cX6_term 7 = .ok (.invokevirtual 101, 3) := by decide +kernel
theorem dX6_term_10 : decode cX6_term 10 = .ok (.iload_n 3, 1) := by decide +kernel
theorem dX6_term_11 : decode cX6_term 11 = .ok (.bipush 100, 2) := by decide +kernel
theorem dX6_term_13 : decode cX6_term 13 = .ok (.invokestatic 73, 3) := by decide +kernel
theorem dX6_term_16 : decode cX6_term 16 = .ok (.ifCond .ne 13, 3) := by decide +kernel
theorem dX6_term_19 : decode cX6_term 19 = .ok (.new 76, 3) := by decide +kernel
theorem dX6_term_22 : decode cX6_term 22 = .ok (.dup, 1) := by decide +kernel
theorem dX6_term_23 : decode cX6_term 23 = .ok (.ldc 104, 2) := by decide +kernel
theorem dX6_term_25 : decode cX6_term 25 = .ok (.invokespecial 80, 3) := by decide +kernel
theorem dX6_term_28 : decode cX6_term 28 = .ok (.athrow, 1) := by decide +kernel
theorem dX6_term_29 : decode cX6_term 29 = .ok (.aload_n 0, 1) := by decide +kernel
theorem dX6_term_30 : decode cX6_term 30 = .ok (.iconst 0, 1) := by decide +kernel
theorem dX6_term_31 : decode cX6_term 31 = .ok (.putfield 53, 3) := by decide +kernel
theorem dX6_term_34 : decode cX6_term 34 = .ok (.aload_n 0, 1) := by decide +kernel
theorem dX6_term_35 : decode cX6_term 35 = .ok (.getfield 20, 3) := by decide +kernel
theorem dX6_term_38 : decode cX6_term 38 = .ok (.getfield 106, 3) := by decide +kernel
theorem dX6_term_41 : decode cX6_term 41 = .ok (.iload_n 1, 1) := by decide +kernel
theorem dX6_term_42 : decode cX6_term 42 = .ok (.aaload, 1) := by decide +kernel
theorem dX6_term_43 : decode cX6_term 43 = .ok (.iload_n 2, 1) := by decide +kernel
theorem dX6_term_44 : decode cX6_term 44 = .ok (.iload_n 3, 1) := by decide +kernel
theorem dX6_term_45 : decode cX6_term 45 = .ok (.iastore, 1) := by decide +kernel
theorem dX6_term_46 : decode cX6_term 46 = .ok (.return_, 1) := by decide +kernel
set_option maxRecDepth 20000 in
theorem ggX6_bounds_X6_needColumn : GoodIn wsX6_bounds wsX6_needColumn := goodIn_ca (goodIn_r _ [11, 12, 13, 4, 14, 21, 22, 23, 24, 25, 26, 27, 28, 29, 30, 31, 32, 33, 34, 35, 36] (by decide +kernel) (by decide +kernel)) (goodIn_sub (fun _ h => List.mem_cons_of_mem _ (List.mem_append_right _ h)) (by decide +kernel))
set_option maxRecDepth 20000 in
theorem gX6_bounds_X6_needColumn : GoodIn wsX6_bounds (wsV RX6 101 RX6 yX6_needColumn wsX6_needColumn) := goodIn_app (goodIn_of _ (by decide +kernel)) ggX6_bounds_X6_needColumn
set_option maxRecDepth 20000 in
theorem ggX6_bounds_X6_areBounds : GoodIn wsX6_bounds wsX6_areBounds := goodIn_r _ [17, 18, 19, 10, 20] (by decide +kernel) (by decide +kernel)
set_option maxRecDepth 20000 in
theorem gX6_bounds_X6_areBounds : GoodIn wsX6_bounds (va_wsS RX6 69 yX6_areBounds wsX6_areBounds) := goodIn_app (goodIn_of _ (by decide +kernel)) ggX6_bounds_X6_areBounds
theorem dX6_bounds_0 : decode cX6_bounds 0 = .ok (.aload_n 0, 1) := by decide +kernel
theorem dX6_bounds_1 : decode cX6_bounds 1 = .ok (.iload_n 1, 1) := by decide +kernel
theorem dX6_bounds_2 : decode cX6_bounds 2 = .ok (.invokevirtual 101, 3) := by decide +kernel
theorem dX6_bounds_5 : decode cX6_bounds 5 = .ok (.iload_n 2, 1) := by decide +kernel
theorem dX6_bounds_6 : decode cX6_bounds 6 = .ok (.iload_n 3, 1) := by decide +kernel
theorem dX6_bounds_7 : decode cX6_bounds 7 = .ok (.invokestatic 69, 3) := by decide +kernel
theorem dX6_bounds_10 : decode cX6_bounds 10 = .ok (.ifCond .ne 13, 3) := by decide +kernel
theorem dX6_bounds_13 : decode cX6_bounds 13 = .ok (.new 76, 3) := by decide +kernel
theorem dX6_bounds_16 : decode cX6_bounds 16 = .ok (.dup, 1) := by decide +kernel
theorem dX6_bounds_17 : decode cX6_bounds 17 = .ok (.ldc 110, 2) := by decide +kernel
theorem dX6_bounds_19 : decode cX6_bounds 19 = .ok (.invokespecial 80, 3) := by decide +kernel
theorem dX6_bounds_22 : decode cX6_bounds 22 = .ok (.athrow, 1) := by decide +kernel
theorem dX6_bounds_23 : decode cX6_bounds 23 = .ok (.aload_n 0, 1) := by decide +kernel
theorem dX6_bounds_24 : decode cX6_bounds 24 = .ok (.iconst 0, 1) := by decide +kernel
theorem dX6_bounds_25 : decode cX6_bounds 25 = .ok (.putfield 53, 3) := by decide +kernel
theorem dX6_bounds_28 : decode cX6_bounds 28 = .ok (.aload_n 0, 1) := by decide +kernel
theorem dX6_bounds_29 : decode cX6_bounds 29 = .ok (.getfield 20, 3) := by decide +kernel
theorem dX6_bounds_32 : decode cX6_bounds 32 = .ok (.getfield 112, 3) := by decide +kernel
theorem dX6_bounds_35 : decode cX6_bounds 35 = .ok (.iload_n 1, 1) := by decide +kernel
theorem dX6_bounds_36 : decode cX6_bounds 36 = .ok (.iload_n 2, 1) := by decide +kernel
theorem dX6_bounds_37 : decode cX6_bounds 37 = .ok (.iastore, 1) := by decide +kernel
theorem dX6_bounds_38 : decode cX6_bounds 38 = .ok (.aload_n 0, 1) := by decide +kernel
theorem dX6_bounds_39 : decode cX6_bounds 39 = .ok (.getfield 20, 3) := by decide +kernel
theorem dX6_bounds_42 : decode cX6_bounds 42 = .ok (.getfield 115, 3) := by decide +kernel
theorem dX6_bounds_45 : decode cX6_bounds 45 = .ok (.iload_n 1, 1) := by decide +kernel
theorem dX6_bounds_46 : decode cX6_bounds 46 = .ok (.iload_n 3, 1) := by decide +kernel
theorem dX6_bounds_47 : decode cX6_bounds 47 = .ok (.iastore, 1) := by decide +kernel
theorem dX6_bounds_48 : decode cX6_bounds 48 = .ok (.return_, 1) := by decide +kernel
set_option maxRecDepth 20000 in
theorem ggX6_cost_X6_needColumn : GoodIn wsX6_cost wsX6_needColumn := goodIn_ca (goodIn_r _ [10, 11, 12, 4, 13, 17, 18, 19, 20, 21, 22, 23, 24, 25, 26, 27, 28, 29, 30, 31, 32] (by decide +kernel) (by decide +kernel)) (goodIn_sub (fun _ h => List.mem_cons_of_mem _ (List.mem_append_right _ h)) (by decide +kernel))
set_option maxRecDepth 20000 in
theorem gX6_cost_X6_needColumn : GoodIn wsX6_cost (wsV RX6 101 RX6 yX6_needColumn wsX6_needColumn) := goodIn_app (goodIn_of _ (by decide +kernel)) ggX6_cost_X6_needColumn
set_option maxRecDepth 20000 in
theorem ggX6_cost_X6_isWithin : GoodIn wsX6_cost wsX6_isWithin := goodIn_r _ [16] (by decide +kernel) (by decide +kernel)
set_option maxRecDepth 20000 in
theorem gX6_cost_X6_isWithin : GoodIn wsX6_cost (va_wsS RX6 73 yX6_isWithin wsX6_isWithin) := goodIn_app (goodIn_of _ (by decide +kernel)) ggX6_cost_X6_isWithin
theorem dX6_cost_0 : decode cX6_cost 0 = .ok (.aload_n 0, 1) := by decide +kernel
theorem dX6_cost_1 : decode cX6_cost 1 = .ok (.iload_n 1, 1) := by decide +kernel
theorem dX6_cost_2 : decode cX6_cost 2 = .ok (.invokevirtual 101, 3) := by decide +kernel
theorem dX6_cost_5 : decode cX6_cost 5 = .ok (.iload_n 2, 1) := by decide +kernel
theorem dX6_cost_6 : decode cX6_cost 6 = .ok (.sipush 1000, 3) := by decide +kernel
theorem dX6_cost_9 : decode cX6_cost 9 = .ok (.invokestatic 73, 3) := by decide +kernel
theorem dX6_cost_12 : decode cX6_cost 12 = .ok (.ifCond .ne 13, 3) := by decide +kernel
