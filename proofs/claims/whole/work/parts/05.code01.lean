theorem dX1_nodeBefore_6 : decode cX1_nodeBefore 6 = .ok (.istore_n 2, 1) := by decide +kernel
theorem dX1_nodeBefore_7 : decode cX1_nodeBefore 7 = .ok (.aload_n 0, 1) := by decide +kernel
theorem dX1_nodeBefore_8 : decode cX1_nodeBefore 8 = .ok (.getfield 42, 3) := by decide +kernel
theorem dX1_nodeBefore_11 : decode cX1_nodeBefore 11 = .ok (.iload_n 1, 1) := by decide +kernel
theorem dX1_nodeBefore_12 : decode cX1_nodeBefore 12 = .ok (.baload, 1) := by decide +kernel
theorem dX1_nodeBefore_13 : decode cX1_nodeBefore 13 = .ok (.ifCond .eq 12, 3) := by decide +kernel
theorem dX1_nodeBefore_16 : decode cX1_nodeBefore 16 = .ok (.aload_n 0, 1) := by decide +kernel
theorem dX1_nodeBefore_17 : decode cX1_nodeBefore 17 = .ok (.getfield 15, 3) := by decide +kernel
theorem dX1_nodeBefore_20 : decode cX1_nodeBefore 20 = .ok (.iload_n 2, 1) := by decide +kernel
theorem dX1_nodeBefore_21 : decode cX1_nodeBefore 21 = .ok (.iaload, 1) := by decide +kernel
theorem dX1_nodeBefore_22 : decode cX1_nodeBefore 22 = .ok (.goto 9, 3) := by decide +kernel
theorem dX1_nodeBefore_25 : decode cX1_nodeBefore 25 = .ok (.aload_n 0, 1) := by decide +kernel
theorem dX1_nodeBefore_26 : decode cX1_nodeBefore 26 = .ok (.getfield 9, 3) := by decide +kernel
theorem dX1_nodeBefore_29 : decode cX1_nodeBefore 29 = .ok (.iload_n 2, 1) := by decide +kernel
theorem dX1_nodeBefore_30 : decode cX1_nodeBefore 30 = .ok (.iaload, 1) := by decide +kernel
theorem dX1_nodeBefore_31 : decode cX1_nodeBefore 31 = .ok (.ireturn, 1) := by decide +kernel
theorem dX2_init_0 : decode cX2_init 0 = .ok (.aload_n 0, 1) := by decide +kernel
theorem dX2_init_1 : decode cX2_init 1 = .ok (.invokespecial 3, 3) := by decide +kernel
theorem dX2_init_4 : decode cX2_init 4 = .ok (.aload_n 0, 1) := by decide +kernel
theorem dX2_init_5 : decode cX2_init 5 = .ok (.bipush 8, 2) := by decide +kernel
theorem dX2_init_7 : decode cX2_init 7 = .ok (.newarray .int, 2) := by decide +kernel
theorem dX2_init_9 : decode cX2_init 9 = .ok (.putfield 9, 3) := by decide +kernel
theorem dX2_init_12 : decode cX2_init 12 = .ok (.aload_n 0, 1) := by decide +kernel
theorem dX2_init_13 : decode cX2_init 13 = .ok (.bipush 9, 2) := by decide +kernel
theorem dX2_init_15 : decode cX2_init 15 = .ok (.newarray .int, 2) := by decide +kernel
theorem dX2_init_17 : decode cX2_init 17 = .ok (.putfield 15, 3) := by decide +kernel
theorem dX2_init_20 : decode cX2_init 20 = .ok (.aload_n 0, 1) := by decide +kernel
theorem dX2_init_21 : decode cX2_init 21 = .ok (.bipush 9, 2) := by decide +kernel
theorem dX2_init_23 : decode cX2_init 23 = .ok (.bipush 9, 2) := by decide +kernel
theorem dX2_init_25 : decode cX2_init 25 = .ok (.multianewarray 18 2, 4) := by decide +kernel
theorem dX2_init_29 : decode cX2_init 29 = .ok (.putfield 20, 3) := by decide +kernel
theorem dX2_init_32 : decode cX2_init 32 = .ok (.return_, 1) := by decide +kernel
set_option maxRecDepth 20000 in
theorem ggX2_choose_X2_setLimits : GoodIn wsX2_choose wsX2_setLimits := goodIn_r _ [7, 8, 9, 10, 11, 12, 13, 14, 15, 16, 17, 18, 19, 20, 21, 22, 23, 6, 24, 25, 26, 27, 28, 53, 54, 55, 56, 57, 58, 59, 60, 61, 62, 63, 64, 65, 66, 67] (by decide +kernel) (by decide +kernel)
set_option maxRecDepth 20000 in
theorem gX2_choose_X2_setLimits : GoodIn wsX2_choose (wsV RX2 23 RX2 yX2_setLimits wsX2_setLimits) := goodIn_app (goodIn_of _ (by decide +kernel)) ggX2_choose_X2_setLimits
set_option maxRecDepth 20000 in
theorem ggX2_choose_X2_tightenLimits : GoodIn wsX2_choose wsX2_tightenLimits := goodIn_r _ [32, 8, 9, 33, 34, 35, 6, 36, 21, 22, 23, 24, 25, 26, 27, 28, 53, 54, 55] (by decide +kernel) (by decide +kernel)
set_option maxRecDepth 20000 in
theorem gX2_choose_X2_tightenLimits : GoodIn wsX2_choose (wsV RX2 27 RX2 yX2_tightenLimits wsX2_tightenLimits) := goodIn_app (goodIn_of _ (by decide +kernel)) ggX2_choose_X2_tightenLimits
set_option maxRecDepth 20000 in
theorem ggX2_choose_X2_nearestToZero : GoodIn wsX2_choose wsX2_nearestToZero := goodIn_r _ [40, 41, 42, 27, 43, 25, 26, 28, 44, 45, 46, 6, 47, 8, 9, 1, 48, 49, 50, 51, 52, 53, 54, 55] (by decide +kernel) (by decide +kernel)
set_option maxRecDepth 20000 in
theorem gX2_choose_X2_nearestToZero : GoodIn wsX2_choose (wsV RX2 30 RX2 yX2_nearestToZero wsX2_nearestToZero) := goodIn_app (goodIn_of _ (by decide +kernel)) ggX2_choose_X2_nearestToZero
theorem dX2_choose_0 : decode cX2_choose 0 = .ok (.aload_n 0, 1) := by decide +kernel
theorem dX2_choose_1 : decode cX2_choose 1 = .ok (.aload_n 1, 1) := by decide +kernel
theorem dX2_choose_2 : decode cX2_choose 2 = .ok (.invokevirtual 23, 3) := by decide +kernel
theorem dX2_choose_5 : decode cX2_choose 5 = .ok (.aload_n 0, 1) := by decide +kernel
theorem dX2_choose_6 : decode cX2_choose 6 = .ok (.invokevirtual 27, 3) := by decide +kernel
theorem dX2_choose_9 : decode cX2_choose 9 = .ok (.aload_n 0, 1) := by decide +kernel
theorem dX2_choose_10 : decode cX2_choose 10 = .ok (.getfield 15, 3) := by decide +kernel
theorem dX2_choose_13 : decode cX2_choose 13 = .ok (.bipush 8, 2) := by decide +kernel
theorem dX2_choose_15 : decode cX2_choose 15 = .ok (.iconst 0, 1) := by decide +kernel
theorem dX2_choose_16 : decode cX2_choose 16 = .ok (.iastore, 1) := by decide +kernel
theorem dX2_choose_17 : decode cX2_choose 17 = .ok (.iconst 0, 1) := by decide +kernel
theorem dX2_choose_18 : decode cX2_choose 18 = .ok (.istore 4, 2) := by decide +kernel
theorem dX2_choose_20 : decode cX2_choose 20 = .ok (.iload 4, 2) := by decide +kernel
theorem dX2_choose_22 : decode cX2_choose 22 = .ok (.iload_n 3, 1) := by decide +kernel
theorem dX2_choose_23 : decode cX2_choose 23 = .ok (.if_icmp .ge 41, 3) := by decide +kernel
theorem dX2_choose_26 : decode cX2_choose 26 = .ok (.aload_n 0, 1) := by decide +kernel
theorem dX2_choose_27 : decode cX2_choose 27 = .ok (.getfield 15, 3) := by decide +kernel
theorem dX2_choose_30 : decode cX2_choose 30 = .ok (.iload 4, 2) := by decide +kernel
theorem dX2_choose_32 : decode cX2_choose 32 = .ok (.aload_n 0, 1) := by decide +kernel
theorem dX2_choose_33 : decode cX2_choose 33 = .ok (.iload 4, 2) := by decide +kernel
theorem dX2_choose_35 : decode cX2_choose 35 = .ok (.invokevirtual 30, 3) := by decide +kernel
theorem dX2_choose_38 : decode cX2_choose 38 = .ok (.iastore, 1) := by decide +kernel
theorem dX2_choose_39 : decode cX2_choose 39 = .ok (.aload_n 0, 1) := by decide +kernel
theorem dX2_choose_40 : decode cX2_choose 40 = .ok (.getfield 9, 3) := by decide +kernel
theorem dX2_choose_43 : decode cX2_choose 43 = .ok (.iload 4, 2) := by decide +kernel
theorem dX2_choose_45 : decode cX2_choose 45 = .ok (.aload_n 0, 1) := by decide +kernel
theorem dX2_choose_46 : decode cX2_choose 46 = .ok (.getfield 15, 3) := by decide +kernel
theorem dX2_choose_49 : decode cX2_choose 49 = .ok (.iload 4, 2) := by decide +kernel
theorem dX2_choose_51 : decode cX2_choose 51 = .ok (.iaload, 1) := by decide +kernel
theorem dX2_choose_52 : decode cX2_choose 52 = .ok (.aload_n 2, 1) := by decide +kernel
theorem dX2_choose_53 : decode cX2_choose 53 = .ok (.iload 4, 2) := by decide +kernel
theorem dX2_choose_55 : decode cX2_choose 55 = .ok (.iaload, 1) := by decide +kernel
theorem dX2_choose_56 : decode cX2_choose 56 = .ok (.imul, 1) := by decide +kernel
theorem dX2_choose_57 : decode cX2_choose 57 = .ok (.iastore, 1) := by decide +kernel
theorem dX2_choose_58 : decode cX2_choose 58 = .ok (.iinc 4 1, 3) := by decide +kernel
theorem dX2_choose_61 : decode cX2_choose 61 = .ok (.goto (-41), 3) := by decide +kernel
theorem dX2_choose_64 : decode cX2_choose 64 = .ok (.return_, 1) := by decide +kernel
set_option maxRecDepth 20000 in
theorem ggX2_setLimits_J7_fill_53178 : GoodIn wsX2_setLimits wsJ7_fill_53178 := goodIn_r _ [13] (by decide +kernel) (by decide +kernel)
set_option maxRecDepth 20000 in
theorem gX2_setLimits_J7_fill_53178 : GoodIn wsX2_setLimits (va_wsS RX2 35 yJ7_fill_53178 wsJ7_fill_53178) := goodIn_app (goodIn_of _ (by decide +kernel)) ggX2_setLimits_J7_fill_53178
set_option maxRecDepth 20000 in
theorem ggX2_setLimits_X2_limit : GoodIn wsX2_setLimits wsX2_limit := goodIn_r _ [18, 1, 19, 20, 21, 22, 23, 24, 25] (by decide +kernel) (by decide +kernel)
set_option maxRecDepth 20000 in
theorem gX2_setLimits_X2_limit : GoodIn wsX2_setLimits (wsV RX2 62 RX2 yX2_limit wsX2_limit) := goodIn_app (goodIn_of _ (by decide +kernel)) ggX2_setLimits_X2_limit
theorem dX2_setLimits_0 : decode cX2_setLimits 0 = .ok (.iconst 0, 1) := by decide +kernel
theorem dX2_setLimits_1 : decode cX2_setLimits 1 = .ok (.istore_n 2, 1) := by decide +kernel
theorem dX2_setLimits_2 : decode cX2_setLimits 2 = .ok (.iload_n 2, 1) := by decide +kernel
theorem dX2_setLimits_3 : decode cX2_setLimits 3 = .ok (.bipush 9, 2) := by decide +kernel
theorem dX2_setLimits_5 : decode cX2_setLimits 5 = .ok (.if_icmp .ge 29, 3) := by decide +kernel
theorem dX2_setLimits_8 : decode cX2_setLimits 8 = .ok (.aload_n 0, 1) := by decide +kernel
theorem dX2_setLimits_9 : decode cX2_setLimits 9 = .ok (.getfield 20, 3) := by decide +kernel
theorem dX2_setLimits_12 : decode cX2_setLimits 12 = .ok (.iload_n 2, 1) := by decide +kernel
theorem dX2_setLimits_13 : decode cX2_setLimits 13 = .ok (.aaload, 1) := by decide +kernel
theorem dX2_setLimits_14 : decode cX2_setLimits 14 = .ok (.ldc 34, 2) := by decide +kernel
theorem dX2_setLimits_16 : decode cX2_setLimits 16 = .ok (.invokestatic 35, 3) := by decide +kernel
theorem dX2_setLimits_19 : decode cX2_setLimits 19 = .ok (.aload_n 0, 1) := by decide +kernel
theorem dX2_setLimits_20 : decode cX2_setLimits 20 = .ok (.getfield 20, 3) := by decide +kernel
theorem dX2_setLimits_23 : decode cX2_setLimits 23 = .ok (.iload_n 2, 1) := by decide +kernel
theorem dX2_setLimits_24 : decode cX2_setLimits 24 = .ok (.aaload, 1) := by decide +kernel
theorem dX2_setLimits_25 : decode cX2_setLimits 25 = .ok (.iload_n 2, 1) := by decide +kernel
theorem dX2_setLimits_26 : decode cX2_setLimits 26 = .ok (.iconst 0, 1) := by decide +kernel
theorem dX2_setLimits_27 : decode cX2_setLimits 27 = .ok (.iastore, 1) := by decide +kernel
theorem dX2_setLimits_28 : decode cX2_setLimits 28 = .ok (.iinc 2 1, 3) := by decide +kernel
theorem dX2_setLimits_31 : decode cX2_setLimits 31 = .ok (.goto (-29), 3) := by decide +kernel
theorem dX2_setLimits_34 : decode cX2_setLimits 34 = .ok (.iconst 0, 1) := by decide +kernel
theorem dX2_setLimits_35 : decode cX2_setLimits 35 = .ok (.istore_n 2, 1) := by decide +kernel
theorem dX2_setLimits_36 : decode cX2_setLimits 36 = .ok (.iload_n 2, 1) := by decide +kernel
theorem dX2_setLimits_37 : decode cX2_setLimits 37 = .ok (.aload_n 1, 1) := by decide +kernel
theorem dX2_setLimits_38 : decode cX2_setLimits 38 = .ok (.getfield 41, 3) := by decide +kernel
theorem dX2_setLimits_41 : decode cX2_setLimits 41 = .ok (.if_icmp .ge 81, 3) := by decide +kernel
theorem dX2_setLimits_44 : decode cX2_setLimits 44 = .ok (.aload_n 1, 1) := by decide +kernel
theorem dX2_setLimits_45 : decode cX2_setLimits 45 = .ok (.getfield 47, 3) := by decide +kernel
theorem dX2_setLimits_48 : decode cX2_setLimits 48 = .ok (.iload_n 2, 1) := by decide +kernel
theorem dX2_setLimits_49 : decode cX2_setLimits 49 = .ok (.iaload, 1) := by decide +kernel
theorem dX2_setLimits_50 : decode cX2_setLimits 50 = .ok (.istore_n 3, 1) := by decide +kernel
theorem dX2_setLimits_51 : decode cX2_setLimits 51 = .ok (.aload_n 1, 1) := by decide +kernel
theorem dX2_setLimits_52 : decode cX2_setLimits 52 = .ok (.getfield 50, 3) := by decide +kernel
theorem dX2_setLimits_55 : decode cX2_setLimits 55 = .ok (.iload_n 2, 1) := by decide +kernel
theorem dX2_setLimits_56 : decode cX2_setLimits 56 = .ok (.iaload, 1) := by decide +kernel
theorem dX2_setLimits_57 : decode cX2_setLimits 57 = .ok (.istore 4, 2) := by decide +kernel
theorem dX2_setLimits_59 : decode cX2_setLimits 59 = .ok (.aload_n 1, 1) := by decide +kernel
theorem dX2_setLimits_60 : decode cX2_setLimits 60 = .ok (.getfield 53, 3) := by decide +kernel
theorem dX2_setLimits_63 : decode cX2_setLimits 63 = .ok (.iload_n 2, 1) := by decide +kernel
theorem dX2_setLimits_64 : decode cX2_setLimits 64 = .ok (.iaload, 1) := by decide +kernel
theorem dX2_setLimits_65 : decode cX2_setLimits 65 = .ok (.aload_n 1, 1) := by decide +kernel
theorem dX2_setLimits_66 : decode cX2_setLimits 66 = .ok (.getfield 56, 3) := by decide +kernel
theorem dX2_setLimits_69 : decode cX2_setLimits 69 = .ok (.iload_n 2, 1) := by decide +kernel
theorem dX2_setLimits_70 : decode cX2_setLimits 70 = .ok (.iaload, 1) := by decide +kernel
theorem dX2_setLimits_71 : decode cX2_setLimits 71 = .ok (.if_icmp .ge 16, 3) := by decide +kernel
theorem dX2_setLimits_74 : decode cX2_setLimits 74 = .ok (.aload_n 0, 1) := by decide +kernel
theorem dX2_setLimits_75 : decode cX2_setLimits 75 = .ok (.iload 4, 2) := by decide +kernel
theorem dX2_setLimits_77 : decode cX2_setLimits 77 = .ok (.iload_n 3, 1) := by decide +kernel
theorem dX2_setLimits_78 : decode cX2_setLimits 78 = .ok (.aload_n 1, 1) := by decide +kernel
theorem dX2_setLimits_79 : decode cX2_setLimits 79 = .ok (.getfield 59, 3) := by decide +kernel
theorem dX2_setLimits_82 : decode cX2_setLimits 82 = .ok (.iload_n 2, 1) := by decide +kernel
theorem dX2_setLimits_83 : decode cX2_setLimits 83 = .ok (.iaload, 1) := by decide +kernel
theorem dX2_setLimits_84 : decode cX2_setLimits 84 = .ok (.invokevirtual 62, 3) := by decide +kernel
theorem dX2_setLimits_87 : decode cX2_setLimits 87 = .ok (.aload_n 1, 1) := by decide +kernel
theorem dX2_setLimits_88 : decode cX2_setLimits 88 = .ok (.getfield 53, 3) := by decide +kernel
theorem dX2_setLimits_91 : decode cX2_setLimits 91 = .ok (.iload_n 2, 1) := by decide +kernel
theorem dX2_setLimits_92 : decode cX2_setLimits 92 = .ok (.iaload, 1) := by decide +kernel
theorem dX2_setLimits_93 : decode cX2_setLimits 93 = .ok (.aload_n 1, 1) := by decide +kernel
theorem dX2_setLimits_94 : decode cX2_setLimits 94 = .ok (.getfield 66, 3) := by decide +kernel
theorem dX2_setLimits_97 : decode cX2_setLimits 97 = .ok (.iload_n 2, 1) := by decide +kernel
theorem dX2_setLimits_98 : decode cX2_setLimits 98 = .ok (.iaload, 1) := by decide +kernel
theorem dX2_setLimits_99 : decode cX2_setLimits 99 = .ok (.if_icmp .le 17, 3) := by decide +kernel
theorem dX2_setLimits_102 : decode cX2_setLimits 102 = .ok (.aload_n 0, 1) := by decide +kernel
theorem dX2_setLimits_103 : decode cX2_setLimits 103 = .ok (.iload_n 3, 1) := by decide +kernel
theorem dX2_setLimits_104 : decode cX2_setLimits 104 = .ok (.iload 4, 2) := by decide +kernel
theorem dX2_setLimits_106 : decode cX2_setLimits 106 = .ok (.aload_n 1, 1) := by decide +kernel
theorem dX2_setLimits_107 : decode cX2_setLimits 107 = .ok (.getfield 59, 3) := by decide +kernel
theorem dX2_setLimits_110 : decode cX2_setLimits 110 = .ok (.iload_n 2, 1) := by decide +kernel
theorem dX2_setLimits_111 : decode cX2_setLimits 111 = .ok (.iaload, 1) := by decide +kernel
theorem dX2_setLimits_112 : decode cX2_setLimits 112 = .ok (.ineg, 1) := by decide +kernel
theorem dX2_setLimits_113 : decode cX2_setLimits 113 = .ok (.invokevirtual 62, 3) := by decide +kernel
theorem dX2_setLimits_116 : decode cX2_setLimits 116 = .ok (.iinc 2 1, 3) := by decide +kernel
theorem dX2_setLimits_119 : decode cX2_setLimits 119 = .ok (.goto (-83), 3) := by decide +kernel
theorem dX2_setLimits_122 : decode cX2_setLimits 122 = .ok (.return_, 1) := by decide +kernel
theorem dX2_limit_0 : decode cX2_limit 0 = .ok (.aload_n 0, 1) := by decide +kernel
theorem dX2_limit_1 : decode cX2_limit 1 = .ok (.getfield 20, 3) := by decide +kernel
theorem dX2_limit_4 : decode cX2_limit 4 = .ok (.iload_n 1, 1) := by decide +kernel
theorem dX2_limit_5 : decode cX2_limit 5 = .ok (.aaload, 1) := by decide +kernel
theorem dX2_limit_6 : decode cX2_limit 6 = .ok (.iload_n 2, 1) := by decide +kernel
theorem dX2_limit_7 : decode cX2_limit 7 = .ok (.aload_n 0, 1) := by decide +kernel
theorem dX2_limit_8 : decode cX2_limit 8 = .ok (.getfield 20, 3) := by decide +kernel
theorem dX2_limit_11 : decode cX2_limit 11 = .ok (.iload_n 1, 1) := by decide +kernel
theorem dX2_limit_12 : decode cX2_limit 12 = .ok (.aaload, 1) := by decide +kernel
theorem dX2_limit_13 : decode cX2_limit 13 = .ok (.iload_n 2, 1) := by decide +kernel
theorem dX2_limit_14 : decode cX2_limit 14 = .ok (.iaload, 1) := by decide +kernel
theorem dX2_limit_15 : decode cX2_limit 15 = .ok (.iload_n 3, 1) := by decide +kernel
theorem dX2_limit_16 : decode cX2_limit 16 = .ok (.invokestatic 69, 3) := by decide +kernel
theorem dX2_limit_19 : decode cX2_limit 19 = .ok (.iastore, 1) := by decide +kernel
theorem dX2_limit_20 : decode cX2_limit 20 = .ok (.return_, 1) := by decide +kernel
set_option maxRecDepth 20000 in
theorem ggX2_tightenLimits_X2_tightenThrough : GoodIn wsX2_tightenLimits wsX2_tightenThrough := goodIn_r _ [7, 1, 2, 8, 9, 10, 6, 11, 12, 13, 14, 15, 16, 17, 18] (by decide +kernel) (by decide +kernel)
set_option maxRecDepth 20000 in
theorem gX2_tightenLimits_X2_tightenThrough : GoodIn wsX2_tightenLimits (wsV RX2 75 RX2 yX2_tightenThrough wsX2_tightenThrough) := goodIn_app (goodIn_of _ (by decide +kernel)) ggX2_tightenLimits_X2_tightenThrough
theorem dX2_tightenLimits_0 : decode cX2_tightenLimits 0 = .ok (.iconst 0, 1) := by decide +kernel
theorem dX2_tightenLimits_1 : decode cX2_tightenLimits 1 = .ok (.istore_n 1, 1) := by decide +kernel
theorem dX2_tightenLimits_2 : decode cX2_tightenLimits 2 = .ok (.iload_n 1, 1) := by decide +kernel
theorem dX2_tightenLimits_3 : decode cX2_tightenLimits 3 = .ok (.bipush 9, 2) := by decide +kernel
theorem dX2_tightenLimits_5 : decode cX2_tightenLimits 5 = .ok (.if_icmp .ge 42, 3) := by decide +kernel
theorem dX2_tightenLimits_8 : decode cX2_tightenLimits 8 = .ok (.iconst 0, 1) := by decide +kernel
theorem dX2_tightenLimits_9 : decode cX2_tightenLimits 9 = .ok (.istore_n 2, 1) := by decide +kernel
theorem dX2_tightenLimits_10 : decode cX2_tightenLimits 10 = .ok (.iload_n 2, 1) := by decide +kernel
theorem dX2_tightenLimits_11 : decode cX2_tightenLimits 11 = .ok (.bipush 9, 2) := by decide +kernel
theorem dX2_tightenLimits_13 : decode cX2_tightenLimits 13 = .ok (.if_icmp .ge 28, 3) := by decide +kernel
theorem dX2_tightenLimits_16 : decode cX2_tightenLimits 16 = .ok (.aload_n 0, 1) := by decide +kernel
theorem dX2_tightenLimits_17 : decode cX2_tightenLimits 17 = .ok (.getfield 20, 3) := by decide +kernel
theorem dX2_tightenLimits_20 : decode cX2_tightenLimits 20 = .ok (.iload_n 2, 1) := by decide +kernel
theorem dX2_tightenLimits_21 : decode cX2_tightenLimits 21 = .ok (.aaload, 1) := by decide +kernel
theorem dX2_tightenLimits_22 : decode cX2_tightenLimits 22 = .ok (.iload_n 1, 1) := by decide +kernel
theorem dX2_tightenLimits_23 : decode cX2_tightenLimits 23 = .ok (.iaload, 1) := by decide +kernel
theorem dX2_tightenLimits_24 : decode cX2_tightenLimits 24 = .ok (.ldc 34, 2) := by decide +kernel
theorem dX2_tightenLimits_26 : decode cX2_tightenLimits 26 = .ok (.if_icmp .ge 9, 3) := by decide +kernel
theorem dX2_tightenLimits_29 : decode cX2_tightenLimits 29 = .ok (.aload_n 0, 1) := by decide +kernel
theorem dX2_tightenLimits_30 : decode cX2_tightenLimits 30 = .ok (.iload_n 2, 1) := by decide +kernel
theorem dX2_tightenLimits_31 : decode cX2_tightenLimits 31 = .ok (.iload_n 1, 1) := by decide +kernel
theorem dX2_tightenLimits_32 : decode cX2_tightenLimits 32 = .ok (.invokevirtual 75, 3) := by decide +kernel
theorem dX2_tightenLimits_35 : decode cX2_tightenLimits 35 = .ok (.iinc 2 1, 3) := by decide +kernel
theorem dX2_tightenLimits_38 : decode cX2_tightenLimits 38 = .ok (.goto (-28), 3) := by decide +kernel
theorem dX2_tightenLimits_41 : decode cX2_tightenLimits 41 = .ok (.iinc 1 1, 3) := by decide +kernel
theorem dX2_tightenLimits_44 : decode cX2_tightenLimits 44 = .ok (.goto (-42), 3) := by decide +kernel
theorem dX2_tightenLimits_47 : decode cX2_tightenLimits 47 = .ok (.return_, 1) := by decide +kernel
set_option maxRecDepth 20000 in
theorem ggX2_tightenThrough_X2_limit : GoodIn wsX2_tightenThrough wsX2_limit := goodIn_r _ [7, 1, 8, 9, 10, 11, 12, 13, 14] (by decide +kernel) (by decide +kernel)
set_option maxRecDepth 20000 in
theorem gX2_tightenThrough_X2_limit : GoodIn wsX2_tightenThrough (wsV RX2 62 RX2 yX2_limit wsX2_limit) := goodIn_app (goodIn_of _ (by decide +kernel)) ggX2_tightenThrough_X2_limit
theorem dX2_tightenThrough_0 : decode cX2_tightenThrough 0 = .ok (.iconst 0, 1) := by decide +kernel
theorem dX2_tightenThrough_1 : decode cX2_tightenThrough 1 = .ok (.istore_n 3, 1) := by decide +kernel
theorem dX2_tightenThrough_2 : decode cX2_tightenThrough 2 = .ok (.iload_n 3, 1) := by decide +kernel
theorem dX2_tightenThrough_3 : decode cX2_tightenThrough 3 = .ok (.bipush 9, 2) := by decide +kernel
theorem dX2_tightenThrough_5 : decode cX2_tightenThrough 5 = .ok (.if_icmp .ge 45, 3) := by decide +kernel
theorem dX2_tightenThrough_8 : decode cX2_tightenThrough 8 = .ok (.aload_n 0, 1) := by decide +kernel
theorem dX2_tightenThrough_9 : decode cX2_tightenThrough 9 = .ok (.getfield 20, 3) := by decide +kernel
theorem dX2_tightenThrough_12 : decode cX2_tightenThrough 12 = .ok (.iload_n 2, 1) := by decide +kernel
theorem dX2_tightenThrough_13 : decode cX2_tightenThrough 13 = .ok (.aaload, 1) := by decide +kernel
theorem dX2_tightenThrough_14 : decode cX2_tightenThrough 14 = .ok (.iload_n 3, 1) := by decide +kernel
theorem dX2_tightenThrough_15 : decode cX2_tightenThrough 15 = .ok (.iaload, 1) := by decide +kernel
theorem dX2_tightenThrough_16 : decode cX2_tightenThrough 16 = .ok (.ldc 34, 2) := by decide +kernel
theorem dX2_tightenThrough_18 : decode cX2_tightenThrough 18 = .ok (.if_icmp .ge 26, 3) := by decide +kernel
theorem dX2_tightenThrough_21 : decode cX2_tightenThrough 21 = .ok (.aload_n 0, 1) := by decide +kernel
theorem dX2_tightenThrough_22 : decode cX2_tightenThrough 22 = .ok (.iload_n 1, 1) := by decide +kernel
theorem dX2_tightenThrough_23 : decode cX2_tightenThrough 23 = .ok (.iload_n 3, 1) := by decide +kernel
theorem dX2_tightenThrough_24 : decode cX2_tightenThrough 24 = .ok (.aload_n 0, 1) := by decide +kernel
theorem dX2_tightenThrough_25 : decode cX2_tightenThrough 25 = .ok (.getfield 20, 3) := by decide +kernel
theorem dX2_tightenThrough_28 : decode cX2_tightenThrough 28 = .ok (.iload_n 1, 1) := by decide +kernel
theorem dX2_tightenThrough_29 : decode cX2_tightenThrough 29 = .ok (.aaload, 1) := by decide +kernel
theorem dX2_tightenThrough_30 : decode cX2_tightenThrough 30 = .ok (.iload_n 2, 1) := by decide +kernel
theorem dX2_tightenThrough_31 : decode cX2_tightenThrough 31 = .ok (.iaload, 1) := by decide +kernel
theorem dX2_tightenThrough_32 : decode cX2_tightenThrough 32 = .ok (.aload_n 0, 1) := by decide +kernel
theorem dX2_tightenThrough_33 : decode cX2_tightenThrough 33 = .ok (.getfield 20, 3) := by decide +kernel
theorem dX2_tightenThrough_36 : decode cX2_tightenThrough 36 = .ok (.iload_n 2, 1) := by decide +kernel
theorem dX2_tightenThrough_37 : decode cX2_tightenThrough 37 = .ok (.aaload, 1) := by decide +kernel
theorem dX2_tightenThrough_38 : decode cX2_tightenThrough 38 = .ok (.iload_n 3, 1) := by decide +kernel
theorem dX2_tightenThrough_39 : decode cX2_tightenThrough 39 = .ok (.iaload, 1) := by decide +kernel
theorem dX2_tightenThrough_40 : decode cX2_tightenThrough 40 = .ok (.iadd, 1) := by decide +kernel
theorem dX2_tightenThrough_41 : decode cX2_tightenThrough 41 = .ok (.invokevirtual 62, 3) := by decide +kernel
theorem dX2_tightenThrough_44 : decode cX2_tightenThrough 44 = .ok (.iinc 3 1, 3) := by decide +kernel
theorem dX2_tightenThrough_47 : decode cX2_tightenThrough 47 = .ok (.goto (-45), 3) := by decide +kernel
theorem dX2_tightenThrough_50 : decode cX2_tightenThrough 50 = .ok (.return_, 1) := by decide +kernel
set_option maxRecDepth 20000 in
theorem ggX2_nearestToZero_X2_leastBeside : GoodIn wsX2_nearestToZero wsX2_leastBeside := goodIn_r _ [12, 13, 14, 15, 16, 21, 22, 23] (by decide +kernel) (by decide +kernel)
set_option maxRecDepth 20000 in
theorem gX2_nearestToZero_X2_leastBeside : GoodIn wsX2_nearestToZero (wsV RX2 79 RX2 yX2_leastBeside wsX2_leastBeside) := goodIn_app (goodIn_of _ (by decide +kernel)) ggX2_nearestToZero_X2_leastBeside
set_option maxRecDepth 20000 in
theorem ggX2_nearestToZero_X2_greatestBeside : GoodIn wsX2_nearestToZero wsX2_greatestBeside := goodIn_r _ [20, 13, 14, 15, 21, 22, 23] (by decide +kernel) (by decide +kernel)
set_option maxRecDepth 20000 in
theorem gX2_nearestToZero_X2_greatestBeside : GoodIn wsX2_nearestToZero (wsV RX2 82 RX2 yX2_greatestBeside wsX2_greatestBeside) := goodIn_app (goodIn_of _ (by decide +kernel)) ggX2_nearestToZero_X2_greatestBeside
theorem dX2_nearestToZero_0 : decode cX2_nearestToZero 0 = .ok (.aload_n 0, 1) := by decide +kernel
theorem dX2_nearestToZero_1 : decode cX2_nearestToZero 1 = .ok (.iload_n 1, 1) := by decide +kernel
theorem dX2_nearestToZero_2 : decode cX2_nearestToZero 2 = .ok (.bipush 8, 2) := by decide +kernel
theorem dX2_nearestToZero_4 : decode cX2_nearestToZero 4 = .ok (.invokevirtual 79, 3) := by decide +kernel
theorem dX2_nearestToZero_7 : decode cX2_nearestToZero 7 = .ok (.istore_n 2, 1) := by decide +kernel
theorem dX2_nearestToZero_8 : decode cX2_nearestToZero 8 = .ok (.aload_n 0, 1) := by decide +kernel
theorem dX2_nearestToZero_9 : decode cX2_nearestToZero 9 = .ok (.iload_n 1, 1) := by decide +kernel
theorem dX2_nearestToZero_10 : decode cX2_nearestToZero 10 = .ok (.bipush 8, 2) := by decide +kernel
theorem dX2_nearestToZero_12 : decode cX2_nearestToZero 12 = .ok (.invokevirtual 82, 3) := by decide +kernel
theorem dX2_nearestToZero_15 : decode cX2_nearestToZero 15 = .ok (.istore_n 3, 1) := by decide +kernel
theorem dX2_nearestToZero_16 : decode cX2_nearestToZero 16 = .ok (.iconst 0, 1) := by decide +kernel
theorem dX2_nearestToZero_17 : decode cX2_nearestToZero 17 = .ok (.istore 4, 2) := by decide +kernel
theorem dX2_nearestToZero_19 : decode cX2_nearestToZero 19 = .ok (.iload 4, 2) := by decide +kernel
theorem dX2_nearestToZero_21 : decode cX2_nearestToZero 21 = .ok (.iload_n 1, 1) := by decide +kernel
theorem dX2_nearestToZero_22 : decode cX2_nearestToZero 22 = .ok (.if_icmp .ge 33, 3) := by decide +kernel
theorem dX2_nearestToZero_25 : decode cX2_nearestToZero 25 = .ok (.iload_n 2, 1) := by decide +kernel
theorem dX2_nearestToZero_26 : decode cX2_nearestToZero 26 = .ok (.aload_n 0, 1) := by decide +kernel
theorem dX2_nearestToZero_27 : decode cX2_nearestToZero 27 = .ok (.iload_n 1, 1) := by decide +kernel
theorem dX2_nearestToZero_28 : decode cX2_nearestToZero 28 = .ok (.iload 4, 2) := by decide +kernel
theorem dX2_nearestToZero_30 : decode cX2_nearestToZero 30 = .ok (.invokevirtual 79, 3) := by decide +kernel
theorem dX2_nearestToZero_33 : decode cX2_nearestToZero 33 = .ok (.invokestatic 85, 3) := by decide +kernel
theorem dX2_nearestToZero_36 : decode cX2_nearestToZero 36 = .ok (.istore_n 2, 1) := by decide +kernel
theorem dX2_nearestToZero_37 : decode cX2_nearestToZero 37 = .ok (.iload_n 3, 1) := by decide +kernel
theorem dX2_nearestToZero_38 : decode cX2_nearestToZero 38 = .ok (.aload_n 0, 1) := by decide +kernel
theorem dX2_nearestToZero_39 : decode cX2_nearestToZero 39 = .ok (.iload_n 1, 1) := by decide +kernel
theorem dX2_nearestToZero_40 : decode cX2_nearestToZero 40 = .ok (.iload 4, 2) := by decide +kernel
theorem dX2_nearestToZero_42 : decode cX2_nearestToZero 42 = .ok (.invokevirtual 82, 3) := by decide +kernel
theorem dX2_nearestToZero_45 : decode cX2_nearestToZero 45 = .ok (.invokestatic 69, 3) := by decide +kernel
theorem dX2_nearestToZero_48 : decode cX2_nearestToZero 48 = .ok (.istore_n 3, 1) := by decide +kernel
theorem dX2_nearestToZero_49 : decode cX2_nearestToZero 49 = .ok (.iinc 4 1, 3) := by decide +kernel
theorem dX2_nearestToZero_52 : decode cX2_nearestToZero 52 = .ok (.goto (-33), 3) := by decide +kernel
theorem dX2_nearestToZero_55 : decode cX2_nearestToZero 55 = .ok (.iload_n 2, 1) := by decide +kernel
theorem dX2_nearestToZero_56 : decode cX2_nearestToZero 56 = .ok (.ifCond .le 7, 3) := by decide +kernel
theorem dX2_nearestToZero_59 : decode cX2_nearestToZero 59 = .ok (.iload_n 2, 1) := by decide +kernel
theorem dX2_nearestToZero_60 : decode cX2_nearestToZero 60 = .ok (.goto 8, 3) := by decide +kernel
theorem dX2_nearestToZero_63 : decode cX2_nearestToZero 63 = .ok (.iload_n 3, 1) := by decide +kernel
theorem dX2_nearestToZero_64 : decode cX2_nearestToZero 64 = .ok (.iconst 0, 1) := by decide +kernel
theorem dX2_nearestToZero_65 : decode cX2_nearestToZero 65 = .ok (.invokestatic 69, 3) := by decide +kernel
theorem dX2_nearestToZero_68 : decode cX2_nearestToZero 68 = .ok (.ireturn, 1) := by decide +kernel
theorem dX2_leastBeside_0 : decode cX2_leastBeside 0 = .ok (.aload_n 0, 1) := by decide +kernel
theorem dX2_leastBeside_1 : decode cX2_leastBeside 1 = .ok (.getfield 20, 3) := by decide +kernel
theorem dX2_leastBeside_4 : decode cX2_leastBeside 4 = .ok (.iload_n 1, 1) := by decide +kernel
theorem dX2_leastBeside_5 : decode cX2_leastBeside 5 = .ok (.aaload, 1) := by decide +kernel
theorem dX2_leastBeside_6 : decode cX2_leastBeside 6 = .ok (.iload_n 2, 1) := by decide +kernel
theorem dX2_leastBeside_7 : decode cX2_leastBeside 7 = .ok (.iaload, 1) := by decide +kernel
theorem dX2_leastBeside_8 : decode cX2_leastBeside 8 = .ok (.ldc 34, 2) := by decide +kernel
theorem dX2_leastBeside_10 : decode cX2_leastBeside 10 = .ok (.if_icmp .ge 21, 3) := by decide +kernel
theorem dX2_leastBeside_13 : decode cX2_leastBeside 13 = .ok (.aload_n 0, 1) := by decide +kernel
theorem dX2_leastBeside_14 : decode cX2_leastBeside 14 = .ok (.getfield 15, 3) := by decide +kernel
theorem dX2_leastBeside_17 : decode cX2_leastBeside 17 = .ok (.iload_n 2, 1) := by decide +kernel
theorem dX2_leastBeside_18 : decode cX2_leastBeside 18 = .ok (.iaload, 1) := by decide +kernel
theorem dX2_leastBeside_19 : decode cX2_leastBeside 19 = .ok (.aload_n 0, 1) := by decide +kernel
theorem dX2_leastBeside_20 : decode cX2_leastBeside 20 = .ok (.getfield 20, 3) := by decide +kernel
theorem dX2_leastBeside_23 : decode cX2_leastBeside 23 = .ok (.iload_n 1, 1) := by decide +kernel
theorem dX2_leastBeside_24 : decode cX2_leastBeside 24 = .ok (.aaload, 1) := by decide +kernel
theorem dX2_leastBeside_25 : decode cX2_leastBeside 25 = .ok (.iload_n 2, 1) := by decide +kernel
theorem dX2_leastBeside_26 : decode cX2_leastBeside 26 = .ok (.iaload, 1) := by decide +kernel
theorem dX2_leastBeside_27 : decode cX2_leastBeside 27 = .ok (.isub, 1) := by decide +kernel
theorem dX2_leastBeside_28 : decode cX2_leastBeside 28 = .ok (.goto 5, 3) := by decide +kernel
theorem dX2_leastBeside_31 : decode cX2_leastBeside 31 = .ok (.ldc 88, 2) := by decide +kernel
theorem dX2_leastBeside_33 : decode cX2_leastBeside 33 = .ok (.ireturn, 1) := by decide +kernel
theorem dX2_greatestBeside_0 : decode cX2_greatestBeside 0 = .ok (.aload_n 0, 1) := by decide +kernel
theorem dX2_greatestBeside_1 : decode cX2_greatestBeside 1 = .ok (.getfield 20, 3) := by decide +kernel
theorem dX2_greatestBeside_4 : decode cX2_greatestBeside 4 = .ok (.iload_n 2, 1) := by decide +kernel
theorem dX2_greatestBeside_5 : decode cX2_greatestBeside 5 = .ok (.aaload, 1) := by decide +kernel
theorem dX2_greatestBeside_6 : decode cX2_greatestBeside 6 = .ok (.iload_n 1, 1) := by decide +kernel
theorem dX2_greatestBeside_7 : decode cX2_greatestBeside 7 = .ok (.iaload, 1) := by decide +kernel
theorem dX2_greatestBeside_8 : decode cX2_greatestBeside 8 = .ok (.ldc 34, 2) := by decide +kernel
theorem dX2_greatestBeside_10 : decode cX2_greatestBeside 10 = .ok (.if_icmp .ge 21, 3) := by decide +kernel
theorem dX2_greatestBeside_13 : decode cX2_greatestBeside 13 = .ok (.aload_n 0, 1) := by decide +kernel
theorem dX2_greatestBeside_14 : decode cX2_greatestBeside 14 = .ok (.getfield 15, 3) := by decide +kernel
theorem dX2_greatestBeside_17 : decode cX2_greatestBeside 17 = .ok (.iload_n 2, 1) := by decide +kernel
theorem dX2_greatestBeside_18 : decode cX2_greatestBeside 18 = .ok (.iaload, 1) := by decide +kernel
theorem dX2_greatestBeside_19 : decode cX2_greatestBeside 19 = .ok (.aload_n 0, 1) := by decide +kernel
theorem dX2_greatestBeside_20 : decode cX2_greatestBeside 20 = .ok (.getfield 20, 3) := by decide +kernel
theorem dX2_greatestBeside_23 : decode cX2_greatestBeside 23 = .ok (.iload_n 2, 1) := by decide +kernel
theorem dX2_greatestBeside_24 : decode cX2_greatestBeside 24 = .ok (.aaload, 1) := by decide +kernel
theorem dX2_greatestBeside_25 : decode cX2_greatestBeside 25 = .ok (.iload_n 1, 1) := by decide +kernel
theorem dX2_greatestBeside_26 : decode cX2_greatestBeside 26 = .ok (.iaload, 1) := by decide +kernel
theorem dX2_greatestBeside_27 : decode cX2_greatestBeside 27 = .ok (.iadd, 1) := by decide +kernel
theorem dX2_greatestBeside_28 : decode cX2_greatestBeside 28 = .ok (.goto 5, 3) := by decide +kernel
theorem dX2_greatestBeside_31 : decode cX2_greatestBeside 31 = .ok (.ldc 34, 2) := by decide +kernel
theorem dX2_greatestBeside_33 : decode cX2_greatestBeside 33 = .ok (.ireturn, 1) := by decide +kernel
theorem dX3_init_0 : decode cX3_init 0 = .ok (.aload_n 0, 1) := by decide +kernel
theorem dX3_init_1 : decode cX3_init 1 = .ok (.invokespecial 3, 3) := by decide +kernel
theorem dX3_init_4 : decode cX3_init 4 = .ok (.return_, 1) := by decide +kernel
set_option maxRecDepth 20000 in
theorem ggX3_search_X3_provingSide : GoodIn wsX3_search wsX3_provingSide := goodIn_r _ [8, 9, 10, 11, 12, 13, 14, 7, 15, 3, 16, 17, 18, 19, 20, 21, 22, 23, 24, 25, 26, 27, 28, 29, 32, 33, 34, 35, 36, 37, 38, 39] (by decide +kernel) (by decide +kernel)
set_option maxRecDepth 20000 in
theorem gX3_search_X3_provingSide : GoodIn wsX3_search (wsV RX3 23 RX3 yX3_provingSide wsX3_provingSide) := goodIn_app (goodIn_of _ (by decide +kernel)) ggX3_search_X3_provingSide
theorem dX3_search_0 : decode cX3_search 0 = .ok (.aload_n 0, 1) := by decide +kernel
theorem dX3_search_1 : decode cX3_search 1 = .ok (.iconst 0, 1) := by decide +kernel
theorem dX3_search_2 : decode cX3_search 2 = .ok (.putfield 9, 3) := by decide +kernel
theorem dX3_search_5 : decode cX3_search 5 = .ok (.aload_n 0, 1) := by decide +kernel
theorem dX3_search_6 : decode cX3_search 6 = .ok (.iconst 0, 1) := by decide +kernel
theorem dX3_search_7 : decode cX3_search 7 = .ok (.putfield 15, 3) := by decide +kernel
theorem dX3_search_10 : decode cX3_search 10 = .ok (.iconst 1, 1) := by decide +kernel
theorem dX3_search_11 : decode cX3_search 11 = .ok (.istore_n 3, 1) := by decide +kernel
theorem dX3_search_12 : decode cX3_search 12 = .ok (.aload_n 0, 1) := by decide +kernel
theorem dX3_search_13 : decode cX3_search 13 = .ok (.getfield 15, 3) := by decide +kernel
theorem dX3_search_16 : decode cX3_search 16 = .ok (.ifCond .ne 35, 3) := by decide +kernel
theorem dX3_search_19 : decode cX3_search 19 = .ok (.iload_n 3, 1) := by decide +kernel
theorem dX3_search_20 : decode cX3_search 20 = .ok (.iconst 1, 1) := by decide +kernel
theorem dX3_search_21 : decode cX3_search 21 = .ok (.aload_n 1, 1) := by decide +kernel
theorem dX3_search_22 : decode cX3_search 22 = .ok (.getfield 18, 3) := by decide +kernel
theorem dX3_search_25 : decode cX3_search 25 = .ok (.ishl, 1) := by decide +kernel
theorem dX3_search_26 : decode cX3_search 26 = .ok (.if_icmp .ge 25, 3) := by decide +kernel
theorem dX3_search_29 : decode cX3_search 29 = .ok (.aload_n 0, 1) := by decide +kernel
theorem dX3_search_30 : decode cX3_search 30 = .ok (.iload_n 3, 1) := by decide +kernel
theorem dX3_search_31 : decode cX3_search 31 = .ok (.putfield 9, 3) := by decide +kernel
theorem dX3_search_34 : decode cX3_search 34 = .ok (.aload_n 0, 1) := by decide +kernel
theorem dX3_search_35 : decode cX3_search 35 = .ok (.aload_n 0, 1) := by decide +kernel
theorem dX3_search_36 : decode cX3_search 36 = .ok (.aload_n 1, 1) := by decide +kernel
theorem dX3_search_37 : decode cX3_search 37 = .ok (.aload_n 2, 1) := by decide +kernel
theorem dX3_search_38 : decode cX3_search 38 = .ok (.iload_n 3, 1) := by decide +kernel
theorem dX3_search_39 : decode cX3_search 39 = .ok (.invokevirtual 23, 3) := by decide +kernel
theorem dX3_search_42 : decode cX3_search 42 = .ok (.putfield 15, 3) := by decide +kernel
theorem dX3_search_45 : decode cX3_search 45 = .ok (.iinc 3 1, 3) := by decide +kernel
theorem dX3_search_48 : decode cX3_search 48 = .ok (.goto (-36), 3) := by decide +kernel
theorem dX3_search_51 : decode cX3_search 51 = .ok (.return_, 1) := by decide +kernel
set_option maxRecDepth 20000 in
theorem ggX3_provingSide_X3_addUp : GoodIn wsX3_provingSide wsX3_addUp := goodIn_r _ [8, 9, 10, 11, 12, 7, 13, 24, 25, 26, 27, 28, 29, 30, 31] (by decide +kernel) (by decide +kernel)
set_option maxRecDepth 20000 in
theorem gX3_provingSide_X3_addUp : GoodIn wsX3_provingSide (wsV RX3 30 RX3 yX3_addUp wsX3_addUp) := goodIn_app (goodIn_of _ (by decide +kernel)) ggX3_provingSide_X3_addUp
set_option maxRecDepth 20000 in
theorem ggX3_provingSide_X3_addRights : GoodIn wsX3_provingSide wsX3_addRights := goodIn_r _ [17, 9, 18, 11, 12, 7, 13, 24, 25, 26, 27, 28, 29, 30, 31] (by decide +kernel) (by decide +kernel)
set_option maxRecDepth 20000 in
theorem gX3_provingSide_X3_addRights : GoodIn wsX3_provingSide (wsV RX3 41 RX3 yX3_addRights wsX3_addRights) := goodIn_app (goodIn_of _ (by decide +kernel)) ggX3_provingSide_X3_addRights
set_option maxRecDepth 20000 in
theorem ggX3_provingSide_X3_mayStand : GoodIn wsX3_provingSide wsX3_mayStand := goodIn_r _ [22, 9, 23, 11, 12, 7, 13, 24, 25, 26, 27, 28, 29, 30, 31] (by decide +kernel) (by decide +kernel)
set_option maxRecDepth 20000 in
theorem gX3_provingSide_X3_mayStand : GoodIn wsX3_provingSide (wsV RX3 44 RX3 yX3_mayStand wsX3_mayStand) := goodIn_app (goodIn_of _ (by decide +kernel)) ggX3_provingSide_X3_mayStand
theorem dX3_provingSide_0 : decode cX3_provingSide 0 = .ok (.iconst 0, 1) := by decide +kernel
theorem dX3_provingSide_1 : decode cX3_provingSide 1 = .ok (.istore 4, 2) := by decide +kernel
theorem dX3_provingSide_3 : decode cX3_provingSide 3 = .ok (.iconst 0, 1) := by decide +kernel
theorem dX3_provingSide_4 : decode cX3_provingSide 4 = .ok (.istore 5, 2) := by decide +kernel
theorem dX3_provingSide_6 : decode cX3_provingSide 6 = .ok (.iconst 0, 1) := by decide +kernel
theorem dX3_provingSide_7 : decode cX3_provingSide 7 = .ok (.istore 6, 2) := by decide +kernel
theorem dX3_provingSide_9 : decode cX3_provingSide 9 = .ok (.iload 6, 2) := by decide +kernel
theorem dX3_provingSide_11 : decode cX3_provingSide 11 = .ok (.aload_n 1, 1) := by decide +kernel
theorem dX3_provingSide_12 : decode cX3_provingSide 12 = .ok (.getfield 27, 3) := by decide +kernel
theorem dX3_provingSide_15 : decode cX3_provingSide 15 = .ok (.if_icmp .ge 86, 3) := by decide +kernel
theorem dX3_provingSide_18 : decode cX3_provingSide 18 = .ok (.aload_n 0, 1) := by decide +kernel
theorem dX3_provingSide_19 : decode cX3_provingSide 19 = .ok (.aload_n 1, 1) := by decide +kernel
theorem dX3_provingSide_20 : decode cX3_provingSide 20 = .ok (.aload_n 2, 1) := by decide +kernel
theorem dX3_provingSide_21 : decode cX3_provingSide 21 = .ok (.iload_n 3, 1) := by decide +kernel
theorem dX3_provingSide_22 : decode cX3_provingSide 22 = .ok (.iload 6, 2) := by decide +kernel
theorem dX3_provingSide_24 : decode cX3_provingSide 24 = .ok (.invokevirtual 30, 3) := by decide +kernel
theorem dX3_provingSide_27 : decode cX3_provingSide 27 = .ok (.istore 7, 2) := by decide +kernel
theorem dX3_provingSide_29 : decode cX3_provingSide 29 = .ok (.iload 4, 2) := by decide +kernel
theorem dX3_provingSide_31 : decode cX3_provingSide 31 = .ok (.iload 7, 2) := by decide +kernel
theorem dX3_provingSide_33 : decode cX3_provingSide 33 = .ok (.ifCond .le 16, 3) := by decide +kernel
theorem dX3_provingSide_36 : decode cX3_provingSide 36 = .ok (.iload 7, 2) := by decide +kernel
theorem dX3_provingSide_38 : decode cX3_provingSide 38 = .ok (.aload_n 1, 1) := by decide +kernel
theorem dX3_provingSide_39 : decode cX3_provingSide 39 = .ok (.getfield 34, 3) := by decide +kernel
theorem dX3_provingSide_42 : decode cX3_provingSide 42 = .ok (.iload 6, 2) := by decide +kernel
theorem dX3_provingSide_44 : decode cX3_provingSide 44 = .ok (.iaload, 1) := by decide +kernel
theorem dX3_provingSide_45 : decode cX3_provingSide 45 = .ok (.imul, 1) := by decide +kernel
theorem dX3_provingSide_46 : decode cX3_provingSide 46 = .ok (.goto 13, 3) := by decide +kernel
theorem dX3_provingSide_49 : decode cX3_provingSide 49 = .ok (.iload 7, 2) := by decide +kernel
theorem dX3_provingSide_51 : decode cX3_provingSide 51 = .ok (.aload_n 1, 1) := by decide +kernel
theorem dX3_provingSide_52 : decode cX3_provingSide 52 = .ok (.getfield 38, 3) := by decide +kernel
theorem dX3_provingSide_55 : decode cX3_provingSide 55 = .ok (.iload 6, 2) := by decide +kernel
theorem dX3_provingSide_57 : decode cX3_provingSide 57 = .ok (.iaload, 1) := by decide +kernel
theorem dX3_provingSide_58 : decode cX3_provingSide 58 = .ok (.imul, 1) := by decide +kernel
theorem dX3_provingSide_59 : decode cX3_provingSide 59 = .ok (.iadd, 1) := by decide +kernel
theorem dX3_provingSide_60 : decode cX3_provingSide 60 = .ok (.istore 4, 2) := by decide +kernel
theorem dX3_provingSide_62 : decode cX3_provingSide 62 = .ok (.iload 5, 2) := by decide +kernel
theorem dX3_provingSide_64 : decode cX3_provingSide 64 = .ok (.iload 7, 2) := by decide +kernel
theorem dX3_provingSide_66 : decode cX3_provingSide 66 = .ok (.ifCond .le 16, 3) := by decide +kernel
theorem dX3_provingSide_69 : decode cX3_provingSide 69 = .ok (.iload 7, 2) := by decide +kernel
theorem dX3_provingSide_71 : decode cX3_provingSide 71 = .ok (.aload_n 1, 1) := by decide +kernel
theorem dX3_provingSide_72 : decode cX3_provingSide 72 = .ok (.getfield 38, 3) := by decide +kernel
theorem dX3_provingSide_75 : decode cX3_provingSide 75 = .ok (.iload 6, 2) := by decide +kernel
theorem dX3_provingSide_77 : decode cX3_provingSide 77 = .ok (.iaload, 1) := by decide +kernel
theorem dX3_provingSide_78 : decode cX3_provingSide 78 = .ok (.imul, 1) := by decide +kernel
theorem dX3_provingSide_79 : decode cX3_provingSide 79 = .ok (.goto 13, 3) := by decide +kernel
theorem dX3_provingSide_82 : decode cX3_provingSide 82 = .ok (.iload 7, 2) := by decide +kernel
theorem dX3_provingSide_84 : decode cX3_provingSide 84 = .ok (.aload_n 1, 1) := by decide +kernel
theorem dX3_provingSide_85 : decode cX3_provingSide 85 = .ok (.getfield 34, 3) := by decide +kernel
theorem dX3_provingSide_88 : decode cX3_provingSide 88 = .ok (.iload 6, 2) := by decide +kernel
theorem dX3_provingSide_90 : decode cX3_provingSide 90 = .ok (.iaload, 1) := by decide +kernel
theorem dX3_provingSide_91 : decode cX3_provingSide 91 = .ok (.imul, 1) := by decide +kernel
theorem dX3_provingSide_92 : decode cX3_provingSide 92 = .ok (.iadd, 1) := by decide +kernel
theorem dX3_provingSide_93 : decode cX3_provingSide 93 = .ok (.istore 5, 2) := by decide +kernel
theorem dX3_provingSide_95 : decode cX3_provingSide 95 = .ok (.iinc 6 1, 3) := by decide +kernel
theorem dX3_provingSide_98 : decode cX3_provingSide 98 = .ok (.goto (-89), 3) := by decide +kernel
theorem dX3_provingSide_101 : decode cX3_provingSide 101 = .ok (.aload_n 0, 1) := by decide +kernel
theorem dX3_provingSide_102 : decode cX3_provingSide 102 = .ok (.aload_n 1, 1) := by decide +kernel
theorem dX3_provingSide_103 : decode cX3_provingSide 103 = .ok (.aload_n 2, 1) := by decide +kernel
theorem dX3_provingSide_104 : decode cX3_provingSide 104 = .ok (.iload_n 3, 1) := by decide +kernel
theorem dX3_provingSide_105 : decode cX3_provingSide 105 = .ok (.invokevirtual 41, 3) := by decide +kernel
theorem dX3_provingSide_108 : decode cX3_provingSide 108 = .ok (.istore 6, 2) := by decide +kernel
theorem dX3_provingSide_110 : decode cX3_provingSide 110 = .ok (.iload 4, 2) := by decide +kernel
theorem dX3_provingSide_112 : decode cX3_provingSide 112 = .ok (.iload 6, 2) := by decide +kernel
theorem dX3_provingSide_114 : decode cX3_provingSide 114 = .ok (.if_icmp .le 16, 3) := by decide +kernel
theorem dX3_provingSide_117 : decode cX3_provingSide 117 = .ok (.aload_n 0, 1) := by decide +kernel
theorem dX3_provingSide_118 : decode cX3_provingSide 118 = .ok (.aload_n 1, 1) := by decide +kernel
theorem dX3_provingSide_119 : decode cX3_provingSide 119 = .ok (.aload_n 2, 1) := by decide +kernel
theorem dX3_provingSide_120 : decode cX3_provingSide 120 = .ok (.iload_n 3, 1) := by decide +kernel
theorem dX3_provingSide_121 : decode cX3_provingSide 121 = .ok (.iconst 1, 1) := by decide +kernel
theorem dX3_provingSide_122 : decode cX3_provingSide 122 = .ok (.invokevirtual 44, 3) := by decide +kernel
theorem dX3_provingSide_125 : decode cX3_provingSide 125 = .ok (.ifCond .eq 5, 3) := by decide +kernel
theorem dX3_provingSide_128 : decode cX3_provingSide 128 = .ok (.iconst 1, 1) := by decide +kernel
theorem dX3_provingSide_129 : decode cX3_provingSide 129 = .ok (.ireturn, 1) := by decide +kernel
theorem dX3_provingSide_130 : decode cX3_provingSide 130 = .ok (.iload 5, 2) := by decide +kernel
theorem dX3_provingSide_132 : decode cX3_provingSide 132 = .ok (.iload 6, 2) := by decide +kernel
theorem dX3_provingSide_134 : decode cX3_provingSide 134 = .ok (.if_icmp .ge 16, 3) := by decide +kernel
theorem dX3_provingSide_137 : decode cX3_provingSide 137 = .ok (.aload_n 0, 1) := by decide +kernel
theorem dX3_provingSide_138 : decode cX3_provingSide 138 = .ok (.aload_n 1, 1) := by decide +kernel
theorem dX3_provingSide_139 : decode cX3_provingSide 139 = .ok (.aload_n 2, 1) := by decide +kernel
theorem dX3_provingSide_140 : decode cX3_provingSide 140 = .ok (.iload_n 3, 1) := by decide +kernel
theorem dX3_provingSide_141 : decode cX3_provingSide 141 = .ok (.iconst (-1), 1) := by decide +kernel
theorem dX3_provingSide_142 : decode cX3_provingSide 142 = .ok (.invokevirtual 44, 3) := by decide +kernel
theorem dX3_provingSide_145 : decode cX3_provingSide 145 = .ok (.ifCond .eq 5, 3) := by decide +kernel
theorem dX3_provingSide_148 : decode cX3_provingSide 148 = .ok (.iconst (-1), 1) := by decide +kernel
theorem dX3_provingSide_149 : decode cX3_provingSide 149 = .ok (.ireturn, 1) := by decide +kernel
theorem dX3_provingSide_150 : decode cX3_provingSide 150 = .ok (.iconst 0, 1) := by decide +kernel
theorem dX3_provingSide_151 : decode cX3_provingSide 151 = .ok (.ireturn, 1) := by decide +kernel
set_option maxRecDepth 20000 in
theorem ggX3_addUp_X3_isIn : GoodIn wsX3_addUp wsX3_isIn := goodIn_r _ [6] (by decide +kernel) (by decide +kernel)
set_option maxRecDepth 20000 in
theorem gX3_addUp_X3_isIn : GoodIn wsX3_addUp (va_wsS RX3 48 yX3_isIn wsX3_isIn) := goodIn_app (goodIn_of _ (by decide +kernel)) ggX3_addUp_X3_isIn
theorem dX3_addUp_0 : decode cX3_addUp 0 = .ok (.iconst 0, 1) := by decide +kernel
theorem dX3_addUp_1 : decode cX3_addUp 1 = .ok (.istore 5, 2) := by decide +kernel
theorem dX3_addUp_3 : decode cX3_addUp 3 = .ok (.iconst 0, 1) := by decide +kernel
theorem dX3_addUp_4 : decode cX3_addUp 4 = .ok (.istore 6, 2) := by decide +kernel
theorem dX3_addUp_6 : decode cX3_addUp 6 = .ok (.iload 6, 2) := by decide +kernel
theorem dX3_addUp_8 : decode cX3_addUp 8 = .ok (.aload_n 1, 1) := by decide +kernel
theorem dX3_addUp_9 : decode cX3_addUp 9 = .ok (.getfield 18, 3) := by decide +kernel
theorem dX3_addUp_12 : decode cX3_addUp 12 = .ok (.if_icmp .ge 38, 3) := by decide +kernel
theorem dX3_addUp_15 : decode cX3_addUp 15 = .ok (.iload_n 3, 1) := by decide +kernel
theorem dX3_addUp_16 : decode cX3_addUp 16 = .ok (.iload 6, 2) := by decide +kernel
theorem dX3_addUp_18 : decode cX3_addUp 18 = .ok (.invokestatic 48, 3) := by decide +kernel
theorem dX3_addUp_21 : decode cX3_addUp 21 = .ok (.ifCond .eq 23, 3) := by decide +kernel
theorem dX3_addUp_24 : decode cX3_addUp 24 = .ok (.iload 5, 2) := by decide +kernel
theorem dX3_addUp_26 : decode cX3_addUp 26 = .ok (.aload_n 1, 1) := by decide +kernel
theorem dX3_addUp_27 : decode cX3_addUp 27 = .ok (.getfield 52, 3) := by decide +kernel
theorem dX3_addUp_30 : decode cX3_addUp 30 = .ok (.iload 6, 2) := by decide +kernel
theorem dX3_addUp_32 : decode cX3_addUp 32 = .ok (.aaload, 1) := by decide +kernel
theorem dX3_addUp_33 : decode cX3_addUp 33 = .ok (.iload 4, 2) := by decide +kernel
theorem dX3_addUp_35 : decode cX3_addUp 35 = .ok (.iaload, 1) := by decide +kernel
theorem dX3_addUp_36 : decode cX3_addUp 36 = .ok (.aload_n 2, 1) := by decide +kernel
theorem dX3_addUp_37 : decode cX3_addUp 37 = .ok (.iload 6, 2) := by decide +kernel
theorem dX3_addUp_39 : decode cX3_addUp 39 = .ok (.iaload, 1) := by decide +kernel
theorem dX3_addUp_40 : decode cX3_addUp 40 = .ok (.imul, 1) := by decide +kernel
theorem dX3_addUp_41 : decode cX3_addUp 41 = .ok (.iadd, 1) := by decide +kernel
theorem dX3_addUp_42 : decode cX3_addUp 42 = .ok (.istore 5, 2) := by decide +kernel
theorem dX3_addUp_44 : decode cX3_addUp 44 = .ok (.iinc 6 1, 3) := by decide +kernel
theorem dX3_addUp_47 : decode cX3_addUp 47 = .ok (.goto (-41), 3) := by decide +kernel
theorem dX3_addUp_50 : decode cX3_addUp 50 = .ok (.iload 5, 2) := by decide +kernel
theorem dX3_addUp_52 : decode cX3_addUp 52 = .ok (.ireturn, 1) := by decide +kernel
set_option maxRecDepth 20000 in
theorem ggX3_addRights_X3_isIn : GoodIn wsX3_addRights wsX3_isIn := goodIn_r _ [6] (by decide +kernel) (by decide +kernel)
set_option maxRecDepth 20000 in
theorem gX3_addRights_X3_isIn : GoodIn wsX3_addRights (va_wsS RX3 48 yX3_isIn wsX3_isIn) := goodIn_app (goodIn_of _ (by decide +kernel)) ggX3_addRights_X3_isIn
theorem dX3_addRights_0 : decode cX3_addRights 0 = .ok (.iconst 0, 1) := by decide +kernel
theorem dX3_addRights_1 : decode cX3_addRights 1 = .ok (.istore 4, 2) := by decide +kernel
theorem dX3_addRights_3 : decode cX3_addRights 3 = .ok (.iconst 0, 1) := by decide +kernel
theorem dX3_addRights_4 : decode cX3_addRights 4 = .ok (.istore 5, 2) := by decide +kernel
theorem dX3_addRights_6 : decode cX3_addRights 6 = .ok (.iload 5, 2) := by decide +kernel
theorem dX3_addRights_8 : decode cX3_addRights 8 = .ok (.aload_n 1, 1) := by decide +kernel
theorem dX3_addRights_9 : decode cX3_addRights 9 = .ok (.getfield 18, 3) := by decide +kernel
theorem dX3_addRights_12 : decode cX3_addRights 12 = .ok (.if_icmp .ge 35, 3) := by decide +kernel
theorem dX3_addRights_15 : decode cX3_addRights 15 = .ok (.iload_n 3, 1) := by decide +kernel
theorem dX3_addRights_16 : decode cX3_addRights 16 = .ok (.iload 5, 2) := by decide +kernel
theorem dX3_addRights_18 : decode cX3_addRights 18 = .ok (.invokestatic 48, 3) := by decide +kernel
theorem dX3_addRights_21 : decode cX3_addRights 21 = .ok (.ifCond .eq 20, 3) := by decide +kernel
theorem dX3_addRights_24 : decode cX3_addRights 24 = .ok (.iload 4, 2) := by decide +kernel
theorem dX3_addRights_26 : decode cX3_addRights 26 = .ok (.aload_n 1, 1) := by decide +kernel
theorem dX3_addRights_27 : decode cX3_addRights 27 = .ok (.getfield 56, 3) := by decide +kernel
theorem dX3_addRights_30 : decode cX3_addRights 30 = .ok (.iload 5, 2) := by decide +kernel
theorem dX3_addRights_32 : decode cX3_addRights 32 = .ok (.iaload, 1) := by decide +kernel
theorem dX3_addRights_33 : decode cX3_addRights 33 = .ok (.aload_n 2, 1) := by decide +kernel
theorem dX3_addRights_34 : decode cX3_addRights 34 = .ok (.iload 5, 2) := by decide +kernel
theorem dX3_addRights_36 : decode cX3_addRights 36 = .ok (.iaload, 1) := by decide +kernel
theorem dX3_addRights_37 : decode cX3_addRights 37 = .ok (.imul, 1) := by decide +kernel
theorem dX3_addRights_38 : decode cX3_addRights 38 = .ok (.iadd, 1) := by decide +kernel
theorem dX3_addRights_39 : decode cX3_addRights 39 = .ok (.istore 4, 2) := by decide +kernel
theorem dX3_addRights_41 : decode cX3_addRights 41 = .ok (.iinc 5 1, 3) := by decide +kernel
theorem dX3_addRights_44 : decode cX3_addRights 44 = .ok (.goto (-38), 3) := by decide +kernel
theorem dX3_addRights_47 : decode cX3_addRights 47 = .ok (.iload 4, 2) := by decide +kernel
theorem dX3_addRights_49 : decode cX3_addRights 49 = .ok (.ireturn, 1) := by decide +kernel
set_option maxRecDepth 20000 in
theorem ggX3_mayStand_X3_isIn : GoodIn wsX3_mayStand wsX3_isIn := goodIn_r _ [6] (by decide +kernel) (by decide +kernel)
set_option maxRecDepth 20000 in
theorem gX3_mayStand_X3_isIn : GoodIn wsX3_mayStand (va_wsS RX3 48 yX3_isIn wsX3_isIn) := goodIn_app (goodIn_of _ (by decide +kernel)) ggX3_mayStand_X3_isIn
theorem dX3_mayStand_0 : decode cX3_mayStand 0 = .ok (.iconst 0, 1) := by decide +kernel
theorem dX3_mayStand_1 : decode cX3_mayStand 1 = .ok (.istore 5, 2) := by decide +kernel
theorem dX3_mayStand_3 : decode cX3_mayStand 3 = .ok (.iload 5, 2) := by decide +kernel
theorem dX3_mayStand_5 : decode cX3_mayStand 5 = .ok (.aload_n 1, 1) := by decide +kernel
theorem dX3_mayStand_6 : decode cX3_mayStand 6 = .ok (.getfield 18, 3) := by decide +kernel
theorem dX3_mayStand_9 : decode cX3_mayStand 9 = .ok (.if_icmp .ge 51, 3) := by decide +kernel
theorem dX3_mayStand_12 : decode cX3_mayStand 12 = .ok (.aload_n 1, 1) := by decide +kernel
theorem dX3_mayStand_13 : decode cX3_mayStand 13 = .ok (.getfield 59, 3) := by decide +kernel
theorem dX3_mayStand_16 : decode cX3_mayStand 16 = .ok (.iload 5, 2) := by decide +kernel
theorem dX3_mayStand_18 : decode cX3_mayStand 18 = .ok (.iaload, 1) := by decide +kernel
theorem dX3_mayStand_19 : decode cX3_mayStand 19 = .ok (.ifCond .ne 16, 3) := by decide +kernel
theorem dX3_mayStand_22 : decode cX3_mayStand 22 = .ok (.iload_n 3, 1) := by decide +kernel
theorem dX3_mayStand_23 : decode cX3_mayStand 23 = .ok (.iload 5, 2) := by decide +kernel
theorem dX3_mayStand_25 : decode cX3_mayStand 25 = .ok (.invokestatic 48, 3) := by decide +kernel
theorem dX3_mayStand_28 : decode cX3_mayStand 28 = .ok (.ifCond .eq 7, 3) := by decide +kernel
theorem dX3_mayStand_31 : decode cX3_mayStand 31 = .ok (.iconst 1, 1) := by decide +kernel
theorem dX3_mayStand_32 : decode cX3_mayStand 32 = .ok (.goto 4, 3) := by decide +kernel
theorem dX3_mayStand_35 : decode cX3_mayStand 35 = .ok (.iconst 0, 1) := by decide +kernel
theorem dX3_mayStand_36 : decode cX3_mayStand 36 = .ok (.istore 6, 2) := by decide +kernel
theorem dX3_mayStand_38 : decode cX3_mayStand 38 = .ok (.iload 6, 2) := by decide +kernel
theorem dX3_mayStand_40 : decode cX3_mayStand 40 = .ok (.ifCond .eq 14, 3) := by decide +kernel
theorem dX3_mayStand_43 : decode cX3_mayStand 43 = .ok (.aload_n 2, 1) := by decide +kernel
theorem dX3_mayStand_44 : decode cX3_mayStand 44 = .ok (.iload 5, 2) := by decide +kernel
theorem dX3_mayStand_46 : decode cX3_mayStand 46 = .ok (.iaload, 1) := by decide +kernel
theorem dX3_mayStand_47 : decode cX3_mayStand 47 = .ok (.iload 4, 2) := by decide +kernel
theorem dX3_mayStand_49 : decode cX3_mayStand 49 = .ok (.if_icmp .eq 5, 3) := by decide +kernel
theorem dX3_mayStand_52 : decode cX3_mayStand 52 = .ok (.iconst 0, 1) := by decide +kernel
theorem dX3_mayStand_53 : decode cX3_mayStand 53 = .ok (.ireturn, 1) := by decide +kernel
theorem dX3_mayStand_54 : decode cX3_mayStand 54 = .ok (.iinc 5 1, 3) := by decide +kernel
theorem dX3_mayStand_57 : decode cX3_mayStand 57 = .ok (.goto (-54), 3) := by decide +kernel
theorem dX3_mayStand_60 : decode cX3_mayStand 60 = .ok (.iconst 1, 1) := by decide +kernel
theorem dX3_mayStand_61 : decode cX3_mayStand 61 = .ok (.ireturn, 1) := by decide +kernel
theorem dX3_isIn_0 : decode cX3_isIn 0 = .ok (.iload_n 0, 1) := by decide +kernel
theorem dX3_isIn_1 : decode cX3_isIn 1 = .ok (.iload_n 1, 1) := by decide +kernel
theorem dX3_isIn_2 : decode cX3_isIn 2 = .ok (.ishr, 1) := by decide +kernel
theorem dX3_isIn_3 : decode cX3_isIn 3 = .ok (.iconst 1, 1) := by decide +kernel
theorem dX3_isIn_4 : decode cX3_isIn 4 = .ok (.iand, 1) := by decide +kernel
theorem dX3_isIn_5 : decode cX3_isIn 5 = .ok (.iconst 1, 1) := by decide +kernel
theorem dX3_isIn_6 : decode cX3_isIn 6 = .ok (.if_icmp .ne 7, 3) := by decide +kernel
theorem dX3_isIn_9 : decode cX3_isIn 9 = .ok (.iconst 1, 1) := by decide +kernel
theorem dX3_isIn_10 : decode cX3_isIn 10 = .ok (.goto 4, 3) := by decide +kernel
theorem dX3_isIn_13 : decode cX3_isIn 13 = .ok (.iconst 0, 1) := by decide +kernel
theorem dX3_isIn_14 : decode cX3_isIn 14 = .ok (.ireturn, 1) := by decide +kernel
set_option maxRecDepth 20000 in
theorem ggX4_init_X5_init : GoodIn wsX4_init wsX5_init := goodIn_r _ [14, 15, 2, 3, 8, 16, 17, 18, 19, 20, 21, 22, 23, 24, 25, 26, 27, 28, 29, 30] (by decide +kernel) (by decide +kernel)
set_option maxRecDepth 20000 in
theorem gX4_init_X5_init_n11 : GoodIn wsX4_init (wsX5_init) := ggX4_init_X5_init
theorem dX4_init_0 : decode cX4_init 0 = .ok (.aload_n 0, 1) := by decide +kernel
theorem dX4_init_1 : decode cX4_init 1 = .ok (.invokespecial 3, 3) := by decide +kernel
theorem dX4_init_4 : decode cX4_init 4 = .ok (.aload_n 0, 1) := by decide +kernel
theorem dX4_init_5 : decode cX4_init 5 = .ok (.new 9, 3) := by decide +kernel
theorem dX4_init_8 : decode cX4_init 8 = .ok (.dup, 1) := by decide +kernel
theorem dX4_init_9 : decode cX4_init 9 = .ok (.invokespecial 11, 3) := by decide +kernel
theorem dX4_init_12 : decode cX4_init 12 = .ok (.putfield 12, 3) := by decide +kernel
theorem dX4_init_15 : decode cX4_init 15 = .ok (.aload_n 0, 1) := by decide +kernel
theorem dX4_init_16 : decode cX4_init 16 = .ok (.bipush 8, 2) := by decide +kernel
theorem dX4_init_18 : decode cX4_init 18 = .ok (.newarray .int, 2) := by decide +kernel
theorem dX4_init_20 : decode cX4_init 20 = .ok (.putfield 18, 3) := by decide +kernel
theorem dX4_init_23 : decode cX4_init 23 = .ok (.aload_n 0, 1) := by decide +kernel
theorem dX4_init_24 : decode cX4_init 24 = .ok (.bipush 8, 2) := by decide +kernel
theorem dX4_init_26 : decode cX4_init 26 = .ok (.newarray .int, 2) := by decide +kernel
theorem dX4_init_28 : decode cX4_init 28 = .ok (.putfield 22, 3) := by decide +kernel
theorem dX4_init_31 : decode cX4_init 31 = .ok (.aload_n 0, 1) := by decide +kernel
theorem dX4_init_32 : decode cX4_init 32 = .ok (.bipush 10, 2) := by decide +kernel
theorem dX4_init_34 : decode cX4_init 34 = .ok (.newarray .int, 2) := by decide +kernel
theorem dX4_init_36 : decode cX4_init 36 = .ok (.putfield 25, 3) := by decide +kernel
theorem dX4_init_39 : decode cX4_init 39 = .ok (.aload_n 0, 1) := by decide +kernel
theorem dX4_init_40 : decode cX4_init 40 = .ok (.bipush 10, 2) := by decide +kernel
theorem dX4_init_42 : decode cX4_init 42 = .ok (.newarray .int, 2) := by decide +kernel
theorem dX4_init_44 : decode cX4_init 44 = .ok (.putfield 28, 3) := by decide +kernel
theorem dX4_init_47 : decode cX4_init 47 = .ok (.return_, 1) := by decide +kernel
set_option maxRecDepth 20000 in
theorem ggX4_findParts_X4_startAlone : GoodIn wsX4_findParts wsX4_startAlone := goodIn_r _ [9, 1, 3, 4, 10, 34, 35, 36, 37, 38, 39, 40, 41, 42, 43, 44, 45, 46] (by decide +kernel) (by decide +kernel)
set_option maxRecDepth 20000 in
theorem gX4_findParts_X4_startAlone : GoodIn wsX4_findParts (wsV RX4 31 RX4 yX4_startAlone wsX4_startAlone) := goodIn_app (goodIn_of _ (by decide +kernel)) ggX4_findParts_X4_startAlone
set_option maxRecDepth 20000 in
theorem ggX4_findParts_X4_joinColumn : GoodIn wsX4_findParts wsX4_joinColumn := goodIn_r _ [14, 1, 3, 15, 16, 17, 18, 19, 20, 21, 22, 23, 24, 25, 8, 26, 4, 27, 28, 29, 30, 31, 32, 33, 10, 34, 35, 36, 37, 38, 39, 40, 41, 42, 43, 44, 45, 46] (by decide +kernel) (by decide +kernel)
set_option maxRecDepth 20000 in
theorem gX4_findParts_X4_joinColumn : GoodIn wsX4_findParts (wsV RX4 38 RX4 yX4_joinColumn wsX4_joinColumn) := goodIn_app (goodIn_of _ (by decide +kernel)) ggX4_findParts_X4_joinColumn
theorem dX4_findParts_0 : decode cX4_findParts 0 = .ok (.aload_n 0, 1) := by decide +kernel
theorem dX4_findParts_1 : decode cX4_findParts 1 = .ok (.invokevirtual 31, 3) := by decide +kernel
theorem dX4_findParts_4 : decode cX4_findParts 4 = .ok (.iconst 0, 1) := by decide +kernel
theorem dX4_findParts_5 : decode cX4_findParts 5 = .ok (.istore_n 1, 1) := by decide +kernel
theorem dX4_findParts_6 : decode cX4_findParts 6 = .ok (.iload_n 1, 1) := by decide +kernel
theorem dX4_findParts_7 : decode cX4_findParts 7 = .ok (.aload_n 0, 1) := by decide +kernel
theorem dX4_findParts_8 : decode cX4_findParts 8 = .ok (.getfield 12, 3) := by decide +kernel
theorem dX4_findParts_11 : decode cX4_findParts 11 = .ok (.getfield 34, 3) := by decide +kernel
theorem dX4_findParts_14 : decode cX4_findParts 14 = .ok (.if_icmp .ge 14, 3) := by decide +kernel
theorem dX4_findParts_17 : decode cX4_findParts 17 = .ok (.aload_n 0, 1) := by decide +kernel
theorem dX4_findParts_18 : decode cX4_findParts 18 = .ok (.iload_n 1, 1) := by decide +kernel
theorem dX4_findParts_19 : decode cX4_findParts 19 = .ok (.invokevirtual 38, 3) := by decide +kernel
theorem dX4_findParts_22 : decode cX4_findParts 22 = .ok (.iinc 1 1, 3) := by decide +kernel
theorem dX4_findParts_25 : decode cX4_findParts 25 = .ok (.goto (-19), 3) := by decide +kernel
theorem dX4_findParts_28 : decode cX4_findParts 28 = .ok (.iconst 0, 1) := by decide +kernel
theorem dX4_findParts_29 : decode cX4_findParts 29 = .ok (.istore_n 1, 1) := by decide +kernel
theorem dX4_findParts_30 : decode cX4_findParts 30 = .ok (.iconst 0, 1) := by decide +kernel
theorem dX4_findParts_31 : decode cX4_findParts 31 = .ok (.istore_n 2, 1) := by decide +kernel
theorem dX4_findParts_32 : decode cX4_findParts 32 = .ok (.iload_n 2, 1) := by decide +kernel
theorem dX4_findParts_33 : decode cX4_findParts 33 = .ok (.aload_n 0, 1) := by decide +kernel
theorem dX4_findParts_34 : decode cX4_findParts 34 = .ok (.getfield 12, 3) := by decide +kernel
theorem dX4_findParts_37 : decode cX4_findParts 37 = .ok (.getfield 42, 3) := by decide +kernel
theorem dX4_findParts_40 : decode cX4_findParts 40 = .ok (.if_icmp .ge 22, 3) := by decide +kernel
theorem dX4_findParts_43 : decode cX4_findParts 43 = .ok (.aload_n 0, 1) := by decide +kernel
theorem dX4_findParts_44 : decode cX4_findParts 44 = .ok (.getfield 18, 3) := by decide +kernel
theorem dX4_findParts_47 : decode cX4_findParts 47 = .ok (.iload_n 2, 1) := by decide +kernel
theorem dX4_findParts_48 : decode cX4_findParts 48 = .ok (.iaload, 1) := by decide +kernel
theorem dX4_findParts_49 : decode cX4_findParts 49 = .ok (.iload_n 2, 1) := by decide +kernel
theorem dX4_findParts_50 : decode cX4_findParts 50 = .ok (.if_icmp .ne 6, 3) := by decide +kernel
theorem dX4_findParts_53 : decode cX4_findParts 53 = .ok (.iinc 1 1, 3) := by decide +kernel
theorem dX4_findParts_56 : decode cX4_findParts 56 = .ok (.iinc 2 1, 3) := by decide +kernel
theorem dX4_findParts_59 : decode cX4_findParts 59 = .ok (.goto (-27), 3) := by decide +kernel
theorem dX4_findParts_62 : decode cX4_findParts 62 = .ok (.iload_n 1, 1) := by decide +kernel
theorem dX4_findParts_63 : decode cX4_findParts 63 = .ok (.ireturn, 1) := by decide +kernel
set_option maxRecDepth 20000 in
theorem ggX4_findSigns_X4_canBeArc : GoodIn wsX4_findSigns wsX4_canBeArc := goodIn_r _ [7, 1, 8, 9, 10, 11, 12, 13, 14, 15, 16, 17, 18, 19, 45, 46, 47, 48, 49, 50, 51, 52, 53, 54, 55, 56, 57] (by decide +kernel) (by decide +kernel)
set_option maxRecDepth 20000 in
theorem gX4_findSigns_X4_canBeArc : GoodIn wsX4_findSigns (wsV RX4 45 RX4 yX4_canBeArc wsX4_canBeArc) := goodIn_app (goodIn_of _ (by decide +kernel)) ggX4_findSigns_X4_canBeArc
set_option maxRecDepth 20000 in
theorem ggX4_findSigns_X4_startAlone : GoodIn wsX4_findSigns wsX4_startAlone := goodIn_r _ [23, 1, 8, 24, 25, 45, 46, 47, 48, 49, 50, 51, 52, 53, 54, 55, 56, 57] (by decide +kernel) (by decide +kernel)
set_option maxRecDepth 20000 in
theorem gX4_findSigns_X4_startAlone : GoodIn wsX4_findSigns (wsV RX4 31 RX4 yX4_startAlone wsX4_startAlone) := goodIn_app (goodIn_of _ (by decide +kernel)) ggX4_findSigns_X4_startAlone
set_option maxRecDepth 20000 in
theorem ggX4_findSigns_X4_takeArc : GoodIn wsX4_findSigns wsX4_takeArc := goodIn_r _ [29, 1, 25, 9, 24, 30, 31, 32, 16, 33, 18, 19, 34, 35, 36, 6, 37, 38, 39, 40, 41, 42, 43, 44, 8, 45, 46, 47, 48, 49, 50, 51, 52, 53, 54, 55, 56, 57] (by decide +kernel) (by decide +kernel)
set_option maxRecDepth 20000 in
theorem gX4_findSigns_X4_takeArc : GoodIn wsX4_findSigns (wsV RX4 49 RX4 yX4_takeArc wsX4_takeArc) := goodIn_app (goodIn_of _ (by decide +kernel)) ggX4_findSigns_X4_takeArc
theorem dX4_findSigns_0 : decode cX4_findSigns 0 = .ok (.iconst 0, 1) := by decide +kernel
theorem dX4_findSigns_1 : decode cX4_findSigns 1 = .ok (.istore_n 1, 1) := by decide +kernel
theorem dX4_findSigns_2 : decode cX4_findSigns 2 = .ok (.iload_n 1, 1) := by decide +kernel
theorem dX4_findSigns_3 : decode cX4_findSigns 3 = .ok (.aload_n 0, 1) := by decide +kernel
theorem dX4_findSigns_4 : decode cX4_findSigns 4 = .ok (.getfield 12, 3) := by decide +kernel
theorem dX4_findSigns_7 : decode cX4_findSigns 7 = .ok (.getfield 34, 3) := by decide +kernel
theorem dX4_findSigns_10 : decode cX4_findSigns 10 = .ok (.if_icmp .ge 19, 3) := by decide +kernel
theorem dX4_findSigns_13 : decode cX4_findSigns 13 = .ok (.aload_n 0, 1) := by decide +kernel
theorem dX4_findSigns_14 : decode cX4_findSigns 14 = .ok (.iload_n 1, 1) := by decide +kernel
theorem dX4_findSigns_15 : decode cX4_findSigns 15 = .ok (.invokevirtual 45, 3) := by decide +kernel
theorem dX4_findSigns_18 : decode cX4_findSigns 18 = .ok (.ifCond .ne 5, 3) := by decide +kernel
theorem dX4_findSigns_21 : decode cX4_findSigns 21 = .ok (.iload_n 1, 1) := by decide +kernel
theorem dX4_findSigns_22 : decode cX4_findSigns 22 = .ok (.ireturn, 1) := by decide +kernel
theorem dX4_findSigns_23 : decode cX4_findSigns 23 = .ok (.iinc 1 1, 3) := by decide +kernel
theorem dX4_findSigns_26 : decode cX4_findSigns 26 = .ok (.goto (-24), 3) := by decide +kernel
theorem dX4_findSigns_29 : decode cX4_findSigns 29 = .ok (.aload_n 0, 1) := by decide +kernel
theorem dX4_findSigns_30 : decode cX4_findSigns 30 = .ok (.invokevirtual 31, 3) := by decide +kernel
theorem dX4_findSigns_33 : decode cX4_findSigns 33 = .ok (.iconst 0, 1) := by decide +kernel
theorem dX4_findSigns_34 : decode cX4_findSigns 34 = .ok (.istore_n 1, 1) := by decide +kernel
theorem dX4_findSigns_35 : decode cX4_findSigns 35 = .ok (.iload_n 1, 1) := by decide +kernel
theorem dX4_findSigns_36 : decode cX4_findSigns 36 = .ok (.aload_n 0, 1) := by decide +kernel
theorem dX4_findSigns_37 : decode cX4_findSigns 37 = .ok (.getfield 12, 3) := by decide +kernel
theorem dX4_findSigns_40 : decode cX4_findSigns 40 = .ok (.getfield 34, 3) := by decide +kernel
theorem dX4_findSigns_43 : decode cX4_findSigns 43 = .ok (.if_icmp .ge 19, 3) := by decide +kernel
theorem dX4_findSigns_46 : decode cX4_findSigns 46 = .ok (.aload_n 0, 1) := by decide +kernel
theorem dX4_findSigns_47 : decode cX4_findSigns 47 = .ok (.iload_n 1, 1) := by decide +kernel
theorem dX4_findSigns_48 : decode cX4_findSigns 48 = .ok (.invokevirtual 49, 3) := by decide +kernel
theorem dX4_findSigns_51 : decode cX4_findSigns 51 = .ok (.ifCond .ne 5, 3) := by decide +kernel
theorem dX4_findSigns_54 : decode cX4_findSigns 54 = .ok (.iload_n 1, 1) := by decide +kernel
theorem dX4_findSigns_55 : decode cX4_findSigns 55 = .ok (.ireturn, 1) := by decide +kernel
theorem dX4_findSigns_56 : decode cX4_findSigns 56 = .ok (.iinc 1 1, 3) := by decide +kernel
theorem dX4_findSigns_59 : decode cX4_findSigns 59 = .ok (.goto (-24), 3) := by decide +kernel
theorem dX4_findSigns_62 : decode cX4_findSigns 62 = .ok (.iconst (-1), 1) := by decide +kernel
theorem dX4_findSigns_63 : decode cX4_findSigns 63 = .ok (.ireturn, 1) := by decide +kernel
set_option maxRecDepth 20000 in
theorem ggX4_firstColumnNoInterval_X4_isInterval : GoodIn wsX4_firstColumnNoInterval wsX4_isInterval := goodIn_r _ [7, 1, 8, 9, 10, 11, 12, 13, 14, 15, 16, 17, 18, 19, 20, 21, 22] (by decide +kernel) (by decide +kernel)
set_option maxRecDepth 20000 in
theorem gX4_firstColumnNoInterval_X4_isInterval : GoodIn wsX4_firstColumnNoInterval (wsV RX4 52 RX4 yX4_isInterval wsX4_isInterval) := goodIn_app (goodIn_of _ (by decide +kernel)) ggX4_firstColumnNoInterval_X4_isInterval
theorem dX4_firstColumnNoInterval_0 : decode cX4_firstColumnNoInterval 0 = .ok (.iconst 0, 1) := by decide +kernel
theorem dX4_firstColumnNoInterval_1 : decode cX4_firstColumnNoInterval 1 = .ok (.istore_n 1, 1) := by decide +kernel
theorem dX4_firstColumnNoInterval_2 : decode cX4_firstColumnNoInterval 2 = .ok (.iload_n 1, 1) := by decide +kernel
theorem dX4_firstColumnNoInterval_3 : decode cX4_firstColumnNoInterval 3 = .ok (.aload_n 0, 1) := by decide +kernel
theorem dX4_firstColumnNoInterval_4 : decode cX4_firstColumnNoInterval 4 = .ok (.getfield 12, 3) := by decide +kernel
theorem dX4_firstColumnNoInterval_7 : decode cX4_firstColumnNoInterval 7 = .ok (.getfield 34, 3) := by decide +kernel
theorem dX4_firstColumnNoInterval_10 : decode cX4_firstColumnNoInterval 10 = .ok (.if_icmp .ge 19, 3) := by decide +kernel
theorem dX4_firstColumnNoInterval_13 : decode cX4_firstColumnNoInterval 13 = .ok (.aload_n 0, 1) := by decide +kernel
theorem dX4_firstColumnNoInterval_14 : decode cX4_firstColumnNoInterval 14 = .ok (.iload_n 1, 1) := by decide +kernel
theorem dX4_firstColumnNoInterval_15 : decode cX4_firstColumnNoInterval 15 = .ok (.invokevirtual 52, 3) := by decide +kernel
theorem dX4_firstColumnNoInterval_18 : decode cX4_firstColumnNoInterval 18 = .ok (.ifCond .ne 5, 3) := by decide +kernel
theorem dX4_firstColumnNoInterval_21 : decode cX4_firstColumnNoInterval 21 = .ok (.iload_n 1, 1) := by decide +kernel
theorem dX4_firstColumnNoInterval_22 : decode cX4_firstColumnNoInterval 22 = .ok (.ireturn, 1) := by decide +kernel
theorem dX4_firstColumnNoInterval_23 : decode cX4_firstColumnNoInterval 23 = .ok (.iinc 1 1, 3) := by decide +kernel
theorem dX4_firstColumnNoInterval_26 : decode cX4_firstColumnNoInterval 26 = .ok (.goto (-24), 3) := by decide +kernel
theorem dX4_firstColumnNoInterval_29 : decode cX4_firstColumnNoInterval 29 = .ok (.iconst (-1), 1) := by decide +kernel
theorem dX4_firstColumnNoInterval_30 : decode cX4_firstColumnNoInterval 30 = .ok (.ireturn, 1) := by decide +kernel
set_option maxRecDepth 20000 in
theorem ggX4_firstSetNotParted_X4_noteSides : GoodIn wsX4_firstSetNotParted wsX4_noteSides := goodIn_r _ [7, 1, 8, 2, 9, 10, 11, 34, 35, 36, 37, 38, 39, 40, 41, 42, 43, 44, 45, 46] (by decide +kernel) (by decide +kernel)
set_option maxRecDepth 20000 in
theorem gX4_firstSetNotParted_X4_noteSides : GoodIn wsX4_firstSetNotParted (wsV RX4 55 RX4 yX4_noteSides wsX4_noteSides) := goodIn_app (goodIn_of _ (by decide +kernel)) ggX4_firstSetNotParted_X4_noteSides
set_option maxRecDepth 20000 in
theorem ggX4_firstSetNotParted_X4_hasUnitTerms : GoodIn wsX4_firstSetNotParted wsX4_hasUnitTerms := goodIn_r _ [15, 1, 8, 9, 16, 17, 18, 34, 35, 36, 37, 38, 39, 40, 41, 42, 43, 44, 45, 46] (by decide +kernel) (by decide +kernel)
set_option maxRecDepth 20000 in
theorem gX4_firstSetNotParted_X4_hasUnitTerms : GoodIn wsX4_firstSetNotParted (wsV RX4 58 RX4 yX4_hasUnitTerms wsX4_hasUnitTerms) := goodIn_app (goodIn_of _ (by decide +kernel)) ggX4_firstSetNotParted_X4_hasUnitTerms
set_option maxRecDepth 20000 in
theorem ggX4_firstSetNotParted_X4_canBeParted : GoodIn wsX4_firstSetNotParted wsX4_canBeParted := goodIn_r _ [22, 23, 24, 25, 6, 26, 1, 8, 10, 11, 27, 28, 29, 30, 31, 32, 33, 16, 17, 18, 34, 35, 36, 37, 38, 39, 40, 41, 42, 43, 44, 45, 46] (by decide +kernel) (by decide +kernel)
set_option maxRecDepth 20000 in
theorem gX4_firstSetNotParted_X4_canBeParted : GoodIn wsX4_firstSetNotParted (wsV RX4 61 RX4 yX4_canBeParted wsX4_canBeParted) := goodIn_app (goodIn_of _ (by decide +kernel)) ggX4_firstSetNotParted_X4_canBeParted
theorem dX4_firstSetNotParted_0 : decode cX4_firstSetNotParted 0 = .ok (.aload_n 0, 1) := by decide +kernel
theorem dX4_firstSetNotParted_1 : decode cX4_firstSetNotParted 1 = .ok (.invokevirtual 55, 3) := by decide +kernel
theorem dX4_firstSetNotParted_4 : decode cX4_firstSetNotParted 4 = .ok (.iconst 0, 1) := by decide +kernel
theorem dX4_firstSetNotParted_5 : decode cX4_firstSetNotParted 5 = .ok (.istore_n 1, 1) := by decide +kernel
theorem dX4_firstSetNotParted_6 : decode cX4_firstSetNotParted 6 = .ok (.iload_n 1, 1) := by decide +kernel
theorem dX4_firstSetNotParted_7 : decode cX4_firstSetNotParted 7 = .ok (.aload_n 0, 1) := by decide +kernel
theorem dX4_firstSetNotParted_8 : decode cX4_firstSetNotParted 8 = .ok (.getfield 12, 3) := by decide +kernel
theorem dX4_firstSetNotParted_11 : decode cX4_firstSetNotParted 11 = .ok (.getfield 42, 3) := by decide +kernel
theorem dX4_firstSetNotParted_14 : decode cX4_firstSetNotParted 14 = .ok (.if_icmp .ge 53, 3) := by decide +kernel
theorem dX4_firstSetNotParted_17 : decode cX4_firstSetNotParted 17 = .ok (.aload_n 0, 1) := by decide +kernel
theorem dX4_firstSetNotParted_18 : decode cX4_firstSetNotParted 18 = .ok (.iload_n 1, 1) := by decide +kernel
theorem dX4_firstSetNotParted_19 : decode cX4_firstSetNotParted 19 = .ok (.invokevirtual 58, 3) := by decide +kernel
theorem dX4_firstSetNotParted_22 : decode cX4_firstSetNotParted 22 = .ok (.ifCond .ne 7, 3) := by decide +kernel
theorem dX4_firstSetNotParted_25 : decode cX4_firstSetNotParted 25 = .ok (.iconst 1, 1) := by decide +kernel
theorem dX4_firstSetNotParted_26 : decode cX4_firstSetNotParted 26 = .ok (.iload_n 1, 1) := by decide +kernel
theorem dX4_firstSetNotParted_27 : decode cX4_firstSetNotParted 27 = .ok (.ishl, 1) := by decide +kernel
theorem dX4_firstSetNotParted_28 : decode cX4_firstSetNotParted 28 = .ok (.ireturn, 1) := by decide +kernel
theorem dX4_firstSetNotParted_29 : decode cX4_firstSetNotParted 29 = .ok (.iconst 0, 1) := by decide +kernel
theorem dX4_firstSetNotParted_30 : decode cX4_firstSetNotParted 30 = .ok (.istore_n 2, 1) := by decide +kernel
theorem dX4_firstSetNotParted_31 : decode cX4_firstSetNotParted 31 = .ok (.iload_n 2, 1) := by decide +kernel
theorem dX4_firstSetNotParted_32 : decode cX4_firstSetNotParted 32 = .ok (.iconst 1, 1) := by decide +kernel
theorem dX4_firstSetNotParted_33 : decode cX4_firstSetNotParted 33 = .ok (.iload_n 1, 1) := by decide +kernel
theorem dX4_firstSetNotParted_34 : decode cX4_firstSetNotParted 34 = .ok (.ishl, 1) := by decide +kernel
theorem dX4_firstSetNotParted_35 : decode cX4_firstSetNotParted 35 = .ok (.if_icmp .ge 26, 3) := by decide +kernel
theorem dX4_firstSetNotParted_38 : decode cX4_firstSetNotParted 38 = .ok (.aload_n 0, 1) := by decide +kernel
theorem dX4_firstSetNotParted_39 : decode cX4_firstSetNotParted 39 = .ok (.iload_n 2, 1) := by decide +kernel
theorem dX4_firstSetNotParted_40 : decode cX4_firstSetNotParted 40 = .ok (.iconst 1, 1) := by decide +kernel
theorem dX4_firstSetNotParted_41 : decode cX4_firstSetNotParted 41 = .ok (.iload_n 1, 1) := by decide +kernel
theorem dX4_firstSetNotParted_42 : decode cX4_firstSetNotParted 42 = .ok (.ishl, 1) := by decide +kernel
theorem dX4_firstSetNotParted_43 : decode cX4_firstSetNotParted 43 = .ok (.invokevirtual 61, 3) := by decide +kernel
theorem dX4_firstSetNotParted_46 : decode cX4_firstSetNotParted 46 = .ok (.ifCond .ne 9, 3) := by decide +kernel
theorem dX4_firstSetNotParted_49 : decode cX4_firstSetNotParted 49 = .ok (.iload_n 2, 1) := by decide +kernel
theorem dX4_firstSetNotParted_50 : decode cX4_firstSetNotParted 50 = .ok (.iconst 1, 1) := by decide +kernel
theorem dX4_firstSetNotParted_51 : decode cX4_firstSetNotParted 51 = .ok (.iload_n 1, 1) := by decide +kernel
theorem dX4_firstSetNotParted_52 : decode cX4_firstSetNotParted 52 = .ok (.ishl, 1) := by decide +kernel
theorem dX4_firstSetNotParted_53 : decode cX4_firstSetNotParted 53 = .ok (.iadd, 1) := by decide +kernel
theorem dX4_firstSetNotParted_54 : decode cX4_firstSetNotParted 54 = .ok (.ireturn, 1) := by decide +kernel
theorem dX4_firstSetNotParted_55 : decode cX4_firstSetNotParted 55 = .ok (.iinc 2 1, 3) := by decide +kernel
theorem dX4_firstSetNotParted_58 : decode cX4_firstSetNotParted 58 = .ok (.goto (-27), 3) := by decide +kernel
theorem dX4_firstSetNotParted_61 : decode cX4_firstSetNotParted 61 = .ok (.iinc 1 1, 3) := by decide +kernel
theorem dX4_firstSetNotParted_64 : decode cX4_firstSetNotParted 64 = .ok (.goto (-58), 3) := by decide +kernel
theorem dX4_firstSetNotParted_67 : decode cX4_firstSetNotParted 67 = .ok (.iconst (-1), 1) := by decide +kernel
theorem dX4_firstSetNotParted_68 : decode cX4_firstSetNotParted 68 = .ok (.ireturn, 1) := by decide +kernel
theorem dX4_isKnapsack_0 : decode cX4_isKnapsack 0 = .ok (.aload_n 0, 1) := by decide +kernel
theorem dX4_isKnapsack_1 : decode cX4_isKnapsack 1 = .ok (.getfield 12, 3) := by decide +kernel
theorem dX4_isKnapsack_4 : decode cX4_isKnapsack 4 = .ok (.getfield 42, 3) := by decide +kernel
theorem dX4_isKnapsack_7 : decode cX4_isKnapsack 7 = .ok (.iconst 1, 1) := by decide +kernel
theorem dX4_isKnapsack_8 : decode cX4_isKnapsack 8 = .ok (.if_icmp .ne 15, 3) := by decide +kernel
theorem dX4_isKnapsack_11 : decode cX4_isKnapsack 11 = .ok (.aload_n 0, 1) := by decide +kernel
theorem dX4_isKnapsack_12 : decode cX4_isKnapsack 12 = .ok (.getfield 12, 3) := by decide +kernel
theorem dX4_isKnapsack_15 : decode cX4_isKnapsack 15 = .ok (.getfield 65, 3) := by decide +kernel
theorem dX4_isKnapsack_18 : decode cX4_isKnapsack 18 = .ok (.iconst 0, 1) := by decide +kernel
theorem dX4_isKnapsack_19 : decode cX4_isKnapsack 19 = .ok (.iaload, 1) := by decide +kernel
theorem dX4_isKnapsack_20 : decode cX4_isKnapsack 20 = .ok (.ifCond .eq 5, 3) := by decide +kernel
theorem dX4_isKnapsack_23 : decode cX4_isKnapsack 23 = .ok (.iconst 0, 1) := by decide +kernel
theorem dX4_isKnapsack_24 : decode cX4_isKnapsack 24 = .ok (.ireturn, 1) := by decide +kernel
theorem dX4_isKnapsack_25 : decode cX4_isKnapsack 25 = .ok (.aload_n 0, 1) := by decide +kernel
theorem dX4_isKnapsack_26 : decode cX4_isKnapsack 26 = .ok (.getfield 12, 3) := by decide +kernel
theorem dX4_isKnapsack_29 : decode cX4_isKnapsack 29 = .ok (.getfield 68, 3) := by decide +kernel
theorem dX4_isKnapsack_32 : decode cX4_isKnapsack 32 = .ok (.iconst 0, 1) := by decide +kernel
theorem dX4_isKnapsack_33 : decode cX4_isKnapsack 33 = .ok (.iaload, 1) := by decide +kernel
theorem dX4_isKnapsack_34 : decode cX4_isKnapsack 34 = .ok (.ifCond .lt 18, 3) := by decide +kernel
theorem dX4_isKnapsack_37 : decode cX4_isKnapsack 37 = .ok (.aload_n 0, 1) := by decide +kernel
theorem dX4_isKnapsack_38 : decode cX4_isKnapsack 38 = .ok (.getfield 12, 3) := by decide +kernel
theorem dX4_isKnapsack_41 : decode cX4_isKnapsack 41 = .ok (.getfield 68, 3) := by decide +kernel
theorem dX4_isKnapsack_44 : decode cX4_isKnapsack 44 = .ok (.iconst 0, 1) := by decide +kernel
theorem dX4_isKnapsack_45 : decode cX4_isKnapsack 45 = .ok (.iaload, 1) := by decide +kernel
theorem dX4_isKnapsack_46 : decode cX4_isKnapsack 46 = .ok (.sipush 300, 3) := by decide +kernel
theorem dX4_isKnapsack_49 : decode cX4_isKnapsack 49 = .ok (.if_icmp .le 5, 3) := by decide +kernel
theorem dX4_isKnapsack_52 : decode cX4_isKnapsack 52 = .ok (.iconst 0, 1) := by decide +kernel
theorem dX4_isKnapsack_53 : decode cX4_isKnapsack 53 = .ok (.ireturn, 1) := by decide +kernel
theorem dX4_isKnapsack_54 : decode cX4_isKnapsack 54 = .ok (.iconst 0, 1) := by decide +kernel
theorem dX4_isKnapsack_55 : decode cX4_isKnapsack 55 = .ok (.istore_n 1, 1) := by decide +kernel
theorem dX4_isKnapsack_56 : decode cX4_isKnapsack 56 = .ok (.iload_n 1, 1) := by decide +kernel
theorem dX4_isKnapsack_57 : decode cX4_isKnapsack 57 = .ok (.aload_n 0, 1) := by decide +kernel
theorem dX4_isKnapsack_58 : decode cX4_isKnapsack 58 = .ok (.getfield 12, 3) := by decide +kernel
theorem dX4_isKnapsack_61 : decode cX4_isKnapsack 61 = .ok (.getfield 34, 3) := by decide +kernel
theorem dX4_isKnapsack_64 : decode cX4_isKnapsack 64 = .ok (.if_icmp .ge 37, 3) := by decide +kernel
theorem dX4_isKnapsack_67 : decode cX4_isKnapsack 67 = .ok (.aload_n 0, 1) := by decide +kernel
theorem dX4_isKnapsack_68 : decode cX4_isKnapsack 68 = .ok (.getfield 12, 3) := by decide +kernel
theorem dX4_isKnapsack_71 : decode cX4_isKnapsack 71 = .ok (.getfield 71, 3) := by decide +kernel
theorem dX4_isKnapsack_74 : decode cX4_isKnapsack 74 = .ok (.iconst 0, 1) := by decide +kernel
theorem dX4_isKnapsack_75 : decode cX4_isKnapsack 75 = .ok (.aaload, 1) := by decide +kernel
theorem dX4_isKnapsack_76 : decode cX4_isKnapsack 76 = .ok (.iload_n 1, 1) := by decide +kernel
theorem dX4_isKnapsack_77 : decode cX4_isKnapsack 77 = .ok (.iaload, 1) := by decide +kernel
theorem dX4_isKnapsack_78 : decode cX4_isKnapsack 78 = .ok (.ifCond .le 15, 3) := by decide +kernel
theorem dX4_isKnapsack_81 : decode cX4_isKnapsack 81 = .ok (.aload_n 0, 1) := by decide +kernel
theorem dX4_isKnapsack_82 : decode cX4_isKnapsack 82 = .ok (.getfield 12, 3) := by decide +kernel
theorem dX4_isKnapsack_85 : decode cX4_isKnapsack 85 = .ok (.getfield 75, 3) := by decide +kernel
theorem dX4_isKnapsack_88 : decode cX4_isKnapsack 88 = .ok (.iload_n 1, 1) := by decide +kernel
theorem dX4_isKnapsack_89 : decode cX4_isKnapsack 89 = .ok (.iaload, 1) := by decide +kernel
theorem dX4_isKnapsack_90 : decode cX4_isKnapsack 90 = .ok (.ifCond .eq 5, 3) := by decide +kernel
theorem dX4_isKnapsack_93 : decode cX4_isKnapsack 93 = .ok (.iconst 0, 1) := by decide +kernel
theorem dX4_isKnapsack_94 : decode cX4_isKnapsack 94 = .ok (.ireturn, 1) := by decide +kernel
theorem dX4_isKnapsack_95 : decode cX4_isKnapsack 95 = .ok (.iinc 1 1, 3) := by decide +kernel
theorem dX4_isKnapsack_98 : decode cX4_isKnapsack 98 = .ok (.goto (-42), 3) := by decide +kernel
theorem dX4_isKnapsack_101 : decode cX4_isKnapsack 101 = .ok (.iconst 1, 1) := by decide +kernel
theorem dX4_isKnapsack_102 : decode cX4_isKnapsack 102 = .ok (.ireturn, 1) := by decide +kernel
set_option maxRecDepth 20000 in
theorem ggX4_isMatching_X4_findSigns : GoodIn wsX4_isMatching wsX4_findSigns := goodIn_r _ [11, 1, 2, 12, 13, 14, 10, 15, 5, 16, 17, 18, 19, 20, 21, 22, 23, 24, 25, 26, 27, 28, 29, 30, 31, 32, 33, 34, 35, 36, 37, 38, 39, 40, 41, 42, 43, 44, 45, 46, 47, 48, 49, 50, 51, 56, 57, 58, 59, 60, 61, 62, 63, 64, 65, 66, 67, 68] (by decide +kernel) (by decide +kernel)
set_option maxRecDepth 20000 in
theorem gX4_isMatching_X4_findSigns : GoodIn wsX4_isMatching (wsV RX4 78 RX4 yX4_findSigns wsX4_findSigns) := goodIn_app (goodIn_of _ (by decide +kernel)) ggX4_isMatching_X4_findSigns
set_option maxRecDepth 20000 in
theorem ggX4_isMatching_X4_hasTermBelowZero : GoodIn wsX4_isMatching wsX4_hasTermBelowZero := goodIn_r _ [55, 1, 2, 16, 56, 57, 58, 59, 60, 61, 62, 63, 64, 65, 66, 67, 68] (by decide +kernel) (by decide +kernel)
set_option maxRecDepth 20000 in
theorem gX4_isMatching_X4_hasTermBelowZero : GoodIn wsX4_isMatching (wsV RX4 85 RX4 yX4_hasTermBelowZero wsX4_hasTermBelowZero) := goodIn_app (goodIn_of _ (by decide +kernel)) ggX4_isMatching_X4_hasTermBelowZero
theorem dX4_isMatching_0 : decode cX4_isMatching 0 = .ok (.aload_n 0, 1) := by decide +kernel
theorem dX4_isMatching_1 : decode cX4_isMatching 1 = .ok (.invokevirtual 78, 3) := by decide +kernel
theorem dX4_isMatching_4 : decode cX4_isMatching 4 = .ok (.iconst (-1), 1) := by decide +kernel
theorem dX4_isMatching_5 : decode cX4_isMatching 5 = .ok (.if_icmp .eq 5, 3) := by decide +kernel
theorem dX4_isMatching_8 : decode cX4_isMatching 8 = .ok (.iconst 0, 1) := by decide +kernel
theorem dX4_isMatching_9 : decode cX4_isMatching 9 = .ok (.ireturn, 1) := by decide +kernel
theorem dX4_isMatching_10 : decode cX4_isMatching 10 = .ok (.iconst 0, 1) := by decide +kernel
theorem dX4_isMatching_11 : decode cX4_isMatching 11 = .ok (.istore_n 1, 1) := by decide +kernel
theorem dX4_isMatching_12 : decode cX4_isMatching 12 = .ok (.iload_n 1, 1) := by decide +kernel
theorem dX4_isMatching_13 : decode cX4_isMatching 13 = .ok (.aload_n 0, 1) := by decide +kernel
theorem dX4_isMatching_14 : decode cX4_isMatching 14 = .ok (.getfield 12, 3) := by decide +kernel
theorem dX4_isMatching_17 : decode cX4_isMatching 17 = .ok (.getfield 34, 3) := by decide +kernel
theorem dX4_isMatching_20 : decode cX4_isMatching 20 = .ok (.if_icmp .ge 36, 3) := by decide +kernel
theorem dX4_isMatching_23 : decode cX4_isMatching 23 = .ok (.aload_n 0, 1) := by decide +kernel
theorem dX4_isMatching_24 : decode cX4_isMatching 24 = .ok (.getfield 12, 3) := by decide +kernel
theorem dX4_isMatching_27 : decode cX4_isMatching 27 = .ok (.getfield 75, 3) := by decide +kernel
theorem dX4_isMatching_30 : decode cX4_isMatching 30 = .ok (.iload_n 1, 1) := by decide +kernel
theorem dX4_isMatching_31 : decode cX4_isMatching 31 = .ok (.iaload, 1) := by decide +kernel
theorem dX4_isMatching_32 : decode cX4_isMatching 32 = .ok (.ifCond .ne 16, 3) := by decide +kernel
theorem dX4_isMatching_35 : decode cX4_isMatching 35 = .ok (.aload_n 0, 1) := by decide +kernel
theorem dX4_isMatching_36 : decode cX4_isMatching 36 = .ok (.getfield 12, 3) := by decide +kernel
theorem dX4_isMatching_39 : decode cX4_isMatching 39 = .ok (.getfield 82, 3) := by decide +kernel
theorem dX4_isMatching_42 : decode cX4_isMatching 42 = .ok (.iload_n 1, 1) := by decide +kernel
theorem dX4_isMatching_43 : decode cX4_isMatching 43 = .ok (.iaload, 1) := by decide +kernel
theorem dX4_isMatching_44 : decode cX4_isMatching 44 = .ok (.iconst 1, 1) := by decide +kernel
theorem dX4_isMatching_45 : decode cX4_isMatching 45 = .ok (.if_icmp .eq 5, 3) := by decide +kernel
theorem dX4_isMatching_48 : decode cX4_isMatching 48 = .ok (.iconst 0, 1) := by decide +kernel
theorem dX4_isMatching_49 : decode cX4_isMatching 49 = .ok (.ireturn, 1) := by decide +kernel
theorem dX4_isMatching_50 : decode cX4_isMatching 50 = .ok (.iinc 1 1, 3) := by decide +kernel
theorem dX4_isMatching_53 : decode cX4_isMatching 53 = .ok (.goto (-41), 3) := by decide +kernel
theorem dX4_isMatching_56 : decode cX4_isMatching 56 = .ok (.iconst 0, 1) := by decide +kernel
theorem dX4_isMatching_57 : decode cX4_isMatching 57 = .ok (.istore_n 1, 1) := by decide +kernel
theorem dX4_isMatching_58 : decode cX4_isMatching 58 = .ok (.iload_n 1, 1) := by decide +kernel
theorem dX4_isMatching_59 : decode cX4_isMatching 59 = .ok (.aload_n 0, 1) := by decide +kernel
theorem dX4_isMatching_60 : decode cX4_isMatching 60 = .ok (.getfield 12, 3) := by decide +kernel
theorem dX4_isMatching_63 : decode cX4_isMatching 63 = .ok (.getfield 42, 3) := by decide +kernel
theorem dX4_isMatching_66 : decode cX4_isMatching 66 = .ok (.if_icmp .ge 32, 3) := by decide +kernel
theorem dX4_isMatching_69 : decode cX4_isMatching 69 = .ok (.aload_n 0, 1) := by decide +kernel
theorem dX4_isMatching_70 : decode cX4_isMatching 70 = .ok (.getfield 12, 3) := by decide +kernel
theorem dX4_isMatching_73 : decode cX4_isMatching 73 = .ok (.getfield 68, 3) := by decide +kernel
theorem dX4_isMatching_76 : decode cX4_isMatching 76 = .ok (.iload_n 1, 1) := by decide +kernel
theorem dX4_isMatching_77 : decode cX4_isMatching 77 = .ok (.iaload, 1) := by decide +kernel
theorem dX4_isMatching_78 : decode cX4_isMatching 78 = .ok (.iconst 1, 1) := by decide +kernel
theorem dX4_isMatching_79 : decode cX4_isMatching 79 = .ok (.if_icmp .ne 11, 3) := by decide +kernel
theorem dX4_isMatching_82 : decode cX4_isMatching 82 = .ok (.aload_n 0, 1) := by decide +kernel
theorem dX4_isMatching_83 : decode cX4_isMatching 83 = .ok (.iload_n 1, 1) := by decide +kernel
theorem dX4_isMatching_84 : decode cX4_isMatching 84 = .ok (.invokevirtual 85, 3) := by decide +kernel
theorem dX4_isMatching_87 : decode cX4_isMatching 87 = .ok (.ifCond .eq 5, 3) := by decide +kernel
theorem dX4_isMatching_90 : decode cX4_isMatching 90 = .ok (.iconst 0, 1) := by decide +kernel
theorem dX4_isMatching_91 : decode cX4_isMatching 91 = .ok (.ireturn, 1) := by decide +kernel
theorem dX4_isMatching_92 : decode cX4_isMatching 92 = .ok (.iinc 1 1, 3) := by decide +kernel
theorem dX4_isMatching_95 : decode cX4_isMatching 95 = .ok (.goto (-37), 3) := by decide +kernel
theorem dX4_isMatching_98 : decode cX4_isMatching 98 = .ok (.iconst 1, 1) := by decide +kernel
theorem dX4_isMatching_99 : decode cX4_isMatching 99 = .ok (.ireturn, 1) := by decide +kernel
set_option maxRecDepth 20000 in
theorem ggX4_isWay_X4_findSigns : GoodIn wsX4_isWay wsX4_findSigns := goodIn_r _ [9, 1, 2, 10, 11, 12, 8, 13, 3, 14, 15, 16, 17, 18, 19, 20, 21, 22, 23, 24, 25, 26, 27, 28, 29, 30, 31, 32, 33, 34, 35, 36, 37, 38, 39, 40, 41, 42, 43, 44, 45, 46, 47, 48, 49, 62, 63, 64, 65, 66, 67, 68, 69, 70, 71, 72, 73, 74] (by decide +kernel) (by decide +kernel)
set_option maxRecDepth 20000 in
theorem gX4_isWay_X4_findSigns : GoodIn wsX4_isWay (wsV RX4 78 RX4 yX4_findSigns wsX4_findSigns) := goodIn_app (goodIn_of _ (by decide +kernel)) ggX4_isWay_X4_findSigns
set_option maxRecDepth 20000 in
theorem ggX4_isWay_X4_canBeWalked : GoodIn wsX4_isWay wsX4_canBeWalked := goodIn_r _ [53, 1, 54, 55, 56, 18, 19, 20, 21, 22, 23, 24, 62, 63, 64, 65, 66, 67, 68, 69, 70, 71, 72, 73, 74] (by decide +kernel) (by decide +kernel)
set_option maxRecDepth 20000 in
theorem gX4_isWay_X4_canBeWalked : GoodIn wsX4_isWay (wsV RX4 88 RX4 yX4_canBeWalked wsX4_canBeWalked) := goodIn_app (goodIn_of _ (by decide +kernel)) ggX4_isWay_X4_canBeWalked
set_option maxRecDepth 20000 in
theorem ggX4_isWay_X4_hasTwoEnds : GoodIn wsX4_isWay wsX4_hasTwoEnds := goodIn_r _ [60, 1, 3, 61, 30, 29, 62, 63, 64, 65, 66, 67, 68, 69, 70, 71, 72, 73, 74] (by decide +kernel) (by decide +kernel)
set_option maxRecDepth 20000 in
theorem gX4_isWay_X4_hasTwoEnds : GoodIn wsX4_isWay (wsV RX4 91 RX4 yX4_hasTwoEnds wsX4_hasTwoEnds) := goodIn_app (goodIn_of _ (by decide +kernel)) ggX4_isWay_X4_hasTwoEnds
theorem dX4_isWay_0 : decode cX4_isWay 0 = .ok (.aload_n 0, 1) := by decide +kernel
theorem dX4_isWay_1 : decode cX4_isWay 1 = .ok (.invokevirtual 78, 3) := by decide +kernel
theorem dX4_isWay_4 : decode cX4_isWay 4 = .ok (.iconst (-1), 1) := by decide +kernel
theorem dX4_isWay_5 : decode cX4_isWay 5 = .ok (.if_icmp .eq 5, 3) := by decide +kernel
theorem dX4_isWay_8 : decode cX4_isWay 8 = .ok (.iconst 0, 1) := by decide +kernel
theorem dX4_isWay_9 : decode cX4_isWay 9 = .ok (.ireturn, 1) := by decide +kernel
theorem dX4_isWay_10 : decode cX4_isWay 10 = .ok (.iconst 0, 1) := by decide +kernel
theorem dX4_isWay_11 : decode cX4_isWay 11 = .ok (.istore_n 1, 1) := by decide +kernel
theorem dX4_isWay_12 : decode cX4_isWay 12 = .ok (.iload_n 1, 1) := by decide +kernel
theorem dX4_isWay_13 : decode cX4_isWay 13 = .ok (.aload_n 0, 1) := by decide +kernel
theorem dX4_isWay_14 : decode cX4_isWay 14 = .ok (.getfield 12, 3) := by decide +kernel
theorem dX4_isWay_17 : decode cX4_isWay 17 = .ok (.getfield 34, 3) := by decide +kernel
theorem dX4_isWay_20 : decode cX4_isWay 20 = .ok (.if_icmp .ge 19, 3) := by decide +kernel
theorem dX4_isWay_23 : decode cX4_isWay 23 = .ok (.aload_n 0, 1) := by decide +kernel
theorem dX4_isWay_24 : decode cX4_isWay 24 = .ok (.iload_n 1, 1) := by decide +kernel
theorem dX4_isWay_25 : decode cX4_isWay 25 = .ok (.invokevirtual 88, 3) := by decide +kernel
theorem dX4_isWay_28 : decode cX4_isWay 28 = .ok (.ifCond .ne 5, 3) := by decide +kernel
theorem dX4_isWay_31 : decode cX4_isWay 31 = .ok (.iconst 0, 1) := by decide +kernel
theorem dX4_isWay_32 : decode cX4_isWay 32 = .ok (.ireturn, 1) := by decide +kernel
theorem dX4_isWay_33 : decode cX4_isWay 33 = .ok (.iinc 1 1, 3) := by decide +kernel
theorem dX4_isWay_36 : decode cX4_isWay 36 = .ok (.goto (-24), 3) := by decide +kernel
theorem dX4_isWay_39 : decode cX4_isWay 39 = .ok (.iconst 0, 1) := by decide +kernel
theorem dX4_isWay_40 : decode cX4_isWay 40 = .ok (.istore_n 1, 1) := by decide +kernel
theorem dX4_isWay_41 : decode cX4_isWay 41 = .ok (.iload_n 1, 1) := by decide +kernel
theorem dX4_isWay_42 : decode cX4_isWay 42 = .ok (.aload_n 0, 1) := by decide +kernel
theorem dX4_isWay_43 : decode cX4_isWay 43 = .ok (.getfield 12, 3) := by decide +kernel
theorem dX4_isWay_46 : decode cX4_isWay 46 = .ok (.getfield 42, 3) := by decide +kernel
theorem dX4_isWay_49 : decode cX4_isWay 49 = .ok (.if_icmp .ge 24, 3) := by decide +kernel
theorem dX4_isWay_52 : decode cX4_isWay 52 = .ok (.aload_n 0, 1) := by decide +kernel
theorem dX4_isWay_53 : decode cX4_isWay 53 = .ok (.getfield 12, 3) := by decide +kernel
theorem dX4_isWay_56 : decode cX4_isWay 56 = .ok (.getfield 65, 3) := by decide +kernel
theorem dX4_isWay_59 : decode cX4_isWay 59 = .ok (.iload_n 1, 1) := by decide +kernel
theorem dX4_isWay_60 : decode cX4_isWay 60 = .ok (.iaload, 1) := by decide +kernel
theorem dX4_isWay_61 : decode cX4_isWay 61 = .ok (.iconst 1, 1) := by decide +kernel
theorem dX4_isWay_62 : decode cX4_isWay 62 = .ok (.if_icmp .eq 5, 3) := by decide +kernel
theorem dX4_isWay_65 : decode cX4_isWay 65 = .ok (.iconst 0, 1) := by decide +kernel
theorem dX4_isWay_66 : decode cX4_isWay 66 = .ok (.ireturn, 1) := by decide +kernel
theorem dX4_isWay_67 : decode cX4_isWay 67 = .ok (.iinc 1 1, 3) := by decide +kernel
theorem dX4_isWay_70 : decode cX4_isWay 70 = .ok (.goto (-29), 3) := by decide +kernel
theorem dX4_isWay_73 : decode cX4_isWay 73 = .ok (.aload_n 0, 1) := by decide +kernel
theorem dX4_isWay_74 : decode cX4_isWay 74 = .ok (.invokevirtual 91, 3) := by decide +kernel
theorem dX4_isWay_77 : decode cX4_isWay 77 = .ok (.ireturn, 1) := by decide +kernel
theorem dX4_startAlone_0 : decode cX4_startAlone 0 = .ok (.iconst 0, 1) := by decide +kernel
theorem dX4_startAlone_1 : decode cX4_startAlone 1 = .ok (.istore_n 1, 1) := by decide +kernel
theorem dX4_startAlone_2 : decode cX4_startAlone 2 = .ok (.iload_n 1, 1) := by decide +kernel
