theorem dX0_init_0 : decode cX0_init 0 = .ok (.aload_n 0, 1) := by decide +kernel
theorem dX0_init_1 : decode cX0_init 1 = .ok (.invokespecial 3, 3) := by decide +kernel
theorem dX0_init_4 : decode cX0_init 4 = .ok (.aload_n 0, 1) := by decide +kernel
theorem dX0_init_5 : decode cX0_init 5 = .ok (.bipush 11, 2) := by decide +kernel
theorem dX0_init_7 : decode cX0_init 7 = .ok (.sipush 301, 3) := by decide +kernel
theorem dX0_init_10 : decode cX0_init 10 = .ok (.multianewarray 9 2, 4) := by decide +kernel
theorem dX0_init_14 : decode cX0_init 14 = .ok (.putfield 11, 3) := by decide +kernel
theorem dX0_init_17 : decode cX0_init 17 = .ok (.return_, 1) := by decide +kernel
set_option maxRecDepth 20000 in
theorem ggX0_fill_J7_fill_53178 : GoodIn wsX0_fill wsJ7_fill_53178 := goodIn_r _ [13] (by decide +kernel) (by decide +kernel)
set_option maxRecDepth 20000 in
theorem gX0_fill_J7_fill_53178 : GoodIn wsX0_fill (va_wsS RX0 26 yJ7_fill_53178 wsJ7_fill_53178) := goodIn_app (goodIn_of _ (by decide +kernel)) ggX0_fill_J7_fill_53178
set_option maxRecDepth 20000 in
theorem ggX0_fill_X0_putInPacks : GoodIn wsX0_fill wsX0_putInPacks := goodIn_r _ [18, 19, 20, 21, 22, 2, 9, 8, 23, 24, 25, 17, 26, 27, 28, 29, 30, 31, 44, 36, 37, 38, 39, 40, 41, 42, 43] (by decide +kernel) (by decide +kernel)
set_option maxRecDepth 20000 in
theorem gX0_fill_X0_putInPacks : GoodIn wsX0_fill (wsV RX0 41 RX0 yX0_putInPacks wsX0_putInPacks) := goodIn_app (goodIn_of _ (by decide +kernel)) ggX0_fill_X0_putInPacks
set_option maxRecDepth 20000 in
theorem ggX0_fill_X0_fewest : GoodIn wsX0_fill wsX0_fewest := goodIn_r _ [35, 8, 2, 9, 23, 24, 25, 17, 26, 27, 19, 20, 21, 22, 36, 37, 38, 39, 40, 41, 42, 43, 44] (by decide +kernel) (by decide +kernel)
set_option maxRecDepth 20000 in
theorem gX0_fill_X0_fewest : GoodIn wsX0_fill (wsV RX0 45 RX0 yX0_fewest wsX0_fewest) := goodIn_app (goodIn_of _ (by decide +kernel)) ggX0_fill_X0_fewest
theorem dX0_fill_0 : decode cX0_fill 0 = .ok (.aload_n 1, 1) := by decide +kernel
theorem dX0_fill_1 : decode cX0_fill 1 = .ok (.getfield 16, 3) := by decide +kernel
theorem dX0_fill_4 : decode cX0_fill 4 = .ok (.iconst 0, 1) := by decide +kernel
theorem dX0_fill_5 : decode cX0_fill 5 = .ok (.iaload, 1) := by decide +kernel
theorem dX0_fill_6 : decode cX0_fill 6 = .ok (.istore_n 3, 1) := by decide +kernel
theorem dX0_fill_7 : decode cX0_fill 7 = .ok (.aload_n 0, 1) := by decide +kernel
theorem dX0_fill_8 : decode cX0_fill 8 = .ok (.getfield 11, 3) := by decide +kernel
theorem dX0_fill_11 : decode cX0_fill 11 = .ok (.aload_n 1, 1) := by decide +kernel
theorem dX0_fill_12 : decode cX0_fill 12 = .ok (.getfield 22, 3) := by decide +kernel
theorem dX0_fill_15 : decode cX0_fill 15 = .ok (.aaload, 1) := by decide +kernel
theorem dX0_fill_16 : decode cX0_fill 16 = .ok (.iconst 0, 1) := by decide +kernel
theorem dX0_fill_17 : decode cX0_fill 17 = .ok (.invokestatic 26, 3) := by decide +kernel
theorem dX0_fill_20 : decode cX0_fill 20 = .ok (.aload_n 1, 1) := by decide +kernel
theorem dX0_fill_21 : decode cX0_fill 21 = .ok (.getfield 22, 3) := by decide +kernel
theorem dX0_fill_24 : decode cX0_fill 24 = .ok (.iconst 1, 1) := by decide +kernel
theorem dX0_fill_25 : decode cX0_fill 25 = .ok (.isub, 1) := by decide +kernel
theorem dX0_fill_26 : decode cX0_fill 26 = .ok (.istore 4, 2) := by decide +kernel
theorem dX0_fill_28 : decode cX0_fill 28 = .ok (.iload 4, 2) := by decide +kernel
theorem dX0_fill_30 : decode cX0_fill 30 = .ok (.ifCond .lt 51, 3) := by decide +kernel
theorem dX0_fill_33 : decode cX0_fill 33 = .ok (.aload_n 0, 1) := by decide +kernel
theorem dX0_fill_34 : decode cX0_fill 34 = .ok (.getfield 11, 3) := by decide +kernel
theorem dX0_fill_37 : decode cX0_fill 37 = .ok (.iload 4, 2) := by decide +kernel
theorem dX0_fill_39 : decode cX0_fill 39 = .ok (.iconst 1, 1) := by decide +kernel
theorem dX0_fill_40 : decode cX0_fill 40 = .ok (.iadd, 1) := by decide +kernel
theorem dX0_fill_41 : decode cX0_fill 41 = .ok (.aaload, 1) := by decide +kernel
theorem dX0_fill_42 : decode cX0_fill 42 = .ok (.iconst 0, 1) := by decide +kernel
theorem dX0_fill_43 : decode cX0_fill 43 = .ok (.aload_n 0, 1) := by decide +kernel
theorem dX0_fill_44 : decode cX0_fill 44 = .ok (.getfield 11, 3) := by decide +kernel
theorem dX0_fill_47 : decode cX0_fill 47 = .ok (.iload 4, 2) := by decide +kernel
theorem dX0_fill_49 : decode cX0_fill 49 = .ok (.aaload, 1) := by decide +kernel
theorem dX0_fill_50 : decode cX0_fill 50 = .ok (.iconst 0, 1) := by decide +kernel
theorem dX0_fill_51 : decode cX0_fill 51 = .ok (.iload_n 3, 1) := by decide +kernel
theorem dX0_fill_52 : decode cX0_fill 52 = .ok (.iconst 1, 1) := by decide +kernel
theorem dX0_fill_53 : decode cX0_fill 53 = .ok (.iadd, 1) := by decide +kernel
theorem dX0_fill_54 : decode cX0_fill 54 = .ok (.invokestatic 32, 3) := by decide +kernel
theorem dX0_fill_57 : decode cX0_fill 57 = .ok (.aload_n 1, 1) := by decide +kernel
theorem dX0_fill_58 : decode cX0_fill 58 = .ok (.getfield 38, 3) := by decide +kernel
theorem dX0_fill_61 : decode cX0_fill 61 = .ok (.iload 4, 2) := by decide +kernel
theorem dX0_fill_63 : decode cX0_fill 63 = .ok (.iaload, 1) := by decide +kernel
theorem dX0_fill_64 : decode cX0_fill 64 = .ok (.ifCond .ge 11, 3) := by decide +kernel
theorem dX0_fill_67 : decode cX0_fill 67 = .ok (.aload_n 0, 1) := by decide +kernel
theorem dX0_fill_68 : decode cX0_fill 68 = .ok (.aload_n 1, 1) := by decide +kernel
theorem dX0_fill_69 : decode cX0_fill 69 = .ok (.iload 4, 2) := by decide +kernel
theorem dX0_fill_71 : decode cX0_fill 71 = .ok (.iload_n 3, 1) := by decide +kernel
theorem dX0_fill_72 : decode cX0_fill 72 = .ok (.invokevirtual 41, 3) := by decide +kernel
theorem dX0_fill_75 : decode cX0_fill 75 = .ok (.iinc 4 (-1), 3) := by decide +kernel
theorem dX0_fill_78 : decode cX0_fill 78 = .ok (.goto (-50), 3) := by decide +kernel
theorem dX0_fill_81 : decode cX0_fill 81 = .ok (.iconst 0, 1) := by decide +kernel
theorem dX0_fill_82 : decode cX0_fill 82 = .ok (.istore 4, 2) := by decide +kernel
theorem dX0_fill_84 : decode cX0_fill 84 = .ok (.iload 4, 2) := by decide +kernel
theorem dX0_fill_86 : decode cX0_fill 86 = .ok (.aload_n 1, 1) := by decide +kernel
theorem dX0_fill_87 : decode cX0_fill 87 = .ok (.getfield 22, 3) := by decide +kernel
theorem dX0_fill_90 : decode cX0_fill 90 = .ok (.if_icmp .ge 38, 3) := by decide +kernel
theorem dX0_fill_93 : decode cX0_fill 93 = .ok (.aload_n 2, 1) := by decide +kernel
theorem dX0_fill_94 : decode cX0_fill 94 = .ok (.iload 4, 2) := by decide +kernel
theorem dX0_fill_96 : decode cX0_fill 96 = .ok (.aload_n 0, 1) := by decide +kernel
theorem dX0_fill_97 : decode cX0_fill 97 = .ok (.aload_n 1, 1) := by decide +kernel
theorem dX0_fill_98 : decode cX0_fill 98 = .ok (.iload 4, 2) := by decide +kernel
theorem dX0_fill_100 : decode cX0_fill 100 = .ok (.iload_n 3, 1) := by decide +kernel
theorem dX0_fill_101 : decode cX0_fill 101 = .ok (.invokevirtual 45, 3) := by decide +kernel
theorem dX0_fill_104 : decode cX0_fill 104 = .ok (.iastore, 1) := by decide +kernel
theorem dX0_fill_105 : decode cX0_fill 105 = .ok (.iload_n 3, 1) := by decide +kernel
theorem dX0_fill_106 : decode cX0_fill 106 = .ok (.aload_n 2, 1) := by decide +kernel
theorem dX0_fill_107 : decode cX0_fill 107 = .ok (.iload 4, 2) := by decide +kernel
theorem dX0_fill_109 : decode cX0_fill 109 = .ok (.iaload, 1) := by decide +kernel
theorem dX0_fill_110 : decode cX0_fill 110 = .ok (.aload_n 1, 1) := by decide +kernel
theorem dX0_fill_111 : decode cX0_fill 111 = .ok (.getfield 49, 3) := by decide +kernel
theorem dX0_fill_114 : decode cX0_fill 114 = .ok (.iconst 0, 1) := by decide +kernel
theorem dX0_fill_115 : decode cX0_fill 115 = .ok (.aaload, 1) := by decide +kernel
theorem dX0_fill_116 : decode cX0_fill 116 = .ok (.iload 4, 2) := by decide +kernel
theorem dX0_fill_118 : decode cX0_fill 118 = .ok (.iaload, 1) := by decide +kernel
theorem dX0_fill_119 : decode cX0_fill 119 = .ok (.imul, 1) := by decide +kernel
theorem dX0_fill_120 : decode cX0_fill 120 = .ok (.isub, 1) := by decide +kernel
theorem dX0_fill_121 : decode cX0_fill 121 = .ok (.istore_n 3, 1) := by decide +kernel
theorem dX0_fill_122 : decode cX0_fill 122 = .ok (.iinc 4 1, 3) := by decide +kernel
theorem dX0_fill_125 : decode cX0_fill 125 = .ok (.goto (-41), 3) := by decide +kernel
theorem dX0_fill_128 : decode cX0_fill 128 = .ok (.return_, 1) := by decide +kernel
set_option maxRecDepth 20000 in
theorem ggX0_putInPacks_X0_mostOf : GoodIn wsX0_putInPacks wsX0_mostOf := goodIn_r _ [12, 6, 13, 1, 2, 3, 4, 19, 20, 21, 22, 23, 24, 25, 26] (by decide +kernel) (by decide +kernel)
set_option maxRecDepth 20000 in
theorem gX0_putInPacks_X0_mostOf : GoodIn wsX0_putInPacks (wsV RX0 52 RX0 yX0_mostOf wsX0_mostOf) := goodIn_app (goodIn_of _ (by decide +kernel)) ggX0_putInPacks_X0_mostOf
set_option maxRecDepth 20000 in
theorem ggX0_putInPacks_X0_putPack : GoodIn wsX0_putInPacks wsX0_putPack := goodIn_r _ [17, 1, 2, 3, 4] (by decide +kernel) (by decide +kernel)
set_option maxRecDepth 20000 in
theorem gX0_putInPacks_X0_putPack : GoodIn wsX0_putInPacks (wsV RX0 61 RX0 yX0_putPack wsX0_putPack) := goodIn_app (goodIn_of _ (by decide +kernel)) ggX0_putInPacks_X0_putPack
theorem dX0_putInPacks_0 : decode cX0_putInPacks 0 = .ok (.aload_n 0, 1) := by decide +kernel
theorem dX0_putInPacks_1 : decode cX0_putInPacks 1 = .ok (.aload_n 1, 1) := by decide +kernel
theorem dX0_putInPacks_2 : decode cX0_putInPacks 2 = .ok (.iload_n 2, 1) := by decide +kernel
theorem dX0_putInPacks_3 : decode cX0_putInPacks 3 = .ok (.iload_n 3, 1) := by decide +kernel
theorem dX0_putInPacks_4 : decode cX0_putInPacks 4 = .ok (.invokevirtual 52, 3) := by decide +kernel
theorem dX0_putInPacks_7 : decode cX0_putInPacks 7 = .ok (.istore 4, 2) := by decide +kernel
theorem dX0_putInPacks_9 : decode cX0_putInPacks 9 = .ok (.iconst 1, 1) := by decide +kernel
theorem dX0_putInPacks_10 : decode cX0_putInPacks 10 = .ok (.istore 5, 2) := by decide +kernel
theorem dX0_putInPacks_12 : decode cX0_putInPacks 12 = .ok (.iload 4, 2) := by decide +kernel
theorem dX0_putInPacks_14 : decode cX0_putInPacks 14 = .ok (.ifCond .le 67, 3) := by decide +kernel
theorem dX0_putInPacks_17 : decode cX0_putInPacks 17 = .ok (.iload 5, 2) := by decide +kernel
theorem dX0_putInPacks_19 : decode cX0_putInPacks 19 = .ok (.sipush 300, 3) := by decide +kernel
theorem dX0_putInPacks_22 : decode cX0_putInPacks 22 = .ok (.if_icmp .gt 59, 3) := by decide +kernel
theorem dX0_putInPacks_25 : decode cX0_putInPacks 25 = .ok (.iload 5, 2) := by decide +kernel
theorem dX0_putInPacks_27 : decode cX0_putInPacks 27 = .ok (.iload 4, 2) := by decide +kernel
theorem dX0_putInPacks_29 : decode cX0_putInPacks 29 = .ok (.invokestatic 55, 3) := by decide +kernel
theorem dX0_putInPacks_32 : decode cX0_putInPacks 32 = .ok (.istore 6, 2) := by decide +kernel
theorem dX0_putInPacks_34 : decode cX0_putInPacks 34 = .ok (.aload_n 0, 1) := by decide +kernel
theorem dX0_putInPacks_35 : decode cX0_putInPacks 35 = .ok (.aload_n 0, 1) := by decide +kernel
theorem dX0_putInPacks_36 : decode cX0_putInPacks 36 = .ok (.getfield 11, 3) := by decide +kernel
theorem dX0_putInPacks_39 : decode cX0_putInPacks 39 = .ok (.iload_n 2, 1) := by decide +kernel
theorem dX0_putInPacks_40 : decode cX0_putInPacks 40 = .ok (.aaload, 1) := by decide +kernel
theorem dX0_putInPacks_41 : decode cX0_putInPacks 41 = .ok (.iload 6, 2) := by decide +kernel
theorem dX0_putInPacks_43 : decode cX0_putInPacks 43 = .ok (.aload_n 1, 1) := by decide +kernel
theorem dX0_putInPacks_44 : decode cX0_putInPacks 44 = .ok (.getfield 49, 3) := by decide +kernel
theorem dX0_putInPacks_47 : decode cX0_putInPacks 47 = .ok (.iconst 0, 1) := by decide +kernel
theorem dX0_putInPacks_48 : decode cX0_putInPacks 48 = .ok (.aaload, 1) := by decide +kernel
theorem dX0_putInPacks_49 : decode cX0_putInPacks 49 = .ok (.iload_n 2, 1) := by decide +kernel
theorem dX0_putInPacks_50 : decode cX0_putInPacks 50 = .ok (.iaload, 1) := by decide +kernel
theorem dX0_putInPacks_51 : decode cX0_putInPacks 51 = .ok (.imul, 1) := by decide +kernel
theorem dX0_putInPacks_52 : decode cX0_putInPacks 52 = .ok (.iload 6, 2) := by decide +kernel
theorem dX0_putInPacks_54 : decode cX0_putInPacks 54 = .ok (.aload_n 1, 1) := by decide +kernel
theorem dX0_putInPacks_55 : decode cX0_putInPacks 55 = .ok (.getfield 38, 3) := by decide +kernel
theorem dX0_putInPacks_58 : decode cX0_putInPacks 58 = .ok (.iload_n 2, 1) := by decide +kernel
theorem dX0_putInPacks_59 : decode cX0_putInPacks 59 = .ok (.iaload, 1) := by decide +kernel
theorem dX0_putInPacks_60 : decode cX0_putInPacks 60 = .ok (.imul, 1) := by decide +kernel
theorem dX0_putInPacks_61 : decode cX0_putInPacks 61 = .ok (.iload_n 3, 1) := by decide +kernel
theorem dX0_putInPacks_62 : decode cX0_putInPacks 62 = .ok (.invokevirtual 61, 3) := by decide +kernel
theorem dX0_putInPacks_65 : decode cX0_putInPacks 65 = .ok (.iload 4, 2) := by decide +kernel
theorem dX0_putInPacks_67 : decode cX0_putInPacks 67 = .ok (.iload 6, 2) := by decide +kernel
theorem dX0_putInPacks_69 : decode cX0_putInPacks 69 = .ok (.isub, 1) := by decide +kernel
theorem dX0_putInPacks_70 : decode cX0_putInPacks 70 = .ok (.istore 4, 2) := by decide +kernel
theorem dX0_putInPacks_72 : decode cX0_putInPacks 72 = .ok (.iload 5, 2) := by decide +kernel
theorem dX0_putInPacks_74 : decode cX0_putInPacks 74 = .ok (.iconst 2, 1) := by decide +kernel
theorem dX0_putInPacks_75 : decode cX0_putInPacks 75 = .ok (.imul, 1) := by decide +kernel
theorem dX0_putInPacks_76 : decode cX0_putInPacks 76 = .ok (.istore 5, 2) := by decide +kernel
theorem dX0_putInPacks_78 : decode cX0_putInPacks 78 = .ok (.goto (-66), 3) := by decide +kernel
theorem dX0_putInPacks_81 : decode cX0_putInPacks 81 = .ok (.return_, 1) := by decide +kernel
theorem dX0_putPack_0 : decode cX0_putPack 0 = .ok (.iload 4, 2) := by decide +kernel
theorem dX0_putPack_2 : decode cX0_putPack 2 = .ok (.istore 5, 2) := by decide +kernel
theorem dX0_putPack_4 : decode cX0_putPack 4 = .ok (.iload 5, 2) := by decide +kernel
theorem dX0_putPack_6 : decode cX0_putPack 6 = .ok (.iload_n 2, 1) := by decide +kernel
theorem dX0_putPack_7 : decode cX0_putPack 7 = .ok (.if_icmp .lt 28, 3) := by decide +kernel
theorem dX0_putPack_10 : decode cX0_putPack 10 = .ok (.aload_n 1, 1) := by decide +kernel
theorem dX0_putPack_11 : decode cX0_putPack 11 = .ok (.iload 5, 2) := by decide +kernel
theorem dX0_putPack_13 : decode cX0_putPack 13 = .ok (.aload_n 1, 1) := by decide +kernel
theorem dX0_putPack_14 : decode cX0_putPack 14 = .ok (.iload 5, 2) := by decide +kernel
theorem dX0_putPack_16 : decode cX0_putPack 16 = .ok (.iaload, 1) := by decide +kernel
theorem dX0_putPack_17 : decode cX0_putPack 17 = .ok (.aload_n 1, 1) := by decide +kernel
theorem dX0_putPack_18 : decode cX0_putPack 18 = .ok (.iload 5, 2) := by decide +kernel
theorem dX0_putPack_20 : decode cX0_putPack 20 = .ok (.iload_n 2, 1) := by decide +kernel
theorem dX0_putPack_21 : decode cX0_putPack 21 = .ok (.isub, 1) := by decide +kernel
theorem dX0_putPack_22 : decode cX0_putPack 22 = .ok (.iaload, 1) := by decide +kernel
theorem dX0_putPack_23 : decode cX0_putPack 23 = .ok (.iload_n 3, 1) := by decide +kernel
theorem dX0_putPack_24 : decode cX0_putPack 24 = .ok (.iadd, 1) := by decide +kernel
theorem dX0_putPack_25 : decode cX0_putPack 25 = .ok (.invokestatic 55, 3) := by decide +kernel
theorem dX0_putPack_28 : decode cX0_putPack 28 = .ok (.iastore, 1) := by decide +kernel
theorem dX0_putPack_29 : decode cX0_putPack 29 = .ok (.iinc 5 (-1), 3) := by decide +kernel
theorem dX0_putPack_32 : decode cX0_putPack 32 = .ok (.goto (-28), 3) := by decide +kernel
theorem dX0_putPack_35 : decode cX0_putPack 35 = .ok (.return_, 1) := by decide +kernel
theorem dX0_mostOf_0 : decode cX0_mostOf 0 = .ok (.aload_n 1, 1) := by decide +kernel
theorem dX0_mostOf_1 : decode cX0_mostOf 1 = .ok (.getfield 49, 3) := by decide +kernel
theorem dX0_mostOf_4 : decode cX0_mostOf 4 = .ok (.iconst 0, 1) := by decide +kernel
theorem dX0_mostOf_5 : decode cX0_mostOf 5 = .ok (.aaload, 1) := by decide +kernel
theorem dX0_mostOf_6 : decode cX0_mostOf 6 = .ok (.iload_n 2, 1) := by decide +kernel
theorem dX0_mostOf_7 : decode cX0_mostOf 7 = .ok (.iaload, 1) := by decide +kernel
theorem dX0_mostOf_8 : decode cX0_mostOf 8 = .ok (.istore 4, 2) := by decide +kernel
theorem dX0_mostOf_10 : decode cX0_mostOf 10 = .ok (.iload 4, 2) := by decide +kernel
theorem dX0_mostOf_12 : decode cX0_mostOf 12 = .ok (.ifCond .le 19, 3) := by decide +kernel
theorem dX0_mostOf_15 : decode cX0_mostOf 15 = .ok (.aload_n 1, 1) := by decide +kernel
theorem dX0_mostOf_16 : decode cX0_mostOf 16 = .ok (.getfield 65, 3) := by decide +kernel
theorem dX0_mostOf_19 : decode cX0_mostOf 19 = .ok (.iload_n 2, 1) := by decide +kernel
theorem dX0_mostOf_20 : decode cX0_mostOf 20 = .ok (.iaload, 1) := by decide +kernel
theorem dX0_mostOf_21 : decode cX0_mostOf 21 = .ok (.iload_n 3, 1) := by decide +kernel
theorem dX0_mostOf_22 : decode cX0_mostOf 22 = .ok (.iload 4, 2) := by decide +kernel
theorem dX0_mostOf_24 : decode cX0_mostOf 24 = .ok (.idiv, 1) := by decide +kernel
theorem dX0_mostOf_25 : decode cX0_mostOf 25 = .ok (.invokestatic 55, 3) := by decide +kernel
theorem dX0_mostOf_28 : decode cX0_mostOf 28 = .ok (.goto 4, 3) := by decide +kernel
theorem dX0_mostOf_31 : decode cX0_mostOf 31 = .ok (.iconst 0, 1) := by decide +kernel
theorem dX0_mostOf_32 : decode cX0_mostOf 32 = .ok (.ireturn, 1) := by decide +kernel
set_option maxRecDepth 20000 in
theorem ggX0_fewest_X0_mostOf : GoodIn wsX0_fewest wsX0_mostOf := goodIn_r _ [8, 3, 9, 10, 11, 12, 13, 14, 15, 16, 17, 18, 19, 20, 21] (by decide +kernel) (by decide +kernel)
set_option maxRecDepth 20000 in
theorem gX0_fewest_X0_mostOf : GoodIn wsX0_fewest (wsV RX0 52 RX0 yX0_mostOf wsX0_mostOf) := goodIn_app (goodIn_of _ (by decide +kernel)) ggX0_fewest_X0_mostOf
theorem dX0_fewest_0 : decode cX0_fewest 0 = .ok (.aload_n 0, 1) := by decide +kernel
theorem dX0_fewest_1 : decode cX0_fewest 1 = .ok (.aload_n 1, 1) := by decide +kernel
theorem dX0_fewest_2 : decode cX0_fewest 2 = .ok (.iload_n 2, 1) := by decide +kernel
theorem dX0_fewest_3 : decode cX0_fewest 3 = .ok (.iload_n 3, 1) := by decide +kernel
theorem dX0_fewest_4 : decode cX0_fewest 4 = .ok (.invokevirtual 52, 3) := by decide +kernel
theorem dX0_fewest_7 : decode cX0_fewest 7 = .ok (.istore 4, 2) := by decide +kernel
theorem dX0_fewest_9 : decode cX0_fewest 9 = .ok (.iload_n 3, 1) := by decide +kernel
theorem dX0_fewest_10 : decode cX0_fewest 10 = .ok (.istore 5, 2) := by decide +kernel
theorem dX0_fewest_12 : decode cX0_fewest 12 = .ok (.iconst 0, 1) := by decide +kernel
theorem dX0_fewest_13 : decode cX0_fewest 13 = .ok (.istore 6, 2) := by decide +kernel
theorem dX0_fewest_15 : decode cX0_fewest 15 = .ok (.iload 6, 2) := by decide +kernel
theorem dX0_fewest_17 : decode cX0_fewest 17 = .ok (.iload 4, 2) := by decide +kernel
theorem dX0_fewest_19 : decode cX0_fewest 19 = .ok (.if_icmp .ge 57, 3) := by decide +kernel
theorem dX0_fewest_22 : decode cX0_fewest 22 = .ok (.iload 6, 2) := by decide +kernel
theorem dX0_fewest_24 : decode cX0_fewest 24 = .ok (.aload_n 1, 1) := by decide +kernel
theorem dX0_fewest_25 : decode cX0_fewest 25 = .ok (.getfield 38, 3) := by decide +kernel
theorem dX0_fewest_28 : decode cX0_fewest 28 = .ok (.iload_n 2, 1) := by decide +kernel
theorem dX0_fewest_29 : decode cX0_fewest 29 = .ok (.iaload, 1) := by decide +kernel
theorem dX0_fewest_30 : decode cX0_fewest 30 = .ok (.imul, 1) := by decide +kernel
theorem dX0_fewest_31 : decode cX0_fewest 31 = .ok (.aload_n 0, 1) := by decide +kernel
theorem dX0_fewest_32 : decode cX0_fewest 32 = .ok (.getfield 11, 3) := by decide +kernel
theorem dX0_fewest_35 : decode cX0_fewest 35 = .ok (.iload_n 2, 1) := by decide +kernel
theorem dX0_fewest_36 : decode cX0_fewest 36 = .ok (.iconst 1, 1) := by decide +kernel
theorem dX0_fewest_37 : decode cX0_fewest 37 = .ok (.iadd, 1) := by decide +kernel
theorem dX0_fewest_38 : decode cX0_fewest 38 = .ok (.aaload, 1) := by decide +kernel
theorem dX0_fewest_39 : decode cX0_fewest 39 = .ok (.iload 5, 2) := by decide +kernel
theorem dX0_fewest_41 : decode cX0_fewest 41 = .ok (.iaload, 1) := by decide +kernel
theorem dX0_fewest_42 : decode cX0_fewest 42 = .ok (.iadd, 1) := by decide +kernel
theorem dX0_fewest_43 : decode cX0_fewest 43 = .ok (.aload_n 0, 1) := by decide +kernel
theorem dX0_fewest_44 : decode cX0_fewest 44 = .ok (.getfield 11, 3) := by decide +kernel
theorem dX0_fewest_47 : decode cX0_fewest 47 = .ok (.iload_n 2, 1) := by decide +kernel
theorem dX0_fewest_48 : decode cX0_fewest 48 = .ok (.aaload, 1) := by decide +kernel
theorem dX0_fewest_49 : decode cX0_fewest 49 = .ok (.iload_n 3, 1) := by decide +kernel
theorem dX0_fewest_50 : decode cX0_fewest 50 = .ok (.iaload, 1) := by decide +kernel
theorem dX0_fewest_51 : decode cX0_fewest 51 = .ok (.if_icmp .ne 6, 3) := by decide +kernel
theorem dX0_fewest_54 : decode cX0_fewest 54 = .ok (.iload 6, 2) := by decide +kernel
theorem dX0_fewest_56 : decode cX0_fewest 56 = .ok (.ireturn, 1) := by decide +kernel
theorem dX0_fewest_57 : decode cX0_fewest 57 = .ok (.iload 5, 2) := by decide +kernel
theorem dX0_fewest_59 : decode cX0_fewest 59 = .ok (.aload_n 1, 1) := by decide +kernel
theorem dX0_fewest_60 : decode cX0_fewest 60 = .ok (.getfield 49, 3) := by decide +kernel
theorem dX0_fewest_63 : decode cX0_fewest 63 = .ok (.iconst 0, 1) := by decide +kernel
theorem dX0_fewest_64 : decode cX0_fewest 64 = .ok (.aaload, 1) := by decide +kernel
theorem dX0_fewest_65 : decode cX0_fewest 65 = .ok (.iload_n 2, 1) := by decide +kernel
theorem dX0_fewest_66 : decode cX0_fewest 66 = .ok (.iaload, 1) := by decide +kernel
theorem dX0_fewest_67 : decode cX0_fewest 67 = .ok (.isub, 1) := by decide +kernel
theorem dX0_fewest_68 : decode cX0_fewest 68 = .ok (.istore 5, 2) := by decide +kernel
theorem dX0_fewest_70 : decode cX0_fewest 70 = .ok (.iinc 6 1, 3) := by decide +kernel
theorem dX0_fewest_73 : decode cX0_fewest 73 = .ok (.goto (-58), 3) := by decide +kernel
theorem dX0_fewest_76 : decode cX0_fewest 76 = .ok (.iload 4, 2) := by decide +kernel
theorem dX0_fewest_78 : decode cX0_fewest 78 = .ok (.ireturn, 1) := by decide +kernel
theorem dX1_init_0 : decode cX1_init 0 = .ok (.aload_n 0, 1) := by decide +kernel
theorem dX1_init_1 : decode cX1_init 1 = .ok (.invokespecial 3, 3) := by decide +kernel
theorem dX1_init_4 : decode cX1_init 4 = .ok (.aload_n 0, 1) := by decide +kernel
theorem dX1_init_5 : decode cX1_init 5 = .ok (.bipush 18, 2) := by decide +kernel
theorem dX1_init_7 : decode cX1_init 7 = .ok (.newarray .int, 2) := by decide +kernel
theorem dX1_init_9 : decode cX1_init 9 = .ok (.putfield 9, 3) := by decide +kernel
theorem dX1_init_12 : decode cX1_init 12 = .ok (.aload_n 0, 1) := by decide +kernel
theorem dX1_init_13 : decode cX1_init 13 = .ok (.bipush 18, 2) := by decide +kernel
theorem dX1_init_15 : decode cX1_init 15 = .ok (.newarray .int, 2) := by decide +kernel
theorem dX1_init_17 : decode cX1_init 17 = .ok (.putfield 15, 3) := by decide +kernel
theorem dX1_init_20 : decode cX1_init 20 = .ok (.aload_n 0, 1) := by decide +kernel
theorem dX1_init_21 : decode cX1_init 21 = .ok (.bipush 18, 2) := by decide +kernel
theorem dX1_init_23 : decode cX1_init 23 = .ok (.newarray .int, 2) := by decide +kernel
theorem dX1_init_25 : decode cX1_init 25 = .ok (.putfield 18, 3) := by decide +kernel
theorem dX1_init_28 : decode cX1_init 28 = .ok (.aload_n 0, 1) := by decide +kernel
theorem dX1_init_29 : decode cX1_init 29 = .ok (.bipush 18, 2) := by decide +kernel
theorem dX1_init_31 : decode cX1_init 31 = .ok (.newarray .int, 2) := by decide +kernel
theorem dX1_init_33 : decode cX1_init 33 = .ok (.putfield 21, 3) := by decide +kernel
theorem dX1_init_36 : decode cX1_init 36 = .ok (.aload_n 0, 1) := by decide +kernel
theorem dX1_init_37 : decode cX1_init 37 = .ok (.bipush 18, 2) := by decide +kernel
theorem dX1_init_39 : decode cX1_init 39 = .ok (.newarray .int, 2) := by decide +kernel
theorem dX1_init_41 : decode cX1_init 41 = .ok (.putfield 24, 3) := by decide +kernel
theorem dX1_init_44 : decode cX1_init 44 = .ok (.aload_n 0, 1) := by decide +kernel
theorem dX1_init_45 : decode cX1_init 45 = .ok (.bipush 18, 2) := by decide +kernel
theorem dX1_init_47 : decode cX1_init 47 = .ok (.newarray .int, 2) := by decide +kernel
theorem dX1_init_49 : decode cX1_init 49 = .ok (.putfield 27, 3) := by decide +kernel
theorem dX1_init_52 : decode cX1_init 52 = .ok (.aload_n 0, 1) := by decide +kernel
theorem dX1_init_53 : decode cX1_init 53 = .ok (.bipush 18, 2) := by decide +kernel
theorem dX1_init_55 : decode cX1_init 55 = .ok (.newarray .int, 2) := by decide +kernel
theorem dX1_init_57 : decode cX1_init 57 = .ok (.putfield 30, 3) := by decide +kernel
theorem dX1_init_60 : decode cX1_init 60 = .ok (.aload_n 0, 1) := by decide +kernel
theorem dX1_init_61 : decode cX1_init 61 = .ok (.bipush 9, 2) := by decide +kernel
theorem dX1_init_63 : decode cX1_init 63 = .ok (.newarray .int, 2) := by decide +kernel
theorem dX1_init_65 : decode cX1_init 65 = .ok (.putfield 33, 3) := by decide +kernel
theorem dX1_init_68 : decode cX1_init 68 = .ok (.aload_n 0, 1) := by decide +kernel
theorem dX1_init_69 : decode cX1_init 69 = .ok (.bipush 9, 2) := by decide +kernel
theorem dX1_init_71 : decode cX1_init 71 = .ok (.newarray .int, 2) := by decide +kernel
theorem dX1_init_73 : decode cX1_init 73 = .ok (.putfield 36, 3) := by decide +kernel
theorem dX1_init_76 : decode cX1_init 76 = .ok (.aload_n 0, 1) := by decide +kernel
theorem dX1_init_77 : decode cX1_init 77 = .ok (.bipush 9, 2) := by decide +kernel
theorem dX1_init_79 : decode cX1_init 79 = .ok (.newarray .int, 2) := by decide +kernel
theorem dX1_init_81 : decode cX1_init 81 = .ok (.putfield 39, 3) := by decide +kernel
theorem dX1_init_84 : decode cX1_init 84 = .ok (.aload_n 0, 1) := by decide +kernel
theorem dX1_init_85 : decode cX1_init 85 = .ok (.bipush 9, 2) := by decide +kernel
theorem dX1_init_87 : decode cX1_init 87 = .ok (.newarray .boolean, 2) := by decide +kernel
theorem dX1_init_89 : decode cX1_init 89 = .ok (.putfield 42, 3) := by decide +kernel
theorem dX1_init_92 : decode cX1_init 92 = .ok (.return_, 1) := by decide +kernel
set_option maxRecDepth 20000 in
theorem ggX1_lay_J7_fill_53178 : GoodIn wsX1_lay wsJ7_fill_53178 := goodIn_r _ [10] (by decide +kernel) (by decide +kernel)
set_option maxRecDepth 20000 in
theorem gX1_lay_J7_fill_53178 : GoodIn wsX1_lay (va_wsS RX1 46 yJ7_fill_53178 wsJ7_fill_53178) := goodIn_app (goodIn_of _ (by decide +kernel)) ggX1_lay_J7_fill_53178
set_option maxRecDepth 20000 in
theorem ggX1_lay_X1_layColumn : GoodIn wsX1_lay wsX1_layColumn := goodIn_r _ [15, 2, 16, 17, 18, 19, 20, 21, 22, 23, 24, 1, 25, 26, 27, 14, 28, 4, 29, 30, 48, 49, 50, 51, 52, 53, 54, 55, 36, 37, 38, 39, 40, 41, 42, 43, 44, 45, 46, 47] (by decide +kernel) (by decide +kernel)
set_option maxRecDepth 20000 in
theorem gX1_lay_X1_layColumn : GoodIn wsX1_lay (wsV RX1 67 RX1 yX1_layColumn wsX1_layColumn) := goodIn_app (goodIn_of _ (by decide +kernel)) ggX1_lay_X1_layColumn
set_option maxRecDepth 20000 in
theorem ggX1_lay_X1_layFree : GoodIn wsX1_lay wsX1_layFree := goodIn_r _ [34, 17, 19, 35, 21, 23, 24, 25, 26, 27, 14, 28, 4, 29, 30, 36, 37, 38, 39, 40, 41, 42, 43, 44, 45, 46, 47] (by decide +kernel) (by decide +kernel)
set_option maxRecDepth 20000 in
theorem gX1_lay_X1_layFree : GoodIn wsX1_lay (wsV RX1 74 RX1 yX1_layFree wsX1_layFree) := goodIn_app (goodIn_of _ (by decide +kernel)) ggX1_lay_X1_layFree
theorem dX1_lay_0 : decode cX1_lay 0 = .ok (.aload_n 0, 1) := by decide +kernel
theorem dX1_lay_1 : decode cX1_lay 1 = .ok (.getfield 33, 3) := by decide +kernel
theorem dX1_lay_4 : decode cX1_lay 4 = .ok (.iconst 0, 1) := by decide +kernel
theorem dX1_lay_5 : decode cX1_lay 5 = .ok (.invokestatic 46, 3) := by decide +kernel
theorem dX1_lay_8 : decode cX1_lay 8 = .ok (.iconst 0, 1) := by decide +kernel
theorem dX1_lay_9 : decode cX1_lay 9 = .ok (.istore_n 3, 1) := by decide +kernel
theorem dX1_lay_10 : decode cX1_lay 10 = .ok (.iload_n 3, 1) := by decide +kernel
theorem dX1_lay_11 : decode cX1_lay 11 = .ok (.aload_n 1, 1) := by decide +kernel
theorem dX1_lay_12 : decode cX1_lay 12 = .ok (.getfield 52, 3) := by decide +kernel
theorem dX1_lay_15 : decode cX1_lay 15 = .ok (.if_icmp .ge 41, 3) := by decide +kernel
theorem dX1_lay_18 : decode cX1_lay 18 = .ok (.aload_n 0, 1) := by decide +kernel
theorem dX1_lay_19 : decode cX1_lay 19 = .ok (.getfield 33, 3) := by decide +kernel
theorem dX1_lay_22 : decode cX1_lay 22 = .ok (.iload_n 3, 1) := by decide +kernel
theorem dX1_lay_23 : decode cX1_lay 23 = .ok (.aload_n 1, 1) := by decide +kernel
theorem dX1_lay_24 : decode cX1_lay 24 = .ok (.getfield 58, 3) := by decide +kernel
theorem dX1_lay_27 : decode cX1_lay 27 = .ok (.iload_n 3, 1) := by decide +kernel
theorem dX1_lay_28 : decode cX1_lay 28 = .ok (.iaload, 1) := by decide +kernel
theorem dX1_lay_29 : decode cX1_lay 29 = .ok (.aload_n 2, 1) := by decide +kernel
theorem dX1_lay_30 : decode cX1_lay 30 = .ok (.iload_n 3, 1) := by decide +kernel
theorem dX1_lay_31 : decode cX1_lay 31 = .ok (.iaload, 1) := by decide +kernel
theorem dX1_lay_32 : decode cX1_lay 32 = .ok (.imul, 1) := by decide +kernel
theorem dX1_lay_33 : decode cX1_lay 33 = .ok (.iastore, 1) := by decide +kernel
theorem dX1_lay_34 : decode cX1_lay 34 = .ok (.aload_n 0, 1) := by decide +kernel
theorem dX1_lay_35 : decode cX1_lay 35 = .ok (.getfield 33, 3) := by decide +kernel
theorem dX1_lay_38 : decode cX1_lay 38 = .ok (.bipush 8, 2) := by decide +kernel
theorem dX1_lay_40 : decode cX1_lay 40 = .ok (.dup2, 1) := by decide +kernel
theorem dX1_lay_41 : decode cX1_lay 41 = .ok (.iaload, 1) := by decide +kernel
theorem dX1_lay_42 : decode cX1_lay 42 = .ok (.aload_n 0, 1) := by decide +kernel
theorem dX1_lay_43 : decode cX1_lay 43 = .ok (.getfield 33, 3) := by decide +kernel
theorem dX1_lay_46 : decode cX1_lay 46 = .ok (.iload_n 3, 1) := by decide +kernel
theorem dX1_lay_47 : decode cX1_lay 47 = .ok (.iaload, 1) := by decide +kernel
theorem dX1_lay_48 : decode cX1_lay 48 = .ok (.isub, 1) := by decide +kernel
theorem dX1_lay_49 : decode cX1_lay 49 = .ok (.iastore, 1) := by decide +kernel
theorem dX1_lay_50 : decode cX1_lay 50 = .ok (.iinc 3 1, 3) := by decide +kernel
theorem dX1_lay_53 : decode cX1_lay 53 = .ok (.goto (-43), 3) := by decide +kernel
theorem dX1_lay_56 : decode cX1_lay 56 = .ok (.aload_n 0, 1) := by decide +kernel
theorem dX1_lay_57 : decode cX1_lay 57 = .ok (.iconst 0, 1) := by decide +kernel
theorem dX1_lay_58 : decode cX1_lay 58 = .ok (.putfield 61, 3) := by decide +kernel
theorem dX1_lay_61 : decode cX1_lay 61 = .ok (.iconst 0, 1) := by decide +kernel
theorem dX1_lay_62 : decode cX1_lay 62 = .ok (.istore_n 3, 1) := by decide +kernel
theorem dX1_lay_63 : decode cX1_lay 63 = .ok (.iload_n 3, 1) := by decide +kernel
theorem dX1_lay_64 : decode cX1_lay 64 = .ok (.aload_n 1, 1) := by decide +kernel
theorem dX1_lay_65 : decode cX1_lay 65 = .ok (.getfield 64, 3) := by decide +kernel
theorem dX1_lay_68 : decode cX1_lay 68 = .ok (.if_icmp .ge 16, 3) := by decide +kernel
theorem dX1_lay_71 : decode cX1_lay 71 = .ok (.aload_n 0, 1) := by decide +kernel
theorem dX1_lay_72 : decode cX1_lay 72 = .ok (.aload_n 1, 1) := by decide +kernel
theorem dX1_lay_73 : decode cX1_lay 73 = .ok (.aload_n 2, 1) := by decide +kernel
theorem dX1_lay_74 : decode cX1_lay 74 = .ok (.iload_n 3, 1) := by decide +kernel
theorem dX1_lay_75 : decode cX1_lay 75 = .ok (.invokevirtual 67, 3) := by decide +kernel
theorem dX1_lay_78 : decode cX1_lay 78 = .ok (.iinc 3 1, 3) := by decide +kernel
theorem dX1_lay_81 : decode cX1_lay 81 = .ok (.goto (-18), 3) := by decide +kernel
theorem dX1_lay_84 : decode cX1_lay 84 = .ok (.iconst 0, 1) := by decide +kernel
theorem dX1_lay_85 : decode cX1_lay 85 = .ok (.istore_n 3, 1) := by decide +kernel
theorem dX1_lay_86 : decode cX1_lay 86 = .ok (.iload_n 3, 1) := by decide +kernel
theorem dX1_lay_87 : decode cX1_lay 87 = .ok (.aload_n 1, 1) := by decide +kernel
theorem dX1_lay_88 : decode cX1_lay 88 = .ok (.getfield 52, 3) := by decide +kernel
theorem dX1_lay_91 : decode cX1_lay 91 = .ok (.if_icmp .ge 26, 3) := by decide +kernel
theorem dX1_lay_94 : decode cX1_lay 94 = .ok (.aload_n 1, 1) := by decide +kernel
theorem dX1_lay_95 : decode cX1_lay 95 = .ok (.getfield 71, 3) := by decide +kernel
theorem dX1_lay_98 : decode cX1_lay 98 = .ok (.iload_n 3, 1) := by decide +kernel
theorem dX1_lay_99 : decode cX1_lay 99 = .ok (.iaload, 1) := by decide +kernel
theorem dX1_lay_100 : decode cX1_lay 100 = .ok (.ifCond .ne 11, 3) := by decide +kernel
theorem dX1_lay_103 : decode cX1_lay 103 = .ok (.aload_n 0, 1) := by decide +kernel
theorem dX1_lay_104 : decode cX1_lay 104 = .ok (.iload_n 3, 1) := by decide +kernel
theorem dX1_lay_105 : decode cX1_lay 105 = .ok (.aload_n 2, 1) := by decide +kernel
theorem dX1_lay_106 : decode cX1_lay 106 = .ok (.iload_n 3, 1) := by decide +kernel
theorem dX1_lay_107 : decode cX1_lay 107 = .ok (.iaload, 1) := by decide +kernel
theorem dX1_lay_108 : decode cX1_lay 108 = .ok (.invokevirtual 74, 3) := by decide +kernel
theorem dX1_lay_111 : decode cX1_lay 111 = .ok (.iinc 3 1, 3) := by decide +kernel
theorem dX1_lay_114 : decode cX1_lay 114 = .ok (.goto (-28), 3) := by decide +kernel
theorem dX1_lay_117 : decode cX1_lay 117 = .ok (.return_, 1) := by decide +kernel
set_option maxRecDepth 20000 in
theorem ggX1_balance_X1_hasNeed : GoodIn wsX1_balance wsX1_hasNeed := goodIn_r _ [6, 7, 43, 44, 45, 46, 47, 48, 49, 50, 51, 52, 53, 54] (by decide +kernel) (by decide +kernel)
set_option maxRecDepth 20000 in
theorem gX1_balance_X1_hasNeed : GoodIn wsX1_balance (wsV RX1 79 RX1 yX1_hasNeed wsX1_hasNeed) := goodIn_app (goodIn_of _ (by decide +kernel)) ggX1_balance_X1_hasNeed
set_option maxRecDepth 20000 in
theorem ggX1_balance_X1_measure : GoodIn wsX1_balance wsX1_measure := goodIn_r _ [11, 12, 7, 13, 14, 15, 16, 17, 18, 19, 20, 21, 5, 22, 23, 24, 25, 26, 43, 44, 45, 46, 47, 48, 49, 50, 51, 52, 53, 54] (by decide +kernel) (by decide +kernel)
set_option maxRecDepth 20000 in
theorem gX1_balance_X1_measure : GoodIn wsX1_balance (wsV RX1 83 RX1 yX1_measure wsX1_measure) := goodIn_app (goodIn_of _ (by decide +kernel)) ggX1_balance_X1_measure
set_option maxRecDepth 20000 in
theorem ggX1_balance_X1_nearestNeed : GoodIn wsX1_balance wsX1_nearestNeed := goodIn_r _ [30, 13, 7, 12, 43, 44, 45, 46, 47, 48, 49, 50, 51, 52, 53, 54] (by decide +kernel) (by decide +kernel)
set_option maxRecDepth 20000 in
theorem gX1_balance_X1_nearestNeed : GoodIn wsX1_balance (wsV RX1 86 RX1 yX1_nearestNeed wsX1_nearestNeed) := goodIn_app (goodIn_of _ (by decide +kernel)) ggX1_balance_X1_nearestNeed
set_option maxRecDepth 20000 in
theorem ggX1_balance_X1_pushTo : GoodIn wsX1_balance wsX1_pushTo := goodIn_r _ [34, 7, 14, 26, 17, 16, 18, 35, 36, 37, 38, 39, 40, 41, 5, 42, 23, 24, 43, 44, 45, 46, 47, 48, 49, 50, 51, 52, 53, 54] (by decide +kernel) (by decide +kernel)
set_option maxRecDepth 20000 in
theorem gX1_balance_X1_pushTo : GoodIn wsX1_balance (wsV RX1 90 RX1 yX1_pushTo wsX1_pushTo) := goodIn_app (goodIn_of _ (by decide +kernel)) ggX1_balance_X1_pushTo
theorem dX1_balance_0 : decode cX1_balance 0 = .ok (.iconst 0, 1) := by decide +kernel
theorem dX1_balance_1 : decode cX1_balance 1 = .ok (.istore_n 1, 1) := by decide +kernel
theorem dX1_balance_2 : decode cX1_balance 2 = .ok (.iload_n 1, 1) := by decide +kernel
theorem dX1_balance_3 : decode cX1_balance 3 = .ok (.ldc 78, 2) := by decide +kernel
theorem dX1_balance_5 : decode cX1_balance 5 = .ok (.if_icmp .ge 39, 3) := by decide +kernel
theorem dX1_balance_8 : decode cX1_balance 8 = .ok (.aload_n 0, 1) := by decide +kernel
theorem dX1_balance_9 : decode cX1_balance 9 = .ok (.invokevirtual 79, 3) := by decide +kernel
theorem dX1_balance_12 : decode cX1_balance 12 = .ok (.ifCond .ne 5, 3) := by decide +kernel
theorem dX1_balance_15 : decode cX1_balance 15 = .ok (.iconst 1, 1) := by decide +kernel
theorem dX1_balance_16 : decode cX1_balance 16 = .ok (.ireturn, 1) := by decide +kernel
theorem dX1_balance_17 : decode cX1_balance 17 = .ok (.aload_n 0, 1) := by decide +kernel
theorem dX1_balance_18 : decode cX1_balance 18 = .ok (.invokevirtual 83, 3) := by decide +kernel
theorem dX1_balance_21 : decode cX1_balance 21 = .ok (.aload_n 0, 1) := by decide +kernel
theorem dX1_balance_22 : decode cX1_balance 22 = .ok (.invokevirtual 86, 3) := by decide +kernel
theorem dX1_balance_25 : decode cX1_balance 25 = .ok (.istore_n 2, 1) := by decide +kernel
theorem dX1_balance_26 : decode cX1_balance 26 = .ok (.iload_n 2, 1) := by decide +kernel
theorem dX1_balance_27 : decode cX1_balance 27 = .ok (.iconst (-1), 1) := by decide +kernel
theorem dX1_balance_28 : decode cX1_balance 28 = .ok (.if_icmp .ne 5, 3) := by decide +kernel
theorem dX1_balance_31 : decode cX1_balance 31 = .ok (.iconst 0, 1) := by decide +kernel
theorem dX1_balance_32 : decode cX1_balance 32 = .ok (.ireturn, 1) := by decide +kernel
theorem dX1_balance_33 : decode cX1_balance 33 = .ok (.aload_n 0, 1) := by decide +kernel
theorem dX1_balance_34 : decode cX1_balance 34 = .ok (.iload_n 2, 1) := by decide +kernel
theorem dX1_balance_35 : decode cX1_balance 35 = .ok (.invokevirtual 90, 3) := by decide +kernel
theorem dX1_balance_38 : decode cX1_balance 38 = .ok (.iinc 1 1, 3) := by decide +kernel
theorem dX1_balance_41 : decode cX1_balance 41 = .ok (.goto (-39), 3) := by decide +kernel
theorem dX1_balance_44 : decode cX1_balance 44 = .ok (.iconst 0, 1) := by decide +kernel
theorem dX1_balance_45 : decode cX1_balance 45 = .ok (.ireturn, 1) := by decide +kernel
set_option maxRecDepth 20000 in
theorem ggX1_layColumn_X1_addArc : GoodIn wsX1_layColumn wsX1_addArc := goodIn_r _ [16, 17, 18, 19, 28, 29, 30, 31, 32, 33, 34, 35, 36, 37, 38, 39] (by decide +kernel) (by decide +kernel)
set_option maxRecDepth 20000 in
theorem gX1_layColumn_X1_addArc : GoodIn wsX1_layColumn (wsV RX1 98 RX1 yX1_addArc wsX1_addArc) := goodIn_app (goodIn_of _ (by decide +kernel)) ggX1_layColumn_X1_addArc
theorem dX1_layColumn_0 : decode cX1_layColumn 0 = .ok (.bipush 8, 2) := by decide +kernel
theorem dX1_layColumn_2 : decode cX1_layColumn 2 = .ok (.istore 4, 2) := by decide +kernel
theorem dX1_layColumn_4 : decode cX1_layColumn 4 = .ok (.bipush 8, 2) := by decide +kernel
theorem dX1_layColumn_6 : decode cX1_layColumn 6 = .ok (.istore 5, 2) := by decide +kernel
theorem dX1_layColumn_8 : decode cX1_layColumn 8 = .ok (.iconst 0, 1) := by decide +kernel
theorem dX1_layColumn_9 : decode cX1_layColumn 9 = .ok (.istore 6, 2) := by decide +kernel
theorem dX1_layColumn_11 : decode cX1_layColumn 11 = .ok (.iload 6, 2) := by decide +kernel
theorem dX1_layColumn_13 : decode cX1_layColumn 13 = .ok (.aload_n 1, 1) := by decide +kernel
theorem dX1_layColumn_14 : decode cX1_layColumn 14 = .ok (.getfield 52, 3) := by decide +kernel
theorem dX1_layColumn_17 : decode cX1_layColumn 17 = .ok (.if_icmp .ge 53, 3) := by decide +kernel
theorem dX1_layColumn_20 : decode cX1_layColumn 20 = .ok (.aload_n 1, 1) := by decide +kernel
theorem dX1_layColumn_21 : decode cX1_layColumn 21 = .ok (.getfield 94, 3) := by decide +kernel
theorem dX1_layColumn_24 : decode cX1_layColumn 24 = .ok (.iload 6, 2) := by decide +kernel
theorem dX1_layColumn_26 : decode cX1_layColumn 26 = .ok (.aaload, 1) := by decide +kernel
theorem dX1_layColumn_27 : decode cX1_layColumn 27 = .ok (.iload_n 3, 1) := by decide +kernel
theorem dX1_layColumn_28 : decode cX1_layColumn 28 = .ok (.iaload, 1) := by decide +kernel
theorem dX1_layColumn_29 : decode cX1_layColumn 29 = .ok (.aload_n 2, 1) := by decide +kernel
theorem dX1_layColumn_30 : decode cX1_layColumn 30 = .ok (.iload 6, 2) := by decide +kernel
theorem dX1_layColumn_32 : decode cX1_layColumn 32 = .ok (.iaload, 1) := by decide +kernel
theorem dX1_layColumn_33 : decode cX1_layColumn 33 = .ok (.imul, 1) := by decide +kernel
theorem dX1_layColumn_34 : decode cX1_layColumn 34 = .ok (.istore 7, 2) := by decide +kernel
theorem dX1_layColumn_36 : decode cX1_layColumn 36 = .ok (.iload 7, 2) := by decide +kernel
theorem dX1_layColumn_38 : decode cX1_layColumn 38 = .ok (.ifCond .le 8, 3) := by decide +kernel
theorem dX1_layColumn_41 : decode cX1_layColumn 41 = .ok (.iload 6, 2) := by decide +kernel
theorem dX1_layColumn_43 : decode cX1_layColumn 43 = .ok (.goto 5, 3) := by decide +kernel
theorem dX1_layColumn_46 : decode cX1_layColumn 46 = .ok (.iload 4, 2) := by decide +kernel
theorem dX1_layColumn_48 : decode cX1_layColumn 48 = .ok (.istore 4, 2) := by decide +kernel
theorem dX1_layColumn_50 : decode cX1_layColumn 50 = .ok (.iload 7, 2) := by decide +kernel
theorem dX1_layColumn_52 : decode cX1_layColumn 52 = .ok (.ifCond .ge 8, 3) := by decide +kernel
theorem dX1_layColumn_55 : decode cX1_layColumn 55 = .ok (.iload 6, 2) := by decide +kernel
theorem dX1_layColumn_57 : decode cX1_layColumn 57 = .ok (.goto 5, 3) := by decide +kernel
theorem dX1_layColumn_60 : decode cX1_layColumn 60 = .ok (.iload 5, 2) := by decide +kernel
theorem dX1_layColumn_62 : decode cX1_layColumn 62 = .ok (.istore 5, 2) := by decide +kernel
theorem dX1_layColumn_64 : decode cX1_layColumn 64 = .ok (.iinc 6 1, 3) := by decide +kernel
theorem dX1_layColumn_67 : decode cX1_layColumn 67 = .ok (.goto (-56), 3) := by decide +kernel
theorem dX1_layColumn_70 : decode cX1_layColumn 70 = .ok (.aload_n 0, 1) := by decide +kernel
theorem dX1_layColumn_71 : decode cX1_layColumn 71 = .ok (.iload 4, 2) := by decide +kernel
theorem dX1_layColumn_73 : decode cX1_layColumn 73 = .ok (.iload 5, 2) := by decide +kernel
theorem dX1_layColumn_75 : decode cX1_layColumn 75 = .ok (.invokevirtual 98, 3) := by decide +kernel
theorem dX1_layColumn_78 : decode cX1_layColumn 78 = .ok (.istore 6, 2) := by decide +kernel
theorem dX1_layColumn_80 : decode cX1_layColumn 80 = .ok (.aload_n 0, 1) := by decide +kernel
theorem dX1_layColumn_81 : decode cX1_layColumn 81 = .ok (.getfield 18, 3) := by decide +kernel
theorem dX1_layColumn_84 : decode cX1_layColumn 84 = .ok (.iload 6, 2) := by decide +kernel
theorem dX1_layColumn_86 : decode cX1_layColumn 86 = .ok (.aload_n 1, 1) := by decide +kernel
theorem dX1_layColumn_87 : decode cX1_layColumn 87 = .ok (.getfield 102, 3) := by decide +kernel
theorem dX1_layColumn_90 : decode cX1_layColumn 90 = .ok (.iload_n 3, 1) := by decide +kernel
theorem dX1_layColumn_91 : decode cX1_layColumn 91 = .ok (.iaload, 1) := by decide +kernel
theorem dX1_layColumn_92 : decode cX1_layColumn 92 = .ok (.iastore, 1) := by decide +kernel
theorem dX1_layColumn_93 : decode cX1_layColumn 93 = .ok (.aload_n 0, 1) := by decide +kernel
theorem dX1_layColumn_94 : decode cX1_layColumn 94 = .ok (.getfield 21, 3) := by decide +kernel
theorem dX1_layColumn_97 : decode cX1_layColumn 97 = .ok (.iload 6, 2) := by decide +kernel
theorem dX1_layColumn_99 : decode cX1_layColumn 99 = .ok (.aload_n 1, 1) := by decide +kernel
theorem dX1_layColumn_100 : decode cX1_layColumn 100 = .ok (.getfield 103, 3) := by decide +kernel
theorem dX1_layColumn_103 : decode cX1_layColumn 103 = .ok (.iload_n 3, 1) := by decide +kernel
theorem dX1_layColumn_104 : decode cX1_layColumn 104 = .ok (.iaload, 1) := by decide +kernel
theorem dX1_layColumn_105 : decode cX1_layColumn 105 = .ok (.iastore, 1) := by decide +kernel
theorem dX1_layColumn_106 : decode cX1_layColumn 106 = .ok (.aload_n 0, 1) := by decide +kernel
theorem dX1_layColumn_107 : decode cX1_layColumn 107 = .ok (.getfield 24, 3) := by decide +kernel
theorem dX1_layColumn_110 : decode cX1_layColumn 110 = .ok (.iload 6, 2) := by decide +kernel
theorem dX1_layColumn_112 : decode cX1_layColumn 112 = .ok (.aload_n 1, 1) := by decide +kernel
theorem dX1_layColumn_113 : decode cX1_layColumn 113 = .ok (.getfield 104, 3) := by decide +kernel
theorem dX1_layColumn_116 : decode cX1_layColumn 116 = .ok (.iload_n 3, 1) := by decide +kernel
theorem dX1_layColumn_117 : decode cX1_layColumn 117 = .ok (.iaload, 1) := by decide +kernel
theorem dX1_layColumn_118 : decode cX1_layColumn 118 = .ok (.iastore, 1) := by decide +kernel
theorem dX1_layColumn_119 : decode cX1_layColumn 119 = .ok (.aload_n 0, 1) := by decide +kernel
theorem dX1_layColumn_120 : decode cX1_layColumn 120 = .ok (.getfield 30, 3) := by decide +kernel
theorem dX1_layColumn_123 : decode cX1_layColumn 123 = .ok (.iload 6, 2) := by decide +kernel
theorem dX1_layColumn_125 : decode cX1_layColumn 125 = .ok (.aload_n 0, 1) := by decide +kernel
theorem dX1_layColumn_126 : decode cX1_layColumn 126 = .ok (.getfield 24, 3) := by decide +kernel
theorem dX1_layColumn_129 : decode cX1_layColumn 129 = .ok (.iload 6, 2) := by decide +kernel
theorem dX1_layColumn_131 : decode cX1_layColumn 131 = .ok (.iaload, 1) := by decide +kernel
theorem dX1_layColumn_132 : decode cX1_layColumn 132 = .ok (.sipush 1024, 3) := by decide +kernel
theorem dX1_layColumn_135 : decode cX1_layColumn 135 = .ok (.imul, 1) := by decide +kernel
theorem dX1_layColumn_136 : decode cX1_layColumn 136 = .ok (.sipush 1024, 3) := by decide +kernel
theorem dX1_layColumn_139 : decode cX1_layColumn 139 = .ok (.iload_n 3, 1) := by decide +kernel
theorem dX1_layColumn_140 : decode cX1_layColumn 140 = .ok (.iconst 1, 1) := by decide +kernel
theorem dX1_layColumn_141 : decode cX1_layColumn 141 = .ok (.iadd, 1) := by decide +kernel
theorem dX1_layColumn_142 : decode cX1_layColumn 142 = .ok (.ishr, 1) := by decide +kernel
theorem dX1_layColumn_143 : decode cX1_layColumn 143 = .ok (.iadd, 1) := by decide +kernel
theorem dX1_layColumn_144 : decode cX1_layColumn 144 = .ok (.iastore, 1) := by decide +kernel
theorem dX1_layColumn_145 : decode cX1_layColumn 145 = .ok (.aload_n 0, 1) := by decide +kernel
theorem dX1_layColumn_146 : decode cX1_layColumn 146 = .ok (.getfield 27, 3) := by decide +kernel
theorem dX1_layColumn_149 : decode cX1_layColumn 149 = .ok (.iload 6, 2) := by decide +kernel
theorem dX1_layColumn_151 : decode cX1_layColumn 151 = .ok (.aload_n 0, 1) := by decide +kernel
theorem dX1_layColumn_152 : decode cX1_layColumn 152 = .ok (.getfield 30, 3) := by decide +kernel
theorem dX1_layColumn_155 : decode cX1_layColumn 155 = .ok (.iload 6, 2) := by decide +kernel
theorem dX1_layColumn_157 : decode cX1_layColumn 157 = .ok (.iaload, 1) := by decide +kernel
theorem dX1_layColumn_158 : decode cX1_layColumn 158 = .ok (.ifCond .le 13, 3) := by decide +kernel
theorem dX1_layColumn_161 : decode cX1_layColumn 161 = .ok (.aload_n 0, 1) := by decide +kernel
theorem dX1_layColumn_162 : decode cX1_layColumn 162 = .ok (.getfield 18, 3) := by decide +kernel
theorem dX1_layColumn_165 : decode cX1_layColumn 165 = .ok (.iload 6, 2) := by decide +kernel
theorem dX1_layColumn_167 : decode cX1_layColumn 167 = .ok (.iaload, 1) := by decide +kernel
theorem dX1_layColumn_168 : decode cX1_layColumn 168 = .ok (.goto 10, 3) := by decide +kernel
theorem dX1_layColumn_171 : decode cX1_layColumn 171 = .ok (.aload_n 0, 1) := by decide +kernel
theorem dX1_layColumn_172 : decode cX1_layColumn 172 = .ok (.getfield 21, 3) := by decide +kernel
theorem dX1_layColumn_175 : decode cX1_layColumn 175 = .ok (.iload 6, 2) := by decide +kernel
theorem dX1_layColumn_177 : decode cX1_layColumn 177 = .ok (.iaload, 1) := by decide +kernel
theorem dX1_layColumn_178 : decode cX1_layColumn 178 = .ok (.iastore, 1) := by decide +kernel
theorem dX1_layColumn_179 : decode cX1_layColumn 179 = .ok (.aload_n 0, 1) := by decide +kernel
theorem dX1_layColumn_180 : decode cX1_layColumn 180 = .ok (.getfield 33, 3) := by decide +kernel
theorem dX1_layColumn_183 : decode cX1_layColumn 183 = .ok (.iload 4, 2) := by decide +kernel
theorem dX1_layColumn_185 : decode cX1_layColumn 185 = .ok (.dup2, 1) := by decide +kernel
theorem dX1_layColumn_186 : decode cX1_layColumn 186 = .ok (.iaload, 1) := by decide +kernel
theorem dX1_layColumn_187 : decode cX1_layColumn 187 = .ok (.aload_n 0, 1) := by decide +kernel
theorem dX1_layColumn_188 : decode cX1_layColumn 188 = .ok (.getfield 27, 3) := by decide +kernel
theorem dX1_layColumn_191 : decode cX1_layColumn 191 = .ok (.iload 6, 2) := by decide +kernel
theorem dX1_layColumn_193 : decode cX1_layColumn 193 = .ok (.iaload, 1) := by decide +kernel
theorem dX1_layColumn_194 : decode cX1_layColumn 194 = .ok (.isub, 1) := by decide +kernel
theorem dX1_layColumn_195 : decode cX1_layColumn 195 = .ok (.iastore, 1) := by decide +kernel
theorem dX1_layColumn_196 : decode cX1_layColumn 196 = .ok (.aload_n 0, 1) := by decide +kernel
theorem dX1_layColumn_197 : decode cX1_layColumn 197 = .ok (.getfield 33, 3) := by decide +kernel
theorem dX1_layColumn_200 : decode cX1_layColumn 200 = .ok (.iload 5, 2) := by decide +kernel
theorem dX1_layColumn_202 : decode cX1_layColumn 202 = .ok (.dup2, 1) := by decide +kernel
theorem dX1_layColumn_203 : decode cX1_layColumn 203 = .ok (.iaload, 1) := by decide +kernel
theorem dX1_layColumn_204 : decode cX1_layColumn 204 = .ok (.aload_n 0, 1) := by decide +kernel
theorem dX1_layColumn_205 : decode cX1_layColumn 205 = .ok (.getfield 27, 3) := by decide +kernel
theorem dX1_layColumn_208 : decode cX1_layColumn 208 = .ok (.iload 6, 2) := by decide +kernel
theorem dX1_layColumn_210 : decode cX1_layColumn 210 = .ok (.iaload, 1) := by decide +kernel
theorem dX1_layColumn_211 : decode cX1_layColumn 211 = .ok (.iadd, 1) := by decide +kernel
theorem dX1_layColumn_212 : decode cX1_layColumn 212 = .ok (.iastore, 1) := by decide +kernel
theorem dX1_layColumn_213 : decode cX1_layColumn 213 = .ok (.return_, 1) := by decide +kernel
set_option maxRecDepth 20000 in
theorem ggX1_layFree_X1_addArc : GoodIn wsX1_layFree wsX1_addArc := goodIn_r _ [11, 12, 13, 14, 15, 16, 17, 18, 19, 20, 21, 22, 23, 24, 25, 26] (by decide +kernel) (by decide +kernel)
set_option maxRecDepth 20000 in
theorem gX1_layFree_X1_addArc : GoodIn wsX1_layFree (wsV RX1 98 RX1 yX1_addArc wsX1_addArc) := goodIn_app (goodIn_of _ (by decide +kernel)) ggX1_layFree_X1_addArc
theorem dX1_layFree_0 : decode cX1_layFree 0 = .ok (.iload_n 2, 1) := by decide +kernel
theorem dX1_layFree_1 : decode cX1_layFree 1 = .ok (.ifCond .le 13, 3) := by decide +kernel
theorem dX1_layFree_4 : decode cX1_layFree 4 = .ok (.aload_n 0, 1) := by decide +kernel
theorem dX1_layFree_5 : decode cX1_layFree 5 = .ok (.iload_n 1, 1) := by decide +kernel
theorem dX1_layFree_6 : decode cX1_layFree 6 = .ok (.bipush 8, 2) := by decide +kernel
theorem dX1_layFree_8 : decode cX1_layFree 8 = .ok (.invokevirtual 98, 3) := by decide +kernel
theorem dX1_layFree_11 : decode cX1_layFree 11 = .ok (.goto 10, 3) := by decide +kernel
theorem dX1_layFree_14 : decode cX1_layFree 14 = .ok (.aload_n 0, 1) := by decide +kernel
theorem dX1_layFree_15 : decode cX1_layFree 15 = .ok (.bipush 8, 2) := by decide +kernel
theorem dX1_layFree_17 : decode cX1_layFree 17 = .ok (.iload_n 1, 1) := by decide +kernel
theorem dX1_layFree_18 : decode cX1_layFree 18 = .ok (.invokevirtual 98, 3) := by decide +kernel
theorem dX1_layFree_21 : decode cX1_layFree 21 = .ok (.istore_n 3, 1) := by decide +kernel
theorem dX1_layFree_22 : decode cX1_layFree 22 = .ok (.aload_n 0, 1) := by decide +kernel
theorem dX1_layFree_23 : decode cX1_layFree 23 = .ok (.getfield 18, 3) := by decide +kernel
theorem dX1_layFree_26 : decode cX1_layFree 26 = .ok (.iload_n 3, 1) := by decide +kernel
theorem dX1_layFree_27 : decode cX1_layFree 27 = .ok (.iconst 0, 1) := by decide +kernel
theorem dX1_layFree_28 : decode cX1_layFree 28 = .ok (.iastore, 1) := by decide +kernel
theorem dX1_layFree_29 : decode cX1_layFree 29 = .ok (.aload_n 0, 1) := by decide +kernel
theorem dX1_layFree_30 : decode cX1_layFree 30 = .ok (.getfield 21, 3) := by decide +kernel
theorem dX1_layFree_33 : decode cX1_layFree 33 = .ok (.iload_n 3, 1) := by decide +kernel
theorem dX1_layFree_34 : decode cX1_layFree 34 = .ok (.ldc 78, 2) := by decide +kernel
theorem dX1_layFree_36 : decode cX1_layFree 36 = .ok (.iastore, 1) := by decide +kernel
theorem dX1_layFree_37 : decode cX1_layFree 37 = .ok (.aload_n 0, 1) := by decide +kernel
theorem dX1_layFree_38 : decode cX1_layFree 38 = .ok (.getfield 24, 3) := by decide +kernel
theorem dX1_layFree_41 : decode cX1_layFree 41 = .ok (.iload_n 3, 1) := by decide +kernel
theorem dX1_layFree_42 : decode cX1_layFree 42 = .ok (.iconst 0, 1) := by decide +kernel
theorem dX1_layFree_43 : decode cX1_layFree 43 = .ok (.iastore, 1) := by decide +kernel
theorem dX1_layFree_44 : decode cX1_layFree 44 = .ok (.aload_n 0, 1) := by decide +kernel
theorem dX1_layFree_45 : decode cX1_layFree 45 = .ok (.getfield 30, 3) := by decide +kernel
theorem dX1_layFree_48 : decode cX1_layFree 48 = .ok (.iload_n 3, 1) := by decide +kernel
theorem dX1_layFree_49 : decode cX1_layFree 49 = .ok (.iconst 0, 1) := by decide +kernel
theorem dX1_layFree_50 : decode cX1_layFree 50 = .ok (.iastore, 1) := by decide +kernel
theorem dX1_layFree_51 : decode cX1_layFree 51 = .ok (.aload_n 0, 1) := by decide +kernel
theorem dX1_layFree_52 : decode cX1_layFree 52 = .ok (.getfield 27, 3) := by decide +kernel
theorem dX1_layFree_55 : decode cX1_layFree 55 = .ok (.iload_n 3, 1) := by decide +kernel
theorem dX1_layFree_56 : decode cX1_layFree 56 = .ok (.iconst 0, 1) := by decide +kernel
theorem dX1_layFree_57 : decode cX1_layFree 57 = .ok (.iastore, 1) := by decide +kernel
theorem dX1_layFree_58 : decode cX1_layFree 58 = .ok (.return_, 1) := by decide +kernel
theorem dX1_addArc_0 : decode cX1_addArc 0 = .ok (.aload_n 0, 1) := by decide +kernel
theorem dX1_addArc_1 : decode cX1_addArc 1 = .ok (.getfield 61, 3) := by decide +kernel
theorem dX1_addArc_4 : decode cX1_addArc 4 = .ok (.istore_n 3, 1) := by decide +kernel
theorem dX1_addArc_5 : decode cX1_addArc 5 = .ok (.aload_n 0, 1) := by decide +kernel
theorem dX1_addArc_6 : decode cX1_addArc 6 = .ok (.getfield 9, 3) := by decide +kernel
theorem dX1_addArc_9 : decode cX1_addArc 9 = .ok (.iload_n 3, 1) := by decide +kernel
theorem dX1_addArc_10 : decode cX1_addArc 10 = .ok (.iload_n 1, 1) := by decide +kernel
theorem dX1_addArc_11 : decode cX1_addArc 11 = .ok (.iastore, 1) := by decide +kernel
theorem dX1_addArc_12 : decode cX1_addArc 12 = .ok (.aload_n 0, 1) := by decide +kernel
theorem dX1_addArc_13 : decode cX1_addArc 13 = .ok (.getfield 15, 3) := by decide +kernel
theorem dX1_addArc_16 : decode cX1_addArc 16 = .ok (.iload_n 3, 1) := by decide +kernel
theorem dX1_addArc_17 : decode cX1_addArc 17 = .ok (.iload_n 2, 1) := by decide +kernel
theorem dX1_addArc_18 : decode cX1_addArc 18 = .ok (.iastore, 1) := by decide +kernel
theorem dX1_addArc_19 : decode cX1_addArc 19 = .ok (.aload_n 0, 1) := by decide +kernel
theorem dX1_addArc_20 : decode cX1_addArc 20 = .ok (.iload_n 3, 1) := by decide +kernel
theorem dX1_addArc_21 : decode cX1_addArc 21 = .ok (.iconst 1, 1) := by decide +kernel
theorem dX1_addArc_22 : decode cX1_addArc 22 = .ok (.iadd, 1) := by decide +kernel
theorem dX1_addArc_23 : decode cX1_addArc 23 = .ok (.putfield 61, 3) := by decide +kernel
theorem dX1_addArc_26 : decode cX1_addArc 26 = .ok (.iload_n 3, 1) := by decide +kernel
theorem dX1_addArc_27 : decode cX1_addArc 27 = .ok (.ireturn, 1) := by decide +kernel
theorem dX1_hasNeed_0 : decode cX1_hasNeed 0 = .ok (.iconst 0, 1) := by decide +kernel
theorem dX1_hasNeed_1 : decode cX1_hasNeed 1 = .ok (.istore_n 1, 1) := by decide +kernel
theorem dX1_hasNeed_2 : decode cX1_hasNeed 2 = .ok (.iload_n 1, 1) := by decide +kernel
theorem dX1_hasNeed_3 : decode cX1_hasNeed 3 = .ok (.bipush 9, 2) := by decide +kernel
theorem dX1_hasNeed_5 : decode cX1_hasNeed 5 = .ok (.if_icmp .ge 20, 3) := by decide +kernel
theorem dX1_hasNeed_8 : decode cX1_hasNeed 8 = .ok (.aload_n 0, 1) := by decide +kernel
theorem dX1_hasNeed_9 : decode cX1_hasNeed 9 = .ok (.getfield 33, 3) := by decide +kernel
theorem dX1_hasNeed_12 : decode cX1_hasNeed 12 = .ok (.iload_n 1, 1) := by decide +kernel
theorem dX1_hasNeed_13 : decode cX1_hasNeed 13 = .ok (.iaload, 1) := by decide +kernel
theorem dX1_hasNeed_14 : decode cX1_hasNeed 14 = .ok (.ifCond .eq 5, 3) := by decide +kernel
theorem dX1_hasNeed_17 : decode cX1_hasNeed 17 = .ok (.iconst 1, 1) := by decide +kernel
theorem dX1_hasNeed_18 : decode cX1_hasNeed 18 = .ok (.ireturn, 1) := by decide +kernel
theorem dX1_hasNeed_19 : decode cX1_hasNeed 19 = .ok (.iinc 1 1, 3) := by decide +kernel
theorem dX1_hasNeed_22 : decode cX1_hasNeed 22 = .ok (.goto (-20), 3) := by decide +kernel
theorem dX1_hasNeed_25 : decode cX1_hasNeed 25 = .ok (.iconst 0, 1) := by decide +kernel
theorem dX1_hasNeed_26 : decode cX1_hasNeed 26 = .ok (.ireturn, 1) := by decide +kernel
set_option maxRecDepth 20000 in
theorem ggX1_measure_X1_comesNearer : GoodIn wsX1_measure wsX1_comesNearer := goodIn_r _ [13, 14, 15, 1, 3, 16, 4, 17, 18, 19, 20, 21, 22, 23, 24, 25, 26, 27, 28, 29] (by decide +kernel) (by decide +kernel)
set_option maxRecDepth 20000 in
theorem gX1_measure_X1_comesNearer : GoodIn wsX1_measure (wsV RX1 106 RX1 yX1_comesNearer wsX1_comesNearer) := goodIn_app (goodIn_of _ (by decide +kernel)) ggX1_measure_X1_comesNearer
theorem dX1_measure_0 : decode cX1_measure 0 = .ok (.iconst 0, 1) := by decide +kernel
theorem dX1_measure_1 : decode cX1_measure 1 = .ok (.istore_n 1, 1) := by decide +kernel
theorem dX1_measure_2 : decode cX1_measure 2 = .ok (.iload_n 1, 1) := by decide +kernel
theorem dX1_measure_3 : decode cX1_measure 3 = .ok (.bipush 9, 2) := by decide +kernel
theorem dX1_measure_5 : decode cX1_measure 5 = .ok (.if_icmp .ge 37, 3) := by decide +kernel
theorem dX1_measure_8 : decode cX1_measure 8 = .ok (.aload_n 0, 1) := by decide +kernel
theorem dX1_measure_9 : decode cX1_measure 9 = .ok (.getfield 36, 3) := by decide +kernel
theorem dX1_measure_12 : decode cX1_measure 12 = .ok (.iload_n 1, 1) := by decide +kernel
theorem dX1_measure_13 : decode cX1_measure 13 = .ok (.aload_n 0, 1) := by decide +kernel
theorem dX1_measure_14 : decode cX1_measure 14 = .ok (.getfield 33, 3) := by decide +kernel
theorem dX1_measure_17 : decode cX1_measure 17 = .ok (.iload_n 1, 1) := by decide +kernel
theorem dX1_measure_18 : decode cX1_measure 18 = .ok (.iaload, 1) := by decide +kernel
theorem dX1_measure_19 : decode cX1_measure 19 = .ok (.ifCond .ge 7, 3) := by decide +kernel
theorem dX1_measure_22 : decode cX1_measure 22 = .ok (.iconst 0, 1) := by decide +kernel
theorem dX1_measure_23 : decode cX1_measure 23 = .ok (.goto 5, 3) := by decide +kernel
theorem dX1_measure_26 : decode cX1_measure 26 = .ok (.ldc 105, 2) := by decide +kernel
theorem dX1_measure_28 : decode cX1_measure 28 = .ok (.iastore, 1) := by decide +kernel
theorem dX1_measure_29 : decode cX1_measure 29 = .ok (.aload_n 0, 1) := by decide +kernel
theorem dX1_measure_30 : decode cX1_measure 30 = .ok (.getfield 39, 3) := by decide +kernel
theorem dX1_measure_33 : decode cX1_measure 33 = .ok (.iload_n 1, 1) := by decide +kernel
theorem dX1_measure_34 : decode cX1_measure 34 = .ok (.iconst (-1), 1) := by decide +kernel
theorem dX1_measure_35 : decode cX1_measure 35 = .ok (.iastore, 1) := by decide +kernel
theorem dX1_measure_36 : decode cX1_measure 36 = .ok (.iinc 1 1, 3) := by decide +kernel
theorem dX1_measure_39 : decode cX1_measure 39 = .ok (.goto (-37), 3) := by decide +kernel
theorem dX1_measure_42 : decode cX1_measure 42 = .ok (.iconst 1, 1) := by decide +kernel
theorem dX1_measure_43 : decode cX1_measure 43 = .ok (.istore_n 1, 1) := by decide +kernel
theorem dX1_measure_44 : decode cX1_measure 44 = .ok (.iconst 0, 1) := by decide +kernel
theorem dX1_measure_45 : decode cX1_measure 45 = .ok (.istore_n 2, 1) := by decide +kernel
theorem dX1_measure_46 : decode cX1_measure 46 = .ok (.iload_n 1, 1) := by decide +kernel
theorem dX1_measure_47 : decode cX1_measure 47 = .ok (.ifCond .eq 97, 3) := by decide +kernel
theorem dX1_measure_50 : decode cX1_measure 50 = .ok (.iload_n 2, 1) := by decide +kernel
theorem dX1_measure_51 : decode cX1_measure 51 = .ok (.bipush 9, 2) := by decide +kernel
theorem dX1_measure_53 : decode cX1_measure 53 = .ok (.if_icmp .ge 91, 3) := by decide +kernel
theorem dX1_measure_56 : decode cX1_measure 56 = .ok (.iconst 0, 1) := by decide +kernel
theorem dX1_measure_57 : decode cX1_measure 57 = .ok (.istore_n 1, 1) := by decide +kernel
theorem dX1_measure_58 : decode cX1_measure 58 = .ok (.iconst 0, 1) := by decide +kernel
theorem dX1_measure_59 : decode cX1_measure 59 = .ok (.istore_n 3, 1) := by decide +kernel
theorem dX1_measure_60 : decode cX1_measure 60 = .ok (.iload_n 3, 1) := by decide +kernel
theorem dX1_measure_61 : decode cX1_measure 61 = .ok (.aload_n 0, 1) := by decide +kernel
theorem dX1_measure_62 : decode cX1_measure 62 = .ok (.getfield 61, 3) := by decide +kernel
theorem dX1_measure_65 : decode cX1_measure 65 = .ok (.if_icmp .ge 73, 3) := by decide +kernel
theorem dX1_measure_68 : decode cX1_measure 68 = .ok (.iload_n 1, 1) := by decide +kernel
theorem dX1_measure_69 : decode cX1_measure 69 = .ok (.aload_n 0, 1) := by decide +kernel
theorem dX1_measure_70 : decode cX1_measure 70 = .ok (.getfield 27, 3) := by decide +kernel
theorem dX1_measure_73 : decode cX1_measure 73 = .ok (.iload_n 3, 1) := by decide +kernel
theorem dX1_measure_74 : decode cX1_measure 74 = .ok (.iaload, 1) := by decide +kernel
theorem dX1_measure_75 : decode cX1_measure 75 = .ok (.aload_n 0, 1) := by decide +kernel
theorem dX1_measure_76 : decode cX1_measure 76 = .ok (.getfield 21, 3) := by decide +kernel
theorem dX1_measure_79 : decode cX1_measure 79 = .ok (.iload_n 3, 1) := by decide +kernel
theorem dX1_measure_80 : decode cX1_measure 80 = .ok (.iaload, 1) := by decide +kernel
theorem dX1_measure_81 : decode cX1_measure 81 = .ok (.if_icmp .ge 16, 3) := by decide +kernel
theorem dX1_measure_84 : decode cX1_measure 84 = .ok (.aload_n 0, 1) := by decide +kernel
theorem dX1_measure_85 : decode cX1_measure 85 = .ok (.iload_n 3, 1) := by decide +kernel
theorem dX1_measure_86 : decode cX1_measure 86 = .ok (.iconst 1, 1) := by decide +kernel
theorem dX1_measure_87 : decode cX1_measure 87 = .ok (.invokevirtual 106, 3) := by decide +kernel
theorem dX1_measure_90 : decode cX1_measure 90 = .ok (.ifCond .eq 7, 3) := by decide +kernel
theorem dX1_measure_93 : decode cX1_measure 93 = .ok (.iconst 1, 1) := by decide +kernel
theorem dX1_measure_94 : decode cX1_measure 94 = .ok (.goto 4, 3) := by decide +kernel
theorem dX1_measure_97 : decode cX1_measure 97 = .ok (.iconst 0, 1) := by decide +kernel
theorem dX1_measure_98 : decode cX1_measure 98 = .ok (.ior, 1) := by decide +kernel
theorem dX1_measure_99 : decode cX1_measure 99 = .ok (.istore_n 1, 1) := by decide +kernel
theorem dX1_measure_100 : decode cX1_measure 100 = .ok (.iload_n 1, 1) := by decide +kernel
theorem dX1_measure_101 : decode cX1_measure 101 = .ok (.aload_n 0, 1) := by decide +kernel
theorem dX1_measure_102 : decode cX1_measure 102 = .ok (.getfield 27, 3) := by decide +kernel
theorem dX1_measure_105 : decode cX1_measure 105 = .ok (.iload_n 3, 1) := by decide +kernel
theorem dX1_measure_106 : decode cX1_measure 106 = .ok (.iaload, 1) := by decide +kernel
theorem dX1_measure_107 : decode cX1_measure 107 = .ok (.aload_n 0, 1) := by decide +kernel
theorem dX1_measure_108 : decode cX1_measure 108 = .ok (.getfield 18, 3) := by decide +kernel
theorem dX1_measure_111 : decode cX1_measure 111 = .ok (.iload_n 3, 1) := by decide +kernel
theorem dX1_measure_112 : decode cX1_measure 112 = .ok (.iaload, 1) := by decide +kernel
theorem dX1_measure_113 : decode cX1_measure 113 = .ok (.if_icmp .le 16, 3) := by decide +kernel
theorem dX1_measure_116 : decode cX1_measure 116 = .ok (.aload_n 0, 1) := by decide +kernel
theorem dX1_measure_117 : decode cX1_measure 117 = .ok (.iload_n 3, 1) := by decide +kernel
theorem dX1_measure_118 : decode cX1_measure 118 = .ok (.iconst 0, 1) := by decide +kernel
theorem dX1_measure_119 : decode cX1_measure 119 = .ok (.invokevirtual 106, 3) := by decide +kernel
theorem dX1_measure_122 : decode cX1_measure 122 = .ok (.ifCond .eq 7, 3) := by decide +kernel
theorem dX1_measure_125 : decode cX1_measure 125 = .ok (.iconst 1, 1) := by decide +kernel
theorem dX1_measure_126 : decode cX1_measure 126 = .ok (.goto 4, 3) := by decide +kernel
theorem dX1_measure_129 : decode cX1_measure 129 = .ok (.iconst 0, 1) := by decide +kernel
theorem dX1_measure_130 : decode cX1_measure 130 = .ok (.ior, 1) := by decide +kernel
theorem dX1_measure_131 : decode cX1_measure 131 = .ok (.istore_n 1, 1) := by decide +kernel
theorem dX1_measure_132 : decode cX1_measure 132 = .ok (.iinc 3 1, 3) := by decide +kernel
theorem dX1_measure_135 : decode cX1_measure 135 = .ok (.goto (-75), 3) := by decide +kernel
theorem dX1_measure_138 : decode cX1_measure 138 = .ok (.iinc 2 1, 3) := by decide +kernel
theorem dX1_measure_141 : decode cX1_measure 141 = .ok (.goto (-95), 3) := by decide +kernel
theorem dX1_measure_144 : decode cX1_measure 144 = .ok (.return_, 1) := by decide +kernel
theorem dX1_comesNearer_0 : decode cX1_comesNearer 0 = .ok (.iload_n 2, 1) := by decide +kernel
theorem dX1_comesNearer_1 : decode cX1_comesNearer 1 = .ok (.ifCond .eq 12, 3) := by decide +kernel
theorem dX1_comesNearer_4 : decode cX1_comesNearer 4 = .ok (.aload_n 0, 1) := by decide +kernel
theorem dX1_comesNearer_5 : decode cX1_comesNearer 5 = .ok (.getfield 15, 3) := by decide +kernel
theorem dX1_comesNearer_8 : decode cX1_comesNearer 8 = .ok (.iload_n 1, 1) := by decide +kernel
theorem dX1_comesNearer_9 : decode cX1_comesNearer 9 = .ok (.iaload, 1) := by decide +kernel
theorem dX1_comesNearer_10 : decode cX1_comesNearer 10 = .ok (.goto 9, 3) := by decide +kernel
theorem dX1_comesNearer_13 : decode cX1_comesNearer 13 = .ok (.aload_n 0, 1) := by decide +kernel
theorem dX1_comesNearer_14 : decode cX1_comesNearer 14 = .ok (.getfield 9, 3) := by decide +kernel
theorem dX1_comesNearer_17 : decode cX1_comesNearer 17 = .ok (.iload_n 1, 1) := by decide +kernel
theorem dX1_comesNearer_18 : decode cX1_comesNearer 18 = .ok (.iaload, 1) := by decide +kernel
theorem dX1_comesNearer_19 : decode cX1_comesNearer 19 = .ok (.istore_n 3, 1) := by decide +kernel
theorem dX1_comesNearer_20 : decode cX1_comesNearer 20 = .ok (.iload_n 2, 1) := by decide +kernel
theorem dX1_comesNearer_21 : decode cX1_comesNearer 21 = .ok (.ifCond .eq 12, 3) := by decide +kernel
theorem dX1_comesNearer_24 : decode cX1_comesNearer 24 = .ok (.aload_n 0, 1) := by decide +kernel
theorem dX1_comesNearer_25 : decode cX1_comesNearer 25 = .ok (.getfield 9, 3) := by decide +kernel
theorem dX1_comesNearer_28 : decode cX1_comesNearer 28 = .ok (.iload_n 1, 1) := by decide +kernel
theorem dX1_comesNearer_29 : decode cX1_comesNearer 29 = .ok (.iaload, 1) := by decide +kernel
theorem dX1_comesNearer_30 : decode cX1_comesNearer 30 = .ok (.goto 9, 3) := by decide +kernel
theorem dX1_comesNearer_33 : decode cX1_comesNearer 33 = .ok (.aload_n 0, 1) := by decide +kernel
theorem dX1_comesNearer_34 : decode cX1_comesNearer 34 = .ok (.getfield 15, 3) := by decide +kernel
theorem dX1_comesNearer_37 : decode cX1_comesNearer 37 = .ok (.iload_n 1, 1) := by decide +kernel
theorem dX1_comesNearer_38 : decode cX1_comesNearer 38 = .ok (.iaload, 1) := by decide +kernel
theorem dX1_comesNearer_39 : decode cX1_comesNearer 39 = .ok (.istore 4, 2) := by decide +kernel
theorem dX1_comesNearer_41 : decode cX1_comesNearer 41 = .ok (.aload_n 0, 1) := by decide +kernel
theorem dX1_comesNearer_42 : decode cX1_comesNearer 42 = .ok (.getfield 36, 3) := by decide +kernel
theorem dX1_comesNearer_45 : decode cX1_comesNearer 45 = .ok (.iload_n 3, 1) := by decide +kernel
theorem dX1_comesNearer_46 : decode cX1_comesNearer 46 = .ok (.iaload, 1) := by decide +kernel
theorem dX1_comesNearer_47 : decode cX1_comesNearer 47 = .ok (.ldc 105, 2) := by decide +kernel
theorem dX1_comesNearer_49 : decode cX1_comesNearer 49 = .ok (.if_icmp .ne 5, 3) := by decide +kernel
theorem dX1_comesNearer_52 : decode cX1_comesNearer 52 = .ok (.iconst 0, 1) := by decide +kernel
theorem dX1_comesNearer_53 : decode cX1_comesNearer 53 = .ok (.ireturn, 1) := by decide +kernel
theorem dX1_comesNearer_54 : decode cX1_comesNearer 54 = .ok (.aload_n 0, 1) := by decide +kernel
theorem dX1_comesNearer_55 : decode cX1_comesNearer 55 = .ok (.getfield 36, 3) := by decide +kernel
theorem dX1_comesNearer_58 : decode cX1_comesNearer 58 = .ok (.iload_n 3, 1) := by decide +kernel
theorem dX1_comesNearer_59 : decode cX1_comesNearer 59 = .ok (.iaload, 1) := by decide +kernel
theorem dX1_comesNearer_60 : decode cX1_comesNearer 60 = .ok (.iload_n 2, 1) := by decide +kernel
theorem dX1_comesNearer_61 : decode cX1_comesNearer 61 = .ok (.ifCond .eq 12, 3) := by decide +kernel
theorem dX1_comesNearer_64 : decode cX1_comesNearer 64 = .ok (.aload_n 0, 1) := by decide +kernel
theorem dX1_comesNearer_65 : decode cX1_comesNearer 65 = .ok (.getfield 30, 3) := by decide +kernel
theorem dX1_comesNearer_68 : decode cX1_comesNearer 68 = .ok (.iload_n 1, 1) := by decide +kernel
theorem dX1_comesNearer_69 : decode cX1_comesNearer 69 = .ok (.iaload, 1) := by decide +kernel
theorem dX1_comesNearer_70 : decode cX1_comesNearer 70 = .ok (.goto 10, 3) := by decide +kernel
theorem dX1_comesNearer_73 : decode cX1_comesNearer 73 = .ok (.aload_n 0, 1) := by decide +kernel
theorem dX1_comesNearer_74 : decode cX1_comesNearer 74 = .ok (.getfield 30, 3) := by decide +kernel
theorem dX1_comesNearer_77 : decode cX1_comesNearer 77 = .ok (.iload_n 1, 1) := by decide +kernel
theorem dX1_comesNearer_78 : decode cX1_comesNearer 78 = .ok (.iaload, 1) := by decide +kernel
theorem dX1_comesNearer_79 : decode cX1_comesNearer 79 = .ok (.ineg, 1) := by decide +kernel
theorem dX1_comesNearer_80 : decode cX1_comesNearer 80 = .ok (.iadd, 1) := by decide +kernel
theorem dX1_comesNearer_81 : decode cX1_comesNearer 81 = .ok (.istore 5, 2) := by decide +kernel
theorem dX1_comesNearer_83 : decode cX1_comesNearer 83 = .ok (.iload 5, 2) := by decide +kernel
theorem dX1_comesNearer_85 : decode cX1_comesNearer 85 = .ok (.aload_n 0, 1) := by decide +kernel
theorem dX1_comesNearer_86 : decode cX1_comesNearer 86 = .ok (.getfield 36, 3) := by decide +kernel
theorem dX1_comesNearer_89 : decode cX1_comesNearer 89 = .ok (.iload 4, 2) := by decide +kernel
theorem dX1_comesNearer_91 : decode cX1_comesNearer 91 = .ok (.iaload, 1) := by decide +kernel
theorem dX1_comesNearer_92 : decode cX1_comesNearer 92 = .ok (.if_icmp .lt 5, 3) := by decide +kernel
theorem dX1_comesNearer_95 : decode cX1_comesNearer 95 = .ok (.iconst 0, 1) := by decide +kernel
theorem dX1_comesNearer_96 : decode cX1_comesNearer 96 = .ok (.ireturn, 1) := by decide +kernel
theorem dX1_comesNearer_97 : decode cX1_comesNearer 97 = .ok (.aload_n 0, 1) := by decide +kernel
theorem dX1_comesNearer_98 : decode cX1_comesNearer 98 = .ok (.getfield 36, 3) := by decide +kernel
theorem dX1_comesNearer_101 : decode cX1_comesNearer 101 = .ok (.iload 4, 2) := by decide +kernel
theorem dX1_comesNearer_103 : decode cX1_comesNearer 103 = .ok (.iload 5, 2) := by decide +kernel
theorem dX1_comesNearer_105 : decode cX1_comesNearer 105 = .ok (.iastore, 1) := by decide +kernel
theorem dX1_comesNearer_106 : decode cX1_comesNearer 106 = .ok (.aload_n 0, 1) := by decide +kernel
theorem dX1_comesNearer_107 : decode cX1_comesNearer 107 = .ok (.getfield 39, 3) := by decide +kernel
theorem dX1_comesNearer_110 : decode cX1_comesNearer 110 = .ok (.iload 4, 2) := by decide +kernel
theorem dX1_comesNearer_112 : decode cX1_comesNearer 112 = .ok (.iload_n 1, 1) := by decide +kernel
theorem dX1_comesNearer_113 : decode cX1_comesNearer 113 = .ok (.iastore, 1) := by decide +kernel
theorem dX1_comesNearer_114 : decode cX1_comesNearer 114 = .ok (.aload_n 0, 1) := by decide +kernel
theorem dX1_comesNearer_115 : decode cX1_comesNearer 115 = .ok (.getfield 42, 3) := by decide +kernel
theorem dX1_comesNearer_118 : decode cX1_comesNearer 118 = .ok (.iload 4, 2) := by decide +kernel
theorem dX1_comesNearer_120 : decode cX1_comesNearer 120 = .ok (.iload_n 2, 1) := by decide +kernel
theorem dX1_comesNearer_121 : decode cX1_comesNearer 121 = .ok (.bastore, 1) := by decide +kernel
theorem dX1_comesNearer_122 : decode cX1_comesNearer 122 = .ok (.iconst 1, 1) := by decide +kernel
theorem dX1_comesNearer_123 : decode cX1_comesNearer 123 = .ok (.ireturn, 1) := by decide +kernel
theorem dX1_nearestNeed_0 : decode cX1_nearestNeed 0 = .ok (.iconst (-1), 1) := by decide +kernel
theorem dX1_nearestNeed_1 : decode cX1_nearestNeed 1 = .ok (.istore_n 1, 1) := by decide +kernel
theorem dX1_nearestNeed_2 : decode cX1_nearestNeed 2 = .ok (.ldc 105, 2) := by decide +kernel
theorem dX1_nearestNeed_4 : decode cX1_nearestNeed 4 = .ok (.istore_n 2, 1) := by decide +kernel
theorem dX1_nearestNeed_5 : decode cX1_nearestNeed 5 = .ok (.iconst 0, 1) := by decide +kernel
theorem dX1_nearestNeed_6 : decode cX1_nearestNeed 6 = .ok (.istore_n 3, 1) := by decide +kernel
theorem dX1_nearestNeed_7 : decode cX1_nearestNeed 7 = .ok (.iload_n 3, 1) := by decide +kernel
theorem dX1_nearestNeed_8 : decode cX1_nearestNeed 8 = .ok (.bipush 9, 2) := by decide +kernel
theorem dX1_nearestNeed_10 : decode cX1_nearestNeed 10 = .ok (.if_icmp .ge 37, 3) := by decide +kernel
theorem dX1_nearestNeed_13 : decode cX1_nearestNeed 13 = .ok (.aload_n 0, 1) := by decide +kernel
theorem dX1_nearestNeed_14 : decode cX1_nearestNeed 14 = .ok (.getfield 33, 3) := by decide +kernel
theorem dX1_nearestNeed_17 : decode cX1_nearestNeed 17 = .ok (.iload_n 3, 1) := by decide +kernel
theorem dX1_nearestNeed_18 : decode cX1_nearestNeed 18 = .ok (.iaload, 1) := by decide +kernel
theorem dX1_nearestNeed_19 : decode cX1_nearestNeed 19 = .ok (.ifCond .le 22, 3) := by decide +kernel
theorem dX1_nearestNeed_22 : decode cX1_nearestNeed 22 = .ok (.aload_n 0, 1) := by decide +kernel
theorem dX1_nearestNeed_23 : decode cX1_nearestNeed 23 = .ok (.getfield 36, 3) := by decide +kernel
theorem dX1_nearestNeed_26 : decode cX1_nearestNeed 26 = .ok (.iload_n 3, 1) := by decide +kernel
theorem dX1_nearestNeed_27 : decode cX1_nearestNeed 27 = .ok (.iaload, 1) := by decide +kernel
theorem dX1_nearestNeed_28 : decode cX1_nearestNeed 28 = .ok (.iload_n 2, 1) := by decide +kernel
theorem dX1_nearestNeed_29 : decode cX1_nearestNeed 29 = .ok (.if_icmp .ge 12, 3) := by decide +kernel
theorem dX1_nearestNeed_32 : decode cX1_nearestNeed 32 = .ok (.iload_n 3, 1) := by decide +kernel
theorem dX1_nearestNeed_33 : decode cX1_nearestNeed 33 = .ok (.istore_n 1, 1) := by decide +kernel
theorem dX1_nearestNeed_34 : decode cX1_nearestNeed 34 = .ok (.aload_n 0, 1) := by decide +kernel
theorem dX1_nearestNeed_35 : decode cX1_nearestNeed 35 = .ok (.getfield 36, 3) := by decide +kernel
theorem dX1_nearestNeed_38 : decode cX1_nearestNeed 38 = .ok (.iload_n 3, 1) := by decide +kernel
theorem dX1_nearestNeed_39 : decode cX1_nearestNeed 39 = .ok (.iaload, 1) := by decide +kernel
theorem dX1_nearestNeed_40 : decode cX1_nearestNeed 40 = .ok (.istore_n 2, 1) := by decide +kernel
theorem dX1_nearestNeed_41 : decode cX1_nearestNeed 41 = .ok (.iinc 3 1, 3) := by decide +kernel
theorem dX1_nearestNeed_44 : decode cX1_nearestNeed 44 = .ok (.goto (-37), 3) := by decide +kernel
theorem dX1_nearestNeed_47 : decode cX1_nearestNeed 47 = .ok (.iload_n 1, 1) := by decide +kernel
theorem dX1_nearestNeed_48 : decode cX1_nearestNeed 48 = .ok (.ireturn, 1) := by decide +kernel
set_option maxRecDepth 20000 in
theorem ggX1_pushTo_X1_nodeBefore : GoodIn wsX1_pushTo wsX1_nodeBefore := goodIn_r _ [15, 2, 3, 16, 17, 18, 19, 20, 21, 22, 23, 24, 25, 26, 27, 28, 29] (by decide +kernel) (by decide +kernel)
set_option maxRecDepth 20000 in
theorem gX1_pushTo_X1_nodeBefore : GoodIn wsX1_pushTo (wsV RX1 115 RX1 yX1_nodeBefore wsX1_nodeBefore) := goodIn_app (goodIn_of _ (by decide +kernel)) ggX1_pushTo_X1_nodeBefore
theorem dX1_pushTo_0 : decode cX1_pushTo 0 = .ok (.aload_n 0, 1) := by decide +kernel
theorem dX1_pushTo_1 : decode cX1_pushTo 1 = .ok (.getfield 33, 3) := by decide +kernel
theorem dX1_pushTo_4 : decode cX1_pushTo 4 = .ok (.iload_n 1, 1) := by decide +kernel
theorem dX1_pushTo_5 : decode cX1_pushTo 5 = .ok (.iaload, 1) := by decide +kernel
theorem dX1_pushTo_6 : decode cX1_pushTo 6 = .ok (.istore_n 2, 1) := by decide +kernel
theorem dX1_pushTo_7 : decode cX1_pushTo 7 = .ok (.iload_n 1, 1) := by decide +kernel
theorem dX1_pushTo_8 : decode cX1_pushTo 8 = .ok (.istore_n 3, 1) := by decide +kernel
theorem dX1_pushTo_9 : decode cX1_pushTo 9 = .ok (.iconst 0, 1) := by decide +kernel
theorem dX1_pushTo_10 : decode cX1_pushTo 10 = .ok (.istore 4, 2) := by decide +kernel
theorem dX1_pushTo_12 : decode cX1_pushTo 12 = .ok (.iload 4, 2) := by decide +kernel
theorem dX1_pushTo_14 : decode cX1_pushTo 14 = .ok (.bipush 9, 2) := by decide +kernel
theorem dX1_pushTo_16 : decode cX1_pushTo 16 = .ok (.if_icmp .ge 84, 3) := by decide +kernel
theorem dX1_pushTo_19 : decode cX1_pushTo 19 = .ok (.aload_n 0, 1) := by decide +kernel
theorem dX1_pushTo_20 : decode cX1_pushTo 20 = .ok (.getfield 39, 3) := by decide +kernel
theorem dX1_pushTo_23 : decode cX1_pushTo 23 = .ok (.iload_n 3, 1) := by decide +kernel
theorem dX1_pushTo_24 : decode cX1_pushTo 24 = .ok (.iaload, 1) := by decide +kernel
theorem dX1_pushTo_25 : decode cX1_pushTo 25 = .ok (.iconst (-1), 1) := by decide +kernel
theorem dX1_pushTo_26 : decode cX1_pushTo 26 = .ok (.if_icmp .eq 74, 3) := by decide +kernel
theorem dX1_pushTo_29 : decode cX1_pushTo 29 = .ok (.aload_n 0, 1) := by decide +kernel
theorem dX1_pushTo_30 : decode cX1_pushTo 30 = .ok (.getfield 39, 3) := by decide +kernel
theorem dX1_pushTo_33 : decode cX1_pushTo 33 = .ok (.iload_n 3, 1) := by decide +kernel
theorem dX1_pushTo_34 : decode cX1_pushTo 34 = .ok (.iaload, 1) := by decide +kernel
theorem dX1_pushTo_35 : decode cX1_pushTo 35 = .ok (.istore 5, 2) := by decide +kernel
theorem dX1_pushTo_37 : decode cX1_pushTo 37 = .ok (.aload_n 0, 1) := by decide +kernel
theorem dX1_pushTo_38 : decode cX1_pushTo 38 = .ok (.getfield 42, 3) := by decide +kernel
theorem dX1_pushTo_41 : decode cX1_pushTo 41 = .ok (.iload_n 3, 1) := by decide +kernel
theorem dX1_pushTo_42 : decode cX1_pushTo 42 = .ok (.baload, 1) := by decide +kernel
theorem dX1_pushTo_43 : decode cX1_pushTo 43 = .ok (.ifCond .eq 21, 3) := by decide +kernel
theorem dX1_pushTo_46 : decode cX1_pushTo 46 = .ok (.aload_n 0, 1) := by decide +kernel
theorem dX1_pushTo_47 : decode cX1_pushTo 47 = .ok (.getfield 21, 3) := by decide +kernel
theorem dX1_pushTo_50 : decode cX1_pushTo 50 = .ok (.iload 5, 2) := by decide +kernel
theorem dX1_pushTo_52 : decode cX1_pushTo 52 = .ok (.iaload, 1) := by decide +kernel
theorem dX1_pushTo_53 : decode cX1_pushTo 53 = .ok (.aload_n 0, 1) := by decide +kernel
theorem dX1_pushTo_54 : decode cX1_pushTo 54 = .ok (.getfield 27, 3) := by decide +kernel
theorem dX1_pushTo_57 : decode cX1_pushTo 57 = .ok (.iload 5, 2) := by decide +kernel
theorem dX1_pushTo_59 : decode cX1_pushTo 59 = .ok (.iaload, 1) := by decide +kernel
theorem dX1_pushTo_60 : decode cX1_pushTo 60 = .ok (.isub, 1) := by decide +kernel
theorem dX1_pushTo_61 : decode cX1_pushTo 61 = .ok (.goto 18, 3) := by decide +kernel
theorem dX1_pushTo_64 : decode cX1_pushTo 64 = .ok (.aload_n 0, 1) := by decide +kernel
theorem dX1_pushTo_65 : decode cX1_pushTo 65 = .ok (.getfield 27, 3) := by decide +kernel
theorem dX1_pushTo_68 : decode cX1_pushTo 68 = .ok (.iload 5, 2) := by decide +kernel
theorem dX1_pushTo_70 : decode cX1_pushTo 70 = .ok (.iaload, 1) := by decide +kernel
theorem dX1_pushTo_71 : decode cX1_pushTo 71 = .ok (.aload_n 0, 1) := by decide +kernel
theorem dX1_pushTo_72 : decode cX1_pushTo 72 = .ok (.getfield 18, 3) := by decide +kernel
theorem dX1_pushTo_75 : decode cX1_pushTo 75 = .ok (.iload 5, 2) := by decide +kernel
theorem dX1_pushTo_77 : decode cX1_pushTo 77 = .ok (.iaload, 1) := by decide +kernel
theorem dX1_pushTo_78 : decode cX1_pushTo 78 = .ok (.isub, 1) := by decide +kernel
theorem dX1_pushTo_79 : decode cX1_pushTo 79 = .ok (.istore 6, 2) := by decide +kernel
theorem dX1_pushTo_81 : decode cX1_pushTo 81 = .ok (.iload_n 2, 1) := by decide +kernel
theorem dX1_pushTo_82 : decode cX1_pushTo 82 = .ok (.iload 6, 2) := by decide +kernel
theorem dX1_pushTo_84 : decode cX1_pushTo 84 = .ok (.invokestatic 110, 3) := by decide +kernel
theorem dX1_pushTo_87 : decode cX1_pushTo 87 = .ok (.istore_n 2, 1) := by decide +kernel
theorem dX1_pushTo_88 : decode cX1_pushTo 88 = .ok (.aload_n 0, 1) := by decide +kernel
theorem dX1_pushTo_89 : decode cX1_pushTo 89 = .ok (.iload_n 3, 1) := by decide +kernel
theorem dX1_pushTo_90 : decode cX1_pushTo 90 = .ok (.invokevirtual 115, 3) := by decide +kernel
theorem dX1_pushTo_93 : decode cX1_pushTo 93 = .ok (.istore_n 3, 1) := by decide +kernel
theorem dX1_pushTo_94 : decode cX1_pushTo 94 = .ok (.iinc 4 1, 3) := by decide +kernel
theorem dX1_pushTo_97 : decode cX1_pushTo 97 = .ok (.goto (-85), 3) := by decide +kernel
theorem dX1_pushTo_100 : decode cX1_pushTo 100 = .ok (.iload_n 2, 1) := by decide +kernel
theorem dX1_pushTo_101 : decode cX1_pushTo 101 = .ok (.aload_n 0, 1) := by decide +kernel
theorem dX1_pushTo_102 : decode cX1_pushTo 102 = .ok (.getfield 33, 3) := by decide +kernel
theorem dX1_pushTo_105 : decode cX1_pushTo 105 = .ok (.iload_n 3, 1) := by decide +kernel
theorem dX1_pushTo_106 : decode cX1_pushTo 106 = .ok (.iaload, 1) := by decide +kernel
theorem dX1_pushTo_107 : decode cX1_pushTo 107 = .ok (.ineg, 1) := by decide +kernel
theorem dX1_pushTo_108 : decode cX1_pushTo 108 = .ok (.invokestatic 110, 3) := by decide +kernel
theorem dX1_pushTo_111 : decode cX1_pushTo 111 = .ok (.istore_n 2, 1) := by decide +kernel
theorem dX1_pushTo_112 : decode cX1_pushTo 112 = .ok (.aload_n 0, 1) := by decide +kernel
theorem dX1_pushTo_113 : decode cX1_pushTo 113 = .ok (.getfield 33, 3) := by decide +kernel
theorem dX1_pushTo_116 : decode cX1_pushTo 116 = .ok (.iload_n 3, 1) := by decide +kernel
theorem dX1_pushTo_117 : decode cX1_pushTo 117 = .ok (.dup2, 1) := by decide +kernel
theorem dX1_pushTo_118 : decode cX1_pushTo 118 = .ok (.iaload, 1) := by decide +kernel
theorem dX1_pushTo_119 : decode cX1_pushTo 119 = .ok (.iload_n 2, 1) := by decide +kernel
theorem dX1_pushTo_120 : decode cX1_pushTo 120 = .ok (.iadd, 1) := by decide +kernel
theorem dX1_pushTo_121 : decode cX1_pushTo 121 = .ok (.iastore, 1) := by decide +kernel
theorem dX1_pushTo_122 : decode cX1_pushTo 122 = .ok (.aload_n 0, 1) := by decide +kernel
theorem dX1_pushTo_123 : decode cX1_pushTo 123 = .ok (.getfield 33, 3) := by decide +kernel
theorem dX1_pushTo_126 : decode cX1_pushTo 126 = .ok (.iload_n 1, 1) := by decide +kernel
theorem dX1_pushTo_127 : decode cX1_pushTo 127 = .ok (.dup2, 1) := by decide +kernel
theorem dX1_pushTo_128 : decode cX1_pushTo 128 = .ok (.iaload, 1) := by decide +kernel
theorem dX1_pushTo_129 : decode cX1_pushTo 129 = .ok (.iload_n 2, 1) := by decide +kernel
theorem dX1_pushTo_130 : decode cX1_pushTo 130 = .ok (.isub, 1) := by decide +kernel
theorem dX1_pushTo_131 : decode cX1_pushTo 131 = .ok (.iastore, 1) := by decide +kernel
theorem dX1_pushTo_132 : decode cX1_pushTo 132 = .ok (.iload_n 1, 1) := by decide +kernel
theorem dX1_pushTo_133 : decode cX1_pushTo 133 = .ok (.istore_n 3, 1) := by decide +kernel
theorem dX1_pushTo_134 : decode cX1_pushTo 134 = .ok (.iconst 0, 1) := by decide +kernel
theorem dX1_pushTo_135 : decode cX1_pushTo 135 = .ok (.istore 4, 2) := by decide +kernel
theorem dX1_pushTo_137 : decode cX1_pushTo 137 = .ok (.iload 4, 2) := by decide +kernel
theorem dX1_pushTo_139 : decode cX1_pushTo 139 = .ok (.bipush 9, 2) := by decide +kernel
theorem dX1_pushTo_141 : decode cX1_pushTo 141 = .ok (.if_icmp .ge 54, 3) := by decide +kernel
theorem dX1_pushTo_144 : decode cX1_pushTo 144 = .ok (.aload_n 0, 1) := by decide +kernel
theorem dX1_pushTo_145 : decode cX1_pushTo 145 = .ok (.getfield 39, 3) := by decide +kernel
theorem dX1_pushTo_148 : decode cX1_pushTo 148 = .ok (.iload_n 3, 1) := by decide +kernel
theorem dX1_pushTo_149 : decode cX1_pushTo 149 = .ok (.iaload, 1) := by decide +kernel
theorem dX1_pushTo_150 : decode cX1_pushTo 150 = .ok (.iconst (-1), 1) := by decide +kernel
theorem dX1_pushTo_151 : decode cX1_pushTo 151 = .ok (.if_icmp .eq 44, 3) := by decide +kernel
theorem dX1_pushTo_154 : decode cX1_pushTo 154 = .ok (.aload_n 0, 1) := by decide +kernel
theorem dX1_pushTo_155 : decode cX1_pushTo 155 = .ok (.getfield 27, 3) := by decide +kernel
theorem dX1_pushTo_158 : decode cX1_pushTo 158 = .ok (.aload_n 0, 1) := by decide +kernel
theorem dX1_pushTo_159 : decode cX1_pushTo 159 = .ok (.getfield 39, 3) := by decide +kernel
theorem dX1_pushTo_162 : decode cX1_pushTo 162 = .ok (.iload_n 3, 1) := by decide +kernel
theorem dX1_pushTo_163 : decode cX1_pushTo 163 = .ok (.iaload, 1) := by decide +kernel
theorem dX1_pushTo_164 : decode cX1_pushTo 164 = .ok (.dup2, 1) := by decide +kernel
theorem dX1_pushTo_165 : decode cX1_pushTo 165 = .ok (.iaload, 1) := by decide +kernel
theorem dX1_pushTo_166 : decode cX1_pushTo 166 = .ok (.aload_n 0, 1) := by decide +kernel
theorem dX1_pushTo_167 : decode cX1_pushTo 167 = .ok (.getfield 42, 3) := by decide +kernel
theorem dX1_pushTo_170 : decode cX1_pushTo 170 = .ok (.iload_n 3, 1) := by decide +kernel
theorem dX1_pushTo_171 : decode cX1_pushTo 171 = .ok (.baload, 1) := by decide +kernel
theorem dX1_pushTo_172 : decode cX1_pushTo 172 = .ok (.ifCond .eq 7, 3) := by decide +kernel
theorem dX1_pushTo_175 : decode cX1_pushTo 175 = .ok (.iload_n 2, 1) := by decide +kernel
theorem dX1_pushTo_176 : decode cX1_pushTo 176 = .ok (.goto 5, 3) := by decide +kernel
theorem dX1_pushTo_179 : decode cX1_pushTo 179 = .ok (.iload_n 2, 1) := by decide +kernel
theorem dX1_pushTo_180 : decode cX1_pushTo 180 = .ok (.ineg, 1) := by decide +kernel
theorem dX1_pushTo_181 : decode cX1_pushTo 181 = .ok (.iadd, 1) := by decide +kernel
theorem dX1_pushTo_182 : decode cX1_pushTo 182 = .ok (.iastore, 1) := by decide +kernel
theorem dX1_pushTo_183 : decode cX1_pushTo 183 = .ok (.aload_n 0, 1) := by decide +kernel
theorem dX1_pushTo_184 : decode cX1_pushTo 184 = .ok (.iload_n 3, 1) := by decide +kernel
theorem dX1_pushTo_185 : decode cX1_pushTo 185 = .ok (.invokevirtual 115, 3) := by decide +kernel
theorem dX1_pushTo_188 : decode cX1_pushTo 188 = .ok (.istore_n 3, 1) := by decide +kernel
theorem dX1_pushTo_189 : decode cX1_pushTo 189 = .ok (.iinc 4 1, 3) := by decide +kernel
theorem dX1_pushTo_192 : decode cX1_pushTo 192 = .ok (.goto (-55), 3) := by decide +kernel
theorem dX1_pushTo_195 : decode cX1_pushTo 195 = .ok (.return_, 1) := by decide +kernel
theorem dX1_nodeBefore_0 : decode cX1_nodeBefore 0 = .ok (.aload_n 0, 1) := by decide +kernel
theorem dX1_nodeBefore_1 : decode cX1_nodeBefore 1 = .ok (.getfield 39, 3) := by decide +kernel
theorem dX1_nodeBefore_4 : decode cX1_nodeBefore 4 = .ok (.iload_n 1, 1) := by decide +kernel
theorem dX1_nodeBefore_5 : decode cX1_nodeBefore 5 = .ok (.iaload, 1) := by decide +kernel
