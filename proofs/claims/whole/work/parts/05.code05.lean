theorem dX7_matching_56 : decode cX7_matching 56 = .ok (.if_icmp .ge 34, 3) := by decide +kernel
theorem dX7_matching_59 : decode cX7_matching 59 = .ok (.iload_n 1, 1) := by decide +kernel
theorem dX7_matching_60 : decode cX7_matching 60 = .ok (.ifCond .eq 22, 3) := by decide +kernel
theorem dX7_matching_63 : decode cX7_matching 63 = .ok (.aload_n 0, 1) := by decide +kernel
theorem dX7_matching_64 : decode cX7_matching 64 = .ok (.iload_n 2, 1) := by decide +kernel
theorem dX7_matching_65 : decode cX7_matching 65 = .ok (.iload_n 3, 1) := by decide +kernel
theorem dX7_matching_66 : decode cX7_matching 66 = .ok (.invokevirtual 119, 3) := by decide +kernel
theorem dX7_matching_69 : decode cX7_matching 69 = .ok (.i2l, 1) := by decide +kernel
theorem dX7_matching_70 : decode cX7_matching 70 = .ok (.lconst 0, 1) := by decide +kernel
theorem dX7_matching_71 : decode cX7_matching 71 = .ok (.lconst 1, 1) := by decide +kernel
theorem dX7_matching_72 : decode cX7_matching 72 = .ok (.invokestatic 81, 3) := by decide +kernel
theorem dX7_matching_75 : decode cX7_matching 75 = .ok (.ifCond .eq 7, 3) := by decide +kernel
theorem dX7_matching_78 : decode cX7_matching 78 = .ok (.iconst 1, 1) := by decide +kernel
theorem dX7_matching_79 : decode cX7_matching 79 = .ok (.goto 4, 3) := by decide +kernel
theorem dX7_matching_82 : decode cX7_matching 82 = .ok (.iconst 0, 1) := by decide +kernel
theorem dX7_matching_83 : decode cX7_matching 83 = .ok (.istore_n 1, 1) := by decide +kernel
theorem dX7_matching_84 : decode cX7_matching 84 = .ok (.iinc 3 1, 3) := by decide +kernel
theorem dX7_matching_87 : decode cX7_matching 87 = .ok (.goto (-36), 3) := by decide +kernel
theorem dX7_matching_90 : decode cX7_matching 90 = .ok (.iinc 2 1, 3) := by decide +kernel
theorem dX7_matching_93 : decode cX7_matching 93 = .ok (.goto (-72), 3) := by decide +kernel
theorem dX7_matching_96 : decode cX7_matching 96 = .ok (.iconst 0, 1) := by decide +kernel
theorem dX7_matching_97 : decode cX7_matching 97 = .ok (.istore_n 2, 1) := by decide +kernel
theorem dX7_matching_98 : decode cX7_matching 98 = .ok (.iload_n 2, 1) := by decide +kernel
theorem dX7_matching_99 : decode cX7_matching 99 = .ok (.aload_n 0, 1) := by decide +kernel
theorem dX7_matching_100 : decode cX7_matching 100 = .ok (.getfield 78, 3) := by decide +kernel
theorem dX7_matching_103 : decode cX7_matching 103 = .ok (.if_icmp .ge 38, 3) := by decide +kernel
theorem dX7_matching_106 : decode cX7_matching 106 = .ok (.iload_n 1, 1) := by decide +kernel
theorem dX7_matching_107 : decode cX7_matching 107 = .ok (.ifCond .eq 26, 3) := by decide +kernel
theorem dX7_matching_110 : decode cX7_matching 110 = .ok (.aload_n 0, 1) := by decide +kernel
theorem dX7_matching_111 : decode cX7_matching 111 = .ok (.getfield 7, 3) := by decide +kernel
theorem dX7_matching_114 : decode cX7_matching 114 = .ok (.iload_n 2, 1) := by decide +kernel
theorem dX7_matching_115 : decode cX7_matching 115 = .ok (.iaload, 1) := by decide +kernel
theorem dX7_matching_116 : decode cX7_matching 116 = .ok (.ifCond .ne 17, 3) := by decide +kernel
theorem dX7_matching_119 : decode cX7_matching 119 = .ok (.aload_n 0, 1) := by decide +kernel
theorem dX7_matching_120 : decode cX7_matching 120 = .ok (.getfield 13, 3) := by decide +kernel
theorem dX7_matching_123 : decode cX7_matching 123 = .ok (.iload_n 2, 1) := by decide +kernel
theorem dX7_matching_124 : decode cX7_matching 124 = .ok (.iaload, 1) := by decide +kernel
theorem dX7_matching_125 : decode cX7_matching 125 = .ok (.iconst 1, 1) := by decide +kernel
theorem dX7_matching_126 : decode cX7_matching 126 = .ok (.if_icmp .ne 7, 3) := by decide +kernel
theorem dX7_matching_129 : decode cX7_matching 129 = .ok (.iconst 1, 1) := by decide +kernel
theorem dX7_matching_130 : decode cX7_matching 130 = .ok (.goto 4, 3) := by decide +kernel
theorem dX7_matching_133 : decode cX7_matching 133 = .ok (.iconst 0, 1) := by decide +kernel
theorem dX7_matching_134 : decode cX7_matching 134 = .ok (.istore_n 1, 1) := by decide +kernel
theorem dX7_matching_135 : decode cX7_matching 135 = .ok (.iinc 2 1, 3) := by decide +kernel
theorem dX7_matching_138 : decode cX7_matching 138 = .ok (.goto (-40), 3) := by decide +kernel
theorem dX7_matching_141 : decode cX7_matching 141 = .ok (.iload_n 1, 1) := by decide +kernel
theorem dX7_matching_142 : decode cX7_matching 142 = .ok (.ireturn, 1) := by decide +kernel
set_option maxRecDepth 20000 in
theorem ggX7_terms_X7_coef : GoodIn wsX7_terms wsX7_coef := goodIn_r _ [6, 7, 8, 9, 10, 11, 12, 13, 14, 15, 16, 17, 18, 19, 20, 21, 22, 23, 24, 25, 26, 27, 28, 29, 30, 31, 32, 33, 34, 35] (by decide +kernel) (by decide +kernel)
set_option maxRecDepth 20000 in
theorem gX7_terms_X7_coef : GoodIn wsX7_terms (wsV RX7 119 RX7 yX7_coef wsX7_coef) := goodIn_app (goodIn_of _ (by decide +kernel)) ggX7_terms_X7_coef
theorem dX7_terms_0 : decode cX7_terms 0 = .ok (.iconst 0, 1) := by decide +kernel
theorem dX7_terms_1 : decode cX7_terms 1 = .ok (.istore_n 2, 1) := by decide +kernel
theorem dX7_terms_2 : decode cX7_terms 2 = .ok (.iconst 0, 1) := by decide +kernel
theorem dX7_terms_3 : decode cX7_terms 3 = .ok (.istore_n 3, 1) := by decide +kernel
theorem dX7_terms_4 : decode cX7_terms 4 = .ok (.iload_n 3, 1) := by decide +kernel
theorem dX7_terms_5 : decode cX7_terms 5 = .ok (.aload_n 0, 1) := by decide +kernel
theorem dX7_terms_6 : decode cX7_terms 6 = .ok (.getfield 85, 3) := by decide +kernel
theorem dX7_terms_9 : decode cX7_terms 9 = .ok (.if_icmp .ge 26, 3) := by decide +kernel
theorem dX7_terms_12 : decode cX7_terms 12 = .ok (.iload_n 2, 1) := by decide +kernel
theorem dX7_terms_13 : decode cX7_terms 13 = .ok (.aload_n 0, 1) := by decide +kernel
theorem dX7_terms_14 : decode cX7_terms 14 = .ok (.iload_n 3, 1) := by decide +kernel
theorem dX7_terms_15 : decode cX7_terms 15 = .ok (.iload_n 1, 1) := by decide +kernel
theorem dX7_terms_16 : decode cX7_terms 16 = .ok (.invokevirtual 119, 3) := by decide +kernel
theorem dX7_terms_19 : decode cX7_terms 19 = .ok (.ifCond .eq 7, 3) := by decide +kernel
theorem dX7_terms_22 : decode cX7_terms 22 = .ok (.iconst 1, 1) := by decide +kernel
theorem dX7_terms_23 : decode cX7_terms 23 = .ok (.goto 4, 3) := by decide +kernel
theorem dX7_terms_26 : decode cX7_terms 26 = .ok (.iconst 0, 1) := by decide +kernel
theorem dX7_terms_27 : decode cX7_terms 27 = .ok (.iadd, 1) := by decide +kernel
theorem dX7_terms_28 : decode cX7_terms 28 = .ok (.istore_n 2, 1) := by decide +kernel
theorem dX7_terms_29 : decode cX7_terms 29 = .ok (.iinc 3 1, 3) := by decide +kernel
theorem dX7_terms_32 : decode cX7_terms 32 = .ok (.goto (-28), 3) := by decide +kernel
theorem dX7_terms_35 : decode cX7_terms 35 = .ok (.iload_n 2, 1) := by decide +kernel
theorem dX7_terms_36 : decode cX7_terms 36 = .ok (.ireturn, 1) := by decide +kernel
set_option maxRecDepth 20000 in
theorem ggX7_way_X7_flowReason : GoodIn wsX7_way wsX7_flowReason := goodIn_r _ [15, 6, 16, 17, 18, 14, 19, 2, 20, 21, 22, 23, 24, 25, 26, 27, 28, 29, 30, 31, 32, 33, 34, 35, 36, 53, 54, 55, 56, 57, 58, 59, 60, 61, 62, 63, 64, 65, 66, 67, 68, 69, 70, 71, 72, 73, 74, 75, 76, 77, 78, 79, 80] (by decide +kernel) (by decide +kernel)
set_option maxRecDepth 20000 in
theorem gX7_way_X7_flowReason : GoodIn wsX7_way (wsV RX7 137 RX7 yX7_flowReason wsX7_flowReason) := goodIn_app (goodIn_of _ (by decide +kernel)) ggX7_way_X7_flowReason
set_option maxRecDepth 20000 in
theorem ggX7_way_X7_findSigns : GoodIn wsX7_way wsX7_findSigns := goodIn_r _ [40, 2, 6, 10, 4, 41, 42, 43, 14, 44, 45, 46, 47, 48, 21, 22, 23, 24, 25, 33, 34, 35, 36, 53, 54, 55, 56, 57, 58, 59, 60, 61, 62, 63, 64, 65, 66, 67, 68, 69, 70, 71, 72, 73, 74, 75, 76, 77, 78, 79, 80] (by decide +kernel) (by decide +kernel)
set_option maxRecDepth 20000 in
theorem gX7_way_X7_findSigns : GoodIn wsX7_way (wsV RX7 141 RX7 yX7_findSigns wsX7_findSigns) := goodIn_app (goodIn_of _ (by decide +kernel)) ggX7_way_X7_findSigns
set_option maxRecDepth 20000 in
theorem ggX7_way_X7_terms : GoodIn wsX7_way wsX7_terms := goodIn_r _ [52, 2, 21, 22, 23, 14, 24, 25, 53, 54, 55, 56, 57, 58, 59, 60, 61, 62, 63, 64, 65, 66, 67, 68, 69, 70, 71, 72, 73, 74, 75, 76, 77, 78, 79, 80] (by decide +kernel) (by decide +kernel)
set_option maxRecDepth 20000 in
theorem gX7_way_X7_terms : GoodIn wsX7_way (wsV RX7 156 RX7 yX7_terms wsX7_terms) := goodIn_app (goodIn_of _ (by decide +kernel)) ggX7_way_X7_terms
theorem dX7_way_0 : decode cX7_way 0 = .ok (.aload_n 0, 1) := by decide +kernel
theorem dX7_way_1 : decode cX7_way 1 = .ok (.iconst 0, 1) := by decide +kernel
theorem dX7_way_2 : decode cX7_way 2 = .ok (.putfield 75, 3) := by decide +kernel
theorem dX7_way_5 : decode cX7_way 5 = .ok (.aload_n 0, 1) := by decide +kernel
theorem dX7_way_6 : decode cX7_way 6 = .ok (.invokevirtual 137, 3) := by decide +kernel
theorem dX7_way_9 : decode cX7_way 9 = .ok (.iconst (-1), 1) := by decide +kernel
theorem dX7_way_10 : decode cX7_way 10 = .ok (.if_icmp .eq 5, 3) := by decide +kernel
theorem dX7_way_13 : decode cX7_way 13 = .ok (.iconst 0, 1) := by decide +kernel
theorem dX7_way_14 : decode cX7_way 14 = .ok (.ireturn, 1) := by decide +kernel
theorem dX7_way_15 : decode cX7_way 15 = .ok (.aload_n 0, 1) := by decide +kernel
theorem dX7_way_16 : decode cX7_way 16 = .ok (.invokevirtual 141, 3) := by decide +kernel
theorem dX7_way_19 : decode cX7_way 19 = .ok (.iconst 1, 1) := by decide +kernel
theorem dX7_way_20 : decode cX7_way 20 = .ok (.istore_n 1, 1) := by decide +kernel
theorem dX7_way_21 : decode cX7_way 21 = .ok (.iconst (-1), 1) := by decide +kernel
theorem dX7_way_22 : decode cX7_way 22 = .ok (.istore_n 2, 1) := by decide +kernel
theorem dX7_way_23 : decode cX7_way 23 = .ok (.iconst (-1), 1) := by decide +kernel
theorem dX7_way_24 : decode cX7_way 24 = .ok (.istore_n 3, 1) := by decide +kernel
theorem dX7_way_25 : decode cX7_way 25 = .ok (.iconst 0, 1) := by decide +kernel
theorem dX7_way_26 : decode cX7_way 26 = .ok (.istore 4, 2) := by decide +kernel
theorem dX7_way_28 : decode cX7_way 28 = .ok (.iconst 0, 1) := by decide +kernel
theorem dX7_way_29 : decode cX7_way 29 = .ok (.istore 5, 2) := by decide +kernel
theorem dX7_way_31 : decode cX7_way 31 = .ok (.iload 5, 2) := by decide +kernel
theorem dX7_way_33 : decode cX7_way 33 = .ok (.aload_n 0, 1) := by decide +kernel
theorem dX7_way_34 : decode cX7_way 34 = .ok (.getfield 85, 3) := by decide +kernel
theorem dX7_way_37 : decode cX7_way 37 = .ok (.if_icmp .ge 88, 3) := by decide +kernel
theorem dX7_way_40 : decode cX7_way 40 = .ok (.aload_n 0, 1) := by decide +kernel
theorem dX7_way_41 : decode cX7_way 41 = .ok (.getfield 22, 3) := by decide +kernel
theorem dX7_way_44 : decode cX7_way 44 = .ok (.iload 5, 2) := by decide +kernel
theorem dX7_way_46 : decode cX7_way 46 = .ok (.iaload, 1) := by decide +kernel
theorem dX7_way_47 : decode cX7_way 47 = .ok (.aload_n 0, 1) := by decide +kernel
theorem dX7_way_48 : decode cX7_way 48 = .ok (.getfield 42, 3) := by decide +kernel
theorem dX7_way_51 : decode cX7_way 51 = .ok (.iload 5, 2) := by decide +kernel
theorem dX7_way_53 : decode cX7_way 53 = .ok (.iaload, 1) := by decide +kernel
theorem dX7_way_54 : decode cX7_way 54 = .ok (.imul, 1) := by decide +kernel
theorem dX7_way_55 : decode cX7_way 55 = .ok (.istore 6, 2) := by decide +kernel
theorem dX7_way_57 : decode cX7_way 57 = .ok (.iload_n 1, 1) := by decide +kernel
theorem dX7_way_58 : decode cX7_way 58 = .ok (.ifCond .eq 18, 3) := by decide +kernel
theorem dX7_way_61 : decode cX7_way 61 = .ok (.aload_n 0, 1) := by decide +kernel
theorem dX7_way_62 : decode cX7_way 62 = .ok (.getfield 19, 3) := by decide +kernel
theorem dX7_way_65 : decode cX7_way 65 = .ok (.iload 5, 2) := by decide +kernel
theorem dX7_way_67 : decode cX7_way 67 = .ok (.iaload, 1) := by decide +kernel
theorem dX7_way_68 : decode cX7_way 68 = .ok (.iconst 1, 1) := by decide +kernel
theorem dX7_way_69 : decode cX7_way 69 = .ok (.if_icmp .ne 7, 3) := by decide +kernel
theorem dX7_way_72 : decode cX7_way 72 = .ok (.iconst 1, 1) := by decide +kernel
theorem dX7_way_73 : decode cX7_way 73 = .ok (.goto 4, 3) := by decide +kernel
theorem dX7_way_76 : decode cX7_way 76 = .ok (.iconst 0, 1) := by decide +kernel
theorem dX7_way_77 : decode cX7_way 77 = .ok (.istore_n 1, 1) := by decide +kernel
theorem dX7_way_78 : decode cX7_way 78 = .ok (.iload 6, 2) := by decide +kernel
theorem dX7_way_80 : decode cX7_way 80 = .ok (.iconst 1, 1) := by decide +kernel
theorem dX7_way_81 : decode cX7_way 81 = .ok (.if_icmp .ne 8, 3) := by decide +kernel
theorem dX7_way_84 : decode cX7_way 84 = .ok (.iload 5, 2) := by decide +kernel
theorem dX7_way_86 : decode cX7_way 86 = .ok (.goto 4, 3) := by decide +kernel
theorem dX7_way_89 : decode cX7_way 89 = .ok (.iload_n 2, 1) := by decide +kernel
theorem dX7_way_90 : decode cX7_way 90 = .ok (.istore_n 2, 1) := by decide +kernel
theorem dX7_way_91 : decode cX7_way 91 = .ok (.iload 6, 2) := by decide +kernel
theorem dX7_way_93 : decode cX7_way 93 = .ok (.iconst (-1), 1) := by decide +kernel
theorem dX7_way_94 : decode cX7_way 94 = .ok (.if_icmp .ne 8, 3) := by decide +kernel
theorem dX7_way_97 : decode cX7_way 97 = .ok (.iload 5, 2) := by decide +kernel
theorem dX7_way_99 : decode cX7_way 99 = .ok (.goto 4, 3) := by decide +kernel
theorem dX7_way_102 : decode cX7_way 102 = .ok (.iload_n 3, 1) := by decide +kernel
theorem dX7_way_103 : decode cX7_way 103 = .ok (.istore_n 3, 1) := by decide +kernel
theorem dX7_way_104 : decode cX7_way 104 = .ok (.iload 4, 2) := by decide +kernel
theorem dX7_way_106 : decode cX7_way 106 = .ok (.iload 6, 2) := by decide +kernel
theorem dX7_way_108 : decode cX7_way 108 = .ok (.ifCond .eq 7, 3) := by decide +kernel
theorem dX7_way_111 : decode cX7_way 111 = .ok (.iconst 1, 1) := by decide +kernel
theorem dX7_way_112 : decode cX7_way 112 = .ok (.goto 4, 3) := by decide +kernel
theorem dX7_way_115 : decode cX7_way 115 = .ok (.iconst 0, 1) := by decide +kernel
theorem dX7_way_116 : decode cX7_way 116 = .ok (.iadd, 1) := by decide +kernel
theorem dX7_way_117 : decode cX7_way 117 = .ok (.istore 4, 2) := by decide +kernel
theorem dX7_way_119 : decode cX7_way 119 = .ok (.iinc 5 1, 3) := by decide +kernel
theorem dX7_way_122 : decode cX7_way 122 = .ok (.goto (-91), 3) := by decide +kernel
theorem dX7_way_125 : decode cX7_way 125 = .ok (.iconst 0, 1) := by decide +kernel
theorem dX7_way_126 : decode cX7_way 126 = .ok (.istore 5, 2) := by decide +kernel
theorem dX7_way_128 : decode cX7_way 128 = .ok (.iload 5, 2) := by decide +kernel
theorem dX7_way_130 : decode cX7_way 130 = .ok (.aload_n 0, 1) := by decide +kernel
theorem dX7_way_131 : decode cX7_way 131 = .ok (.getfield 78, 3) := by decide +kernel
theorem dX7_way_134 : decode cX7_way 134 = .ok (.if_icmp .ge 60, 3) := by decide +kernel
theorem dX7_way_137 : decode cX7_way 137 = .ok (.iload_n 1, 1) := by decide +kernel
theorem dX7_way_138 : decode cX7_way 138 = .ok (.ifCond .eq 48, 3) := by decide +kernel
theorem dX7_way_141 : decode cX7_way 141 = .ok (.aload_n 0, 1) := by decide +kernel
theorem dX7_way_142 : decode cX7_way 142 = .ok (.iload 5, 2) := by decide +kernel
theorem dX7_way_144 : decode cX7_way 144 = .ok (.invokevirtual 156, 3) := by decide +kernel
theorem dX7_way_147 : decode cX7_way 147 = .ok (.iconst 2, 1) := by decide +kernel
theorem dX7_way_148 : decode cX7_way 148 = .ok (.if_icmp .ne 38, 3) := by decide +kernel
theorem dX7_way_151 : decode cX7_way 151 = .ok (.aload_n 0, 1) := by decide +kernel
theorem dX7_way_152 : decode cX7_way 152 = .ok (.getfield 7, 3) := by decide +kernel
theorem dX7_way_155 : decode cX7_way 155 = .ok (.iload 5, 2) := by decide +kernel
theorem dX7_way_157 : decode cX7_way 157 = .ok (.iaload, 1) := by decide +kernel
theorem dX7_way_158 : decode cX7_way 158 = .ok (.ifCond .ne 28, 3) := by decide +kernel
theorem dX7_way_161 : decode cX7_way 161 = .ok (.aload_n 0, 1) := by decide +kernel
theorem dX7_way_162 : decode cX7_way 162 = .ok (.getfield 13, 3) := by decide +kernel
theorem dX7_way_165 : decode cX7_way 165 = .ok (.iload 5, 2) := by decide +kernel
theorem dX7_way_167 : decode cX7_way 167 = .ok (.iaload, 1) := by decide +kernel
theorem dX7_way_168 : decode cX7_way 168 = .ok (.iconst 1, 1) := by decide +kernel
theorem dX7_way_169 : decode cX7_way 169 = .ok (.if_icmp .lt 17, 3) := by decide +kernel
theorem dX7_way_172 : decode cX7_way 172 = .ok (.aload_n 0, 1) := by decide +kernel
theorem dX7_way_173 : decode cX7_way 173 = .ok (.getfield 16, 3) := by decide +kernel
theorem dX7_way_176 : decode cX7_way 176 = .ok (.iload 5, 2) := by decide +kernel
theorem dX7_way_178 : decode cX7_way 178 = .ok (.iaload, 1) := by decide +kernel
theorem dX7_way_179 : decode cX7_way 179 = .ok (.ifCond .lt 7, 3) := by decide +kernel
theorem dX7_way_182 : decode cX7_way 182 = .ok (.iconst 1, 1) := by decide +kernel
theorem dX7_way_183 : decode cX7_way 183 = .ok (.goto 4, 3) := by decide +kernel
theorem dX7_way_186 : decode cX7_way 186 = .ok (.iconst 0, 1) := by decide +kernel
theorem dX7_way_187 : decode cX7_way 187 = .ok (.istore_n 1, 1) := by decide +kernel
theorem dX7_way_188 : decode cX7_way 188 = .ok (.iinc 5 1, 3) := by decide +kernel
theorem dX7_way_191 : decode cX7_way 191 = .ok (.goto (-63), 3) := by decide +kernel
theorem dX7_way_194 : decode cX7_way 194 = .ok (.iload_n 1, 1) := by decide +kernel
theorem dX7_way_195 : decode cX7_way 195 = .ok (.ifCond .eq 38, 3) := by decide +kernel
theorem dX7_way_198 : decode cX7_way 198 = .ok (.iload 4, 2) := by decide +kernel
theorem dX7_way_200 : decode cX7_way 200 = .ok (.iconst 2, 1) := by decide +kernel
theorem dX7_way_201 : decode cX7_way 201 = .ok (.if_icmp .ne 32, 3) := by decide +kernel
theorem dX7_way_204 : decode cX7_way 204 = .ok (.iload_n 2, 1) := by decide +kernel
theorem dX7_way_205 : decode cX7_way 205 = .ok (.iconst (-1), 1) := by decide +kernel
theorem dX7_way_206 : decode cX7_way 206 = .ok (.if_icmp .eq 27, 3) := by decide +kernel
theorem dX7_way_209 : decode cX7_way 209 = .ok (.iload_n 3, 1) := by decide +kernel
theorem dX7_way_210 : decode cX7_way 210 = .ok (.iconst (-1), 1) := by decide +kernel
theorem dX7_way_211 : decode cX7_way 211 = .ok (.if_icmp .eq 22, 3) := by decide +kernel
theorem dX7_way_214 : decode cX7_way 214 = .ok (.aload_n 0, 1) := by decide +kernel
theorem dX7_way_215 : decode cX7_way 215 = .ok (.getfield 39, 3) := by decide +kernel
theorem dX7_way_218 : decode cX7_way 218 = .ok (.iload_n 2, 1) := by decide +kernel
theorem dX7_way_219 : decode cX7_way 219 = .ok (.iaload, 1) := by decide +kernel
theorem dX7_way_220 : decode cX7_way 220 = .ok (.aload_n 0, 1) := by decide +kernel
theorem dX7_way_221 : decode cX7_way 221 = .ok (.getfield 39, 3) := by decide +kernel
theorem dX7_way_224 : decode cX7_way 224 = .ok (.iload_n 3, 1) := by decide +kernel
theorem dX7_way_225 : decode cX7_way 225 = .ok (.iaload, 1) := by decide +kernel
theorem dX7_way_226 : decode cX7_way 226 = .ok (.if_icmp .ne 7, 3) := by decide +kernel
theorem dX7_way_229 : decode cX7_way 229 = .ok (.iconst 1, 1) := by decide +kernel
theorem dX7_way_230 : decode cX7_way 230 = .ok (.goto 4, 3) := by decide +kernel
theorem dX7_way_233 : decode cX7_way 233 = .ok (.iconst 0, 1) := by decide +kernel
theorem dX7_way_234 : decode cX7_way 234 = .ok (.ireturn, 1) := by decide +kernel
theorem dX7_begin_0 : decode cX7_begin 0 = .ok (.iconst 0, 1) := by decide +kernel
theorem dX7_begin_1 : decode cX7_begin 1 = .ok (.istore_n 1, 1) := by decide +kernel
theorem dX7_begin_2 : decode cX7_begin 2 = .ok (.iload_n 1, 1) := by decide +kernel
theorem dX7_begin_3 : decode cX7_begin 3 = .ok (.aload_n 0, 1) := by decide +kernel
theorem dX7_begin_4 : decode cX7_begin 4 = .ok (.getfield 78, 3) := by decide +kernel
theorem dX7_begin_7 : decode cX7_begin 7 = .ok (.if_icmp .ge 33, 3) := by decide +kernel
theorem dX7_begin_10 : decode cX7_begin 10 = .ok (.aload_n 0, 1) := by decide +kernel
theorem dX7_begin_11 : decode cX7_begin 11 = .ok (.getfield 45, 3) := by decide +kernel
theorem dX7_begin_14 : decode cX7_begin 14 = .ok (.iload_n 1, 1) := by decide +kernel
theorem dX7_begin_15 : decode cX7_begin 15 = .ok (.aload_n 0, 1) := by decide +kernel
theorem dX7_begin_16 : decode cX7_begin 16 = .ok (.getfield 7, 3) := by decide +kernel
theorem dX7_begin_19 : decode cX7_begin 19 = .ok (.iload_n 1, 1) := by decide +kernel
theorem dX7_begin_20 : decode cX7_begin 20 = .ok (.iaload, 1) := by decide +kernel
theorem dX7_begin_21 : decode cX7_begin 21 = .ok (.iastore, 1) := by decide +kernel
theorem dX7_begin_22 : decode cX7_begin 22 = .ok (.aload_n 0, 1) := by decide +kernel
theorem dX7_begin_23 : decode cX7_begin 23 = .ok (.getfield 48, 3) := by decide +kernel
theorem dX7_begin_26 : decode cX7_begin 26 = .ok (.iload_n 1, 1) := by decide +kernel
theorem dX7_begin_27 : decode cX7_begin 27 = .ok (.aload_n 0, 1) := by decide +kernel
theorem dX7_begin_28 : decode cX7_begin 28 = .ok (.getfield 13, 3) := by decide +kernel
theorem dX7_begin_31 : decode cX7_begin 31 = .ok (.iload_n 1, 1) := by decide +kernel
theorem dX7_begin_32 : decode cX7_begin 32 = .ok (.iaload, 1) := by decide +kernel
theorem dX7_begin_33 : decode cX7_begin 33 = .ok (.iastore, 1) := by decide +kernel
theorem dX7_begin_34 : decode cX7_begin 34 = .ok (.iinc 1 1, 3) := by decide +kernel
theorem dX7_begin_37 : decode cX7_begin 37 = .ok (.goto (-35), 3) := by decide +kernel
theorem dX7_begin_40 : decode cX7_begin 40 = .ok (.iconst 0, 1) := by decide +kernel
theorem dX7_begin_41 : decode cX7_begin 41 = .ok (.istore_n 1, 1) := by decide +kernel
theorem dX7_begin_42 : decode cX7_begin 42 = .ok (.iload_n 1, 1) := by decide +kernel
theorem dX7_begin_43 : decode cX7_begin 43 = .ok (.aload_n 0, 1) := by decide +kernel
theorem dX7_begin_44 : decode cX7_begin 44 = .ok (.getfield 85, 3) := by decide +kernel
theorem dX7_begin_47 : decode cX7_begin 47 = .ok (.if_icmp .ge 21, 3) := by decide +kernel
theorem dX7_begin_50 : decode cX7_begin 50 = .ok (.aload_n 0, 1) := by decide +kernel
theorem dX7_begin_51 : decode cX7_begin 51 = .ok (.getfield 51, 3) := by decide +kernel
theorem dX7_begin_54 : decode cX7_begin 54 = .ok (.iload_n 1, 1) := by decide +kernel
theorem dX7_begin_55 : decode cX7_begin 55 = .ok (.aload_n 0, 1) := by decide +kernel
theorem dX7_begin_56 : decode cX7_begin 56 = .ok (.getfield 19, 3) := by decide +kernel
theorem dX7_begin_59 : decode cX7_begin 59 = .ok (.iload_n 1, 1) := by decide +kernel
theorem dX7_begin_60 : decode cX7_begin 60 = .ok (.iaload, 1) := by decide +kernel
theorem dX7_begin_61 : decode cX7_begin 61 = .ok (.iastore, 1) := by decide +kernel
theorem dX7_begin_62 : decode cX7_begin 62 = .ok (.iinc 1 1, 3) := by decide +kernel
theorem dX7_begin_65 : decode cX7_begin 65 = .ok (.goto (-23), 3) := by decide +kernel
theorem dX7_begin_68 : decode cX7_begin 68 = .ok (.return_, 1) := by decide +kernel
set_option maxRecDepth 20000 in
theorem ggX7_shows_X7_coef : GoodIn wsX7_shows wsX7_coef := goodIn_r _ [12, 13, 14, 15, 16, 17, 18, 19, 20, 21, 22, 23, 24, 25, 26, 27, 28, 29, 30, 31, 32, 33, 34, 35, 36, 37, 38, 39, 40, 41] (by decide +kernel) (by decide +kernel)
set_option maxRecDepth 20000 in
theorem gX7_shows_X7_coef : GoodIn wsX7_shows (wsV RX7 119 RX7 yX7_coef wsX7_coef) := goodIn_app (goodIn_of _ (by decide +kernel)) ggX7_shows_X7_coef
theorem dX7_shows_0 : decode cX7_shows 0 = .ok (.lconst 0, 1) := by decide +kernel
theorem dX7_shows_1 : decode cX7_shows 1 = .ok (.lstore_n 3, 1) := by decide +kernel
theorem dX7_shows_2 : decode cX7_shows 2 = .ok (.iconst 0, 1) := by decide +kernel
theorem dX7_shows_3 : decode cX7_shows 3 = .ok (.istore 5, 2) := by decide +kernel
theorem dX7_shows_5 : decode cX7_shows 5 = .ok (.iload 5, 2) := by decide +kernel
theorem dX7_shows_7 : decode cX7_shows 7 = .ok (.aload_n 0, 1) := by decide +kernel
theorem dX7_shows_8 : decode cX7_shows 8 = .ok (.getfield 85, 3) := by decide +kernel
theorem dX7_shows_11 : decode cX7_shows 11 = .ok (.if_icmp .ge 67, 3) := by decide +kernel
theorem dX7_shows_14 : decode cX7_shows 14 = .ok (.iload_n 1, 1) := by decide +kernel
theorem dX7_shows_15 : decode cX7_shows 15 = .ok (.iload 5, 2) := by decide +kernel
theorem dX7_shows_17 : decode cX7_shows 17 = .ok (.ishr, 1) := by decide +kernel
theorem dX7_shows_18 : decode cX7_shows 18 = .ok (.iconst 1, 1) := by decide +kernel
theorem dX7_shows_19 : decode cX7_shows 19 = .ok (.iand, 1) := by decide +kernel
theorem dX7_shows_20 : decode cX7_shows 20 = .ok (.iconst 1, 1) := by decide +kernel
theorem dX7_shows_21 : decode cX7_shows 21 = .ok (.if_icmp .ne 51, 3) := by decide +kernel
theorem dX7_shows_24 : decode cX7_shows 24 = .ok (.aload_n 0, 1) := by decide +kernel
theorem dX7_shows_25 : decode cX7_shows 25 = .ok (.getfield 51, 3) := by decide +kernel
theorem dX7_shows_28 : decode cX7_shows 28 = .ok (.iload 5, 2) := by decide +kernel
theorem dX7_shows_30 : decode cX7_shows 30 = .ok (.iaload, 1) := by decide +kernel
theorem dX7_shows_31 : decode cX7_shows 31 = .ok (.ifCond .ne 18, 3) := by decide +kernel
theorem dX7_shows_34 : decode cX7_shows 34 = .ok (.aload_n 0, 1) := by decide +kernel
theorem dX7_shows_35 : decode cX7_shows 35 = .ok (.getfield 42, 3) := by decide +kernel
theorem dX7_shows_38 : decode cX7_shows 38 = .ok (.iload 5, 2) := by decide +kernel
theorem dX7_shows_40 : decode cX7_shows 40 = .ok (.iaload, 1) := by decide +kernel
theorem dX7_shows_41 : decode cX7_shows 41 = .ok (.iload_n 2, 1) := by decide +kernel
theorem dX7_shows_42 : decode cX7_shows 42 = .ok (.imul, 1) := by decide +kernel
theorem dX7_shows_43 : decode cX7_shows 43 = .ok (.iconst 1, 1) := by decide +kernel
theorem dX7_shows_44 : decode cX7_shows 44 = .ok (.if_icmp .eq 5, 3) := by decide +kernel
theorem dX7_shows_47 : decode cX7_shows 47 = .ok (.iconst 0, 1) := by decide +kernel
theorem dX7_shows_48 : decode cX7_shows 48 = .ok (.ireturn, 1) := by decide +kernel
theorem dX7_shows_49 : decode cX7_shows 49 = .ok (.lload_n 3, 1) := by decide +kernel
theorem dX7_shows_50 : decode cX7_shows 50 = .ok (.aload_n 0, 1) := by decide +kernel
theorem dX7_shows_51 : decode cX7_shows 51 = .ok (.getfield 22, 3) := by decide +kernel
theorem dX7_shows_54 : decode cX7_shows 54 = .ok (.iload 5, 2) := by decide +kernel
theorem dX7_shows_56 : decode cX7_shows 56 = .ok (.iaload, 1) := by decide +kernel
theorem dX7_shows_57 : decode cX7_shows 57 = .ok (.i2l, 1) := by decide +kernel
theorem dX7_shows_58 : decode cX7_shows 58 = .ok (.aload_n 0, 1) := by decide +kernel
theorem dX7_shows_59 : decode cX7_shows 59 = .ok (.getfield 42, 3) := by decide +kernel
theorem dX7_shows_62 : decode cX7_shows 62 = .ok (.iload 5, 2) := by decide +kernel
theorem dX7_shows_64 : decode cX7_shows 64 = .ok (.iaload, 1) := by decide +kernel
theorem dX7_shows_65 : decode cX7_shows 65 = .ok (.i2l, 1) := by decide +kernel
theorem dX7_shows_66 : decode cX7_shows 66 = .ok (.lmul, 1) := by decide +kernel
theorem dX7_shows_67 : decode cX7_shows 67 = .ok (.iload_n 2, 1) := by decide +kernel
theorem dX7_shows_68 : decode cX7_shows 68 = .ok (.i2l, 1) := by decide +kernel
theorem dX7_shows_69 : decode cX7_shows 69 = .ok (.lmul, 1) := by decide +kernel
theorem dX7_shows_70 : decode cX7_shows 70 = .ok (.ladd, 1) := by decide +kernel
theorem dX7_shows_71 : decode cX7_shows 71 = .ok (.lstore_n 3, 1) := by decide +kernel
theorem dX7_shows_72 : decode cX7_shows 72 = .ok (.iinc 5 1, 3) := by decide +kernel
theorem dX7_shows_75 : decode cX7_shows 75 = .ok (.goto (-70), 3) := by decide +kernel
theorem dX7_shows_78 : decode cX7_shows 78 = .ok (.lconst 0, 1) := by decide +kernel
theorem dX7_shows_79 : decode cX7_shows 79 = .ok (.lstore 5, 2) := by decide +kernel
theorem dX7_shows_81 : decode cX7_shows 81 = .ok (.iconst 0, 1) := by decide +kernel
theorem dX7_shows_82 : decode cX7_shows 82 = .ok (.istore 7, 2) := by decide +kernel
theorem dX7_shows_84 : decode cX7_shows 84 = .ok (.iload 7, 2) := by decide +kernel
theorem dX7_shows_86 : decode cX7_shows 86 = .ok (.aload_n 0, 1) := by decide +kernel
theorem dX7_shows_87 : decode cX7_shows 87 = .ok (.getfield 78, 3) := by decide +kernel
theorem dX7_shows_90 : decode cX7_shows 90 = .ok (.if_icmp .ge 99, 3) := by decide +kernel
theorem dX7_shows_93 : decode cX7_shows 93 = .ok (.iconst 0, 1) := by decide +kernel
theorem dX7_shows_94 : decode cX7_shows 94 = .ok (.istore 8, 2) := by decide +kernel
theorem dX7_shows_96 : decode cX7_shows 96 = .ok (.iconst 0, 1) := by decide +kernel
theorem dX7_shows_97 : decode cX7_shows 97 = .ok (.istore 9, 2) := by decide +kernel
theorem dX7_shows_99 : decode cX7_shows 99 = .ok (.iload 9, 2) := by decide +kernel
theorem dX7_shows_101 : decode cX7_shows 101 = .ok (.aload_n 0, 1) := by decide +kernel
theorem dX7_shows_102 : decode cX7_shows 102 = .ok (.getfield 85, 3) := by decide +kernel
theorem dX7_shows_105 : decode cX7_shows 105 = .ok (.if_icmp .ge 46, 3) := by decide +kernel
theorem dX7_shows_108 : decode cX7_shows 108 = .ok (.iload 8, 2) := by decide +kernel
theorem dX7_shows_110 : decode cX7_shows 110 = .ok (.iload_n 1, 1) := by decide +kernel
theorem dX7_shows_111 : decode cX7_shows 111 = .ok (.iload 9, 2) := by decide +kernel
theorem dX7_shows_113 : decode cX7_shows 113 = .ok (.ishr, 1) := by decide +kernel
theorem dX7_shows_114 : decode cX7_shows 114 = .ok (.iconst 1, 1) := by decide +kernel
theorem dX7_shows_115 : decode cX7_shows 115 = .ok (.iand, 1) := by decide +kernel
theorem dX7_shows_116 : decode cX7_shows 116 = .ok (.iconst 1, 1) := by decide +kernel
theorem dX7_shows_117 : decode cX7_shows 117 = .ok (.if_icmp .ne 24, 3) := by decide +kernel
theorem dX7_shows_120 : decode cX7_shows 120 = .ok (.aload_n 0, 1) := by decide +kernel
theorem dX7_shows_121 : decode cX7_shows 121 = .ok (.iload 9, 2) := by decide +kernel
theorem dX7_shows_123 : decode cX7_shows 123 = .ok (.iload 7, 2) := by decide +kernel
theorem dX7_shows_125 : decode cX7_shows 125 = .ok (.invokevirtual 119, 3) := by decide +kernel
theorem dX7_shows_128 : decode cX7_shows 128 = .ok (.aload_n 0, 1) := by decide +kernel
theorem dX7_shows_129 : decode cX7_shows 129 = .ok (.getfield 42, 3) := by decide +kernel
theorem dX7_shows_132 : decode cX7_shows 132 = .ok (.iload 9, 2) := by decide +kernel
theorem dX7_shows_134 : decode cX7_shows 134 = .ok (.iaload, 1) := by decide +kernel
theorem dX7_shows_135 : decode cX7_shows 135 = .ok (.imul, 1) := by decide +kernel
theorem dX7_shows_136 : decode cX7_shows 136 = .ok (.iload_n 2, 1) := by decide +kernel
theorem dX7_shows_137 : decode cX7_shows 137 = .ok (.imul, 1) := by decide +kernel
theorem dX7_shows_138 : decode cX7_shows 138 = .ok (.goto 4, 3) := by decide +kernel
theorem dX7_shows_141 : decode cX7_shows 141 = .ok (.iconst 0, 1) := by decide +kernel
theorem dX7_shows_142 : decode cX7_shows 142 = .ok (.iadd, 1) := by decide +kernel
theorem dX7_shows_143 : decode cX7_shows 143 = .ok (.istore 8, 2) := by decide +kernel
theorem dX7_shows_145 : decode cX7_shows 145 = .ok (.iinc 9 1, 3) := by decide +kernel
theorem dX7_shows_148 : decode cX7_shows 148 = .ok (.goto (-49), 3) := by decide +kernel
theorem dX7_shows_151 : decode cX7_shows 151 = .ok (.lload 5, 2) := by decide +kernel
theorem dX7_shows_153 : decode cX7_shows 153 = .ok (.iload 8, 2) := by decide +kernel
theorem dX7_shows_155 : decode cX7_shows 155 = .ok (.i2l, 1) := by decide +kernel
theorem dX7_shows_156 : decode cX7_shows 156 = .ok (.iload 8, 2) := by decide +kernel
theorem dX7_shows_158 : decode cX7_shows 158 = .ok (.ifCond .le 13, 3) := by decide +kernel
theorem dX7_shows_161 : decode cX7_shows 161 = .ok (.aload_n 0, 1) := by decide +kernel
theorem dX7_shows_162 : decode cX7_shows 162 = .ok (.getfield 45, 3) := by decide +kernel
theorem dX7_shows_165 : decode cX7_shows 165 = .ok (.iload 7, 2) := by decide +kernel
theorem dX7_shows_167 : decode cX7_shows 167 = .ok (.iaload, 1) := by decide +kernel
theorem dX7_shows_168 : decode cX7_shows 168 = .ok (.goto 10, 3) := by decide +kernel
theorem dX7_shows_171 : decode cX7_shows 171 = .ok (.aload_n 0, 1) := by decide +kernel
theorem dX7_shows_172 : decode cX7_shows 172 = .ok (.getfield 48, 3) := by decide +kernel
theorem dX7_shows_175 : decode cX7_shows 175 = .ok (.iload 7, 2) := by decide +kernel
theorem dX7_shows_177 : decode cX7_shows 177 = .ok (.iaload, 1) := by decide +kernel
theorem dX7_shows_178 : decode cX7_shows 178 = .ok (.i2l, 1) := by decide +kernel
theorem dX7_shows_179 : decode cX7_shows 179 = .ok (.lmul, 1) := by decide +kernel
theorem dX7_shows_180 : decode cX7_shows 180 = .ok (.ladd, 1) := by decide +kernel
theorem dX7_shows_181 : decode cX7_shows 181 = .ok (.lstore 5, 2) := by decide +kernel
theorem dX7_shows_183 : decode cX7_shows 183 = .ok (.iinc 7 1, 3) := by decide +kernel
theorem dX7_shows_186 : decode cX7_shows 186 = .ok (.goto (-102), 3) := by decide +kernel
theorem dX7_shows_189 : decode cX7_shows 189 = .ok (.lload 5, 2) := by decide +kernel
theorem dX7_shows_191 : decode cX7_shows 191 = .ok (.lload_n 3, 1) := by decide +kernel
theorem dX7_shows_192 : decode cX7_shows 192 = .ok (.lcmp, 1) := by decide +kernel
theorem dX7_shows_193 : decode cX7_shows 193 = .ok (.ifCond .le 7, 3) := by decide +kernel
theorem dX7_shows_196 : decode cX7_shows 196 = .ok (.iconst 1, 1) := by decide +kernel
theorem dX7_shows_197 : decode cX7_shows 197 = .ok (.goto 4, 3) := by decide +kernel
theorem dX7_shows_200 : decode cX7_shows 200 = .ok (.iconst 0, 1) := by decide +kernel
theorem dX7_shows_201 : decode cX7_shows 201 = .ok (.ireturn, 1) := by decide +kernel
set_option maxRecDepth 20000 in
theorem ggX7_firstProof_X7_shows : GoodIn wsX7_firstProof wsX7_shows := goodIn_r _ [6, 1, 7, 8, 9, 10, 11, 12, 13, 14, 15, 5, 16, 17, 18, 19, 20, 21, 22, 23, 24, 25, 26, 27, 28, 29, 30, 31, 32, 33, 34, 35, 36, 37, 38, 39, 40, 41, 42, 43, 44, 45] (by decide +kernel) (by decide +kernel)
set_option maxRecDepth 20000 in
theorem gX7_firstProof_X7_shows : GoodIn wsX7_firstProof (wsV RX7 160 RX7 yX7_shows wsX7_shows) := goodIn_app (goodIn_of _ (by decide +kernel)) ggX7_firstProof_X7_shows
theorem dX7_firstProof_0 : decode cX7_firstProof 0 = .ok (.iconst 1, 1) := by decide +kernel
theorem dX7_firstProof_1 : decode cX7_firstProof 1 = .ok (.istore_n 1, 1) := by decide +kernel
theorem dX7_firstProof_2 : decode cX7_firstProof 2 = .ok (.iload_n 1, 1) := by decide +kernel
theorem dX7_firstProof_3 : decode cX7_firstProof 3 = .ok (.iconst 1, 1) := by decide +kernel
theorem dX7_firstProof_4 : decode cX7_firstProof 4 = .ok (.aload_n 0, 1) := by decide +kernel
theorem dX7_firstProof_5 : decode cX7_firstProof 5 = .ok (.getfield 85, 3) := by decide +kernel
theorem dX7_firstProof_8 : decode cX7_firstProof 8 = .ok (.ishl, 1) := by decide +kernel
theorem dX7_firstProof_9 : decode cX7_firstProof 9 = .ok (.if_icmp .ge 37, 3) := by decide +kernel
theorem dX7_firstProof_12 : decode cX7_firstProof 12 = .ok (.aload_n 0, 1) := by decide +kernel
theorem dX7_firstProof_13 : decode cX7_firstProof 13 = .ok (.iload_n 1, 1) := by decide +kernel
theorem dX7_firstProof_14 : decode cX7_firstProof 14 = .ok (.iconst 1, 1) := by decide +kernel
theorem dX7_firstProof_15 : decode cX7_firstProof 15 = .ok (.invokevirtual 160, 3) := by decide +kernel
theorem dX7_firstProof_18 : decode cX7_firstProof 18 = .ok (.ifCond .eq 7, 3) := by decide +kernel
theorem dX7_firstProof_21 : decode cX7_firstProof 21 = .ok (.iconst 2, 1) := by decide +kernel
theorem dX7_firstProof_22 : decode cX7_firstProof 22 = .ok (.iload_n 1, 1) := by decide +kernel
theorem dX7_firstProof_23 : decode cX7_firstProof 23 = .ok (.imul, 1) := by decide +kernel
theorem dX7_firstProof_24 : decode cX7_firstProof 24 = .ok (.ireturn, 1) := by decide +kernel
theorem dX7_firstProof_25 : decode cX7_firstProof 25 = .ok (.aload_n 0, 1) := by decide +kernel
theorem dX7_firstProof_26 : decode cX7_firstProof 26 = .ok (.iload_n 1, 1) := by decide +kernel
theorem dX7_firstProof_27 : decode cX7_firstProof 27 = .ok (.iconst (-1), 1) := by decide +kernel
theorem dX7_firstProof_28 : decode cX7_firstProof 28 = .ok (.invokevirtual 160, 3) := by decide +kernel
theorem dX7_firstProof_31 : decode cX7_firstProof 31 = .ok (.ifCond .eq 9, 3) := by decide +kernel
theorem dX7_firstProof_34 : decode cX7_firstProof 34 = .ok (.iconst 2, 1) := by decide +kernel
theorem dX7_firstProof_35 : decode cX7_firstProof 35 = .ok (.iload_n 1, 1) := by decide +kernel
theorem dX7_firstProof_36 : decode cX7_firstProof 36 = .ok (.imul, 1) := by decide +kernel
theorem dX7_firstProof_37 : decode cX7_firstProof 37 = .ok (.iconst 1, 1) := by decide +kernel
theorem dX7_firstProof_38 : decode cX7_firstProof 38 = .ok (.iadd, 1) := by decide +kernel
theorem dX7_firstProof_39 : decode cX7_firstProof 39 = .ok (.ireturn, 1) := by decide +kernel
theorem dX7_firstProof_40 : decode cX7_firstProof 40 = .ok (.iinc 1 1, 3) := by decide +kernel
theorem dX7_firstProof_43 : decode cX7_firstProof 43 = .ok (.goto (-41), 3) := by decide +kernel
theorem dX7_firstProof_46 : decode cX7_firstProof 46 = .ok (.iconst (-1), 1) := by decide +kernel
theorem dX7_firstProof_47 : decode cX7_firstProof 47 = .ok (.ireturn, 1) := by decide +kernel
set_option maxRecDepth 20000 in
theorem ggX7_findLeast_X7_firstProof : GoodIn wsX7_findLeast wsX7_firstProof := goodIn_r _ [9, 10, 11, 12, 13, 8, 14, 15, 16, 17, 1, 2, 3, 18, 19, 20, 21, 22, 23, 24, 25, 26, 27, 28, 29, 30, 31, 32, 33, 34, 35, 36, 37, 38, 39, 40, 41, 42, 43, 44, 45, 46, 47, 48, 49, 50] (by decide +kernel) (by decide +kernel)
set_option maxRecDepth 20000 in
theorem gX7_findLeast_X7_firstProof : GoodIn wsX7_findLeast (wsV RX7 163 RX7 yX7_firstProof wsX7_firstProof) := goodIn_app (goodIn_of _ (by decide +kernel)) ggX7_findLeast_X7_firstProof
theorem dX7_findLeast_0 : decode cX7_findLeast 0 = .ok (.iconst 0, 1) := by decide +kernel
theorem dX7_findLeast_1 : decode cX7_findLeast 1 = .ok (.istore_n 1, 1) := by decide +kernel
theorem dX7_findLeast_2 : decode cX7_findLeast 2 = .ok (.iload_n 1, 1) := by decide +kernel
theorem dX7_findLeast_3 : decode cX7_findLeast 3 = .ok (.aload_n 0, 1) := by decide +kernel
theorem dX7_findLeast_4 : decode cX7_findLeast 4 = .ok (.getfield 78, 3) := by decide +kernel
theorem dX7_findLeast_7 : decode cX7_findLeast 7 = .ok (.if_icmp .ge 123, 3) := by decide +kernel
theorem dX7_findLeast_10 : decode cX7_findLeast 10 = .ok (.aload_n 0, 1) := by decide +kernel
theorem dX7_findLeast_11 : decode cX7_findLeast 11 = .ok (.getfield 45, 3) := by decide +kernel
theorem dX7_findLeast_14 : decode cX7_findLeast 14 = .ok (.iload_n 1, 1) := by decide +kernel
theorem dX7_findLeast_15 : decode cX7_findLeast 15 = .ok (.iaload, 1) := by decide +kernel
theorem dX7_findLeast_16 : decode cX7_findLeast 16 = .ok (.istore_n 2, 1) := by decide +kernel
theorem dX7_findLeast_17 : decode cX7_findLeast 17 = .ok (.aload_n 0, 1) := by decide +kernel
theorem dX7_findLeast_18 : decode cX7_findLeast 18 = .ok (.getfield 48, 3) := by decide +kernel
theorem dX7_findLeast_21 : decode cX7_findLeast 21 = .ok (.iload_n 1, 1) := by decide +kernel
theorem dX7_findLeast_22 : decode cX7_findLeast 22 = .ok (.iaload, 1) := by decide +kernel
theorem dX7_findLeast_23 : decode cX7_findLeast 23 = .ok (.istore_n 3, 1) := by decide +kernel
theorem dX7_findLeast_24 : decode cX7_findLeast 24 = .ok (.iconst 0, 1) := by decide +kernel
theorem dX7_findLeast_25 : decode cX7_findLeast 25 = .ok (.istore 4, 2) := by decide +kernel
theorem dX7_findLeast_27 : decode cX7_findLeast 27 = .ok (.iload 4, 2) := by decide +kernel
theorem dX7_findLeast_29 : decode cX7_findLeast 29 = .ok (.bipush 12, 2) := by decide +kernel
theorem dX7_findLeast_31 : decode cX7_findLeast 31 = .ok (.if_icmp .ge 72, 3) := by decide +kernel
theorem dX7_findLeast_34 : decode cX7_findLeast 34 = .ok (.iload_n 2, 1) := by decide +kernel
theorem dX7_findLeast_35 : decode cX7_findLeast 35 = .ok (.iload_n 3, 1) := by decide +kernel
theorem dX7_findLeast_36 : decode cX7_findLeast 36 = .ok (.if_icmp .ge 67, 3) := by decide +kernel
theorem dX7_findLeast_39 : decode cX7_findLeast 39 = .ok (.iload_n 2, 1) := by decide +kernel
theorem dX7_findLeast_40 : decode cX7_findLeast 40 = .ok (.iload_n 3, 1) := by decide +kernel
theorem dX7_findLeast_41 : decode cX7_findLeast 41 = .ok (.iload_n 2, 1) := by decide +kernel
theorem dX7_findLeast_42 : decode cX7_findLeast 42 = .ok (.isub, 1) := by decide +kernel
theorem dX7_findLeast_43 : decode cX7_findLeast 43 = .ok (.iconst 2, 1) := by decide +kernel
theorem dX7_findLeast_44 : decode cX7_findLeast 44 = .ok (.idiv, 1) := by decide +kernel
theorem dX7_findLeast_45 : decode cX7_findLeast 45 = .ok (.iadd, 1) := by decide +kernel
theorem dX7_findLeast_46 : decode cX7_findLeast 46 = .ok (.istore 5, 2) := by decide +kernel
theorem dX7_findLeast_48 : decode cX7_findLeast 48 = .ok (.aload_n 0, 1) := by decide +kernel
theorem dX7_findLeast_49 : decode cX7_findLeast 49 = .ok (.getfield 48, 3) := by decide +kernel
theorem dX7_findLeast_52 : decode cX7_findLeast 52 = .ok (.iload_n 1, 1) := by decide +kernel
theorem dX7_findLeast_53 : decode cX7_findLeast 53 = .ok (.iload 5, 2) := by decide +kernel
theorem dX7_findLeast_55 : decode cX7_findLeast 55 = .ok (.iastore, 1) := by decide +kernel
theorem dX7_findLeast_56 : decode cX7_findLeast 56 = .ok (.aload_n 0, 1) := by decide +kernel
theorem dX7_findLeast_57 : decode cX7_findLeast 57 = .ok (.invokevirtual 163, 3) := by decide +kernel
theorem dX7_findLeast_60 : decode cX7_findLeast 60 = .ok (.iconst (-1), 1) := by decide +kernel
theorem dX7_findLeast_61 : decode cX7_findLeast 61 = .ok (.if_icmp .ne 7, 3) := by decide +kernel
theorem dX7_findLeast_64 : decode cX7_findLeast 64 = .ok (.iconst 1, 1) := by decide +kernel
theorem dX7_findLeast_65 : decode cX7_findLeast 65 = .ok (.goto 4, 3) := by decide +kernel
theorem dX7_findLeast_68 : decode cX7_findLeast 68 = .ok (.iconst 0, 1) := by decide +kernel
theorem dX7_findLeast_69 : decode cX7_findLeast 69 = .ok (.istore 6, 2) := by decide +kernel
theorem dX7_findLeast_71 : decode cX7_findLeast 71 = .ok (.iload 6, 2) := by decide +kernel
theorem dX7_findLeast_73 : decode cX7_findLeast 73 = .ok (.ifCond .eq 7, 3) := by decide +kernel
theorem dX7_findLeast_76 : decode cX7_findLeast 76 = .ok (.iload_n 2, 1) := by decide +kernel
theorem dX7_findLeast_77 : decode cX7_findLeast 77 = .ok (.goto 7, 3) := by decide +kernel
theorem dX7_findLeast_80 : decode cX7_findLeast 80 = .ok (.iload 5, 2) := by decide +kernel
theorem dX7_findLeast_82 : decode cX7_findLeast 82 = .ok (.iconst 1, 1) := by decide +kernel
theorem dX7_findLeast_83 : decode cX7_findLeast 83 = .ok (.iadd, 1) := by decide +kernel
theorem dX7_findLeast_84 : decode cX7_findLeast 84 = .ok (.istore_n 2, 1) := by decide +kernel
theorem dX7_findLeast_85 : decode cX7_findLeast 85 = .ok (.iload 6, 2) := by decide +kernel
theorem dX7_findLeast_87 : decode cX7_findLeast 87 = .ok (.ifCond .eq 8, 3) := by decide +kernel
theorem dX7_findLeast_90 : decode cX7_findLeast 90 = .ok (.iload 5, 2) := by decide +kernel
theorem dX7_findLeast_92 : decode cX7_findLeast 92 = .ok (.goto 4, 3) := by decide +kernel
theorem dX7_findLeast_95 : decode cX7_findLeast 95 = .ok (.iload_n 3, 1) := by decide +kernel
theorem dX7_findLeast_96 : decode cX7_findLeast 96 = .ok (.istore_n 3, 1) := by decide +kernel
theorem dX7_findLeast_97 : decode cX7_findLeast 97 = .ok (.iinc 4 1, 3) := by decide +kernel
theorem dX7_findLeast_100 : decode cX7_findLeast 100 = .ok (.goto (-73), 3) := by decide +kernel
theorem dX7_findLeast_103 : decode cX7_findLeast 103 = .ok (.aload_n 0, 1) := by decide +kernel
theorem dX7_findLeast_104 : decode cX7_findLeast 104 = .ok (.getfield 45, 3) := by decide +kernel
theorem dX7_findLeast_107 : decode cX7_findLeast 107 = .ok (.iload_n 1, 1) := by decide +kernel
theorem dX7_findLeast_108 : decode cX7_findLeast 108 = .ok (.iload_n 3, 1) := by decide +kernel
theorem dX7_findLeast_109 : decode cX7_findLeast 109 = .ok (.iastore, 1) := by decide +kernel
theorem dX7_findLeast_110 : decode cX7_findLeast 110 = .ok (.aload_n 0, 1) := by decide +kernel
theorem dX7_findLeast_111 : decode cX7_findLeast 111 = .ok (.getfield 48, 3) := by decide +kernel
theorem dX7_findLeast_114 : decode cX7_findLeast 114 = .ok (.iload_n 1, 1) := by decide +kernel
theorem dX7_findLeast_115 : decode cX7_findLeast 115 = .ok (.iload_n 3, 1) := by decide +kernel
theorem dX7_findLeast_116 : decode cX7_findLeast 116 = .ok (.iastore, 1) := by decide +kernel
theorem dX7_findLeast_117 : decode cX7_findLeast 117 = .ok (.aload_n 0, 1) := by decide +kernel
theorem dX7_findLeast_118 : decode cX7_findLeast 118 = .ok (.getfield 32, 3) := by decide +kernel
theorem dX7_findLeast_121 : decode cX7_findLeast 121 = .ok (.iload_n 1, 1) := by decide +kernel
theorem dX7_findLeast_122 : decode cX7_findLeast 122 = .ok (.iload_n 3, 1) := by decide +kernel
theorem dX7_findLeast_123 : decode cX7_findLeast 123 = .ok (.iastore, 1) := by decide +kernel
theorem dX7_findLeast_124 : decode cX7_findLeast 124 = .ok (.iinc 1 1, 3) := by decide +kernel
theorem dX7_findLeast_127 : decode cX7_findLeast 127 = .ok (.goto (-125), 3) := by decide +kernel
theorem dX7_findLeast_130 : decode cX7_findLeast 130 = .ok (.return_, 1) := by decide +kernel
theorem dX7_edge_0 : decode cX7_edge 0 = .ok (.aload_n 0, 1) := by decide +kernel
theorem dX7_edge_1 : decode cX7_edge 1 = .ok (.getfield 54, 3) := by decide +kernel
theorem dX7_edge_4 : decode cX7_edge 4 = .ok (.aload_n 0, 1) := by decide +kernel
theorem dX7_edge_5 : decode cX7_edge 5 = .ok (.getfield 166, 3) := by decide +kernel
theorem dX7_edge_8 : decode cX7_edge 8 = .ok (.iload_n 1, 1) := by decide +kernel
theorem dX7_edge_9 : decode cX7_edge 9 = .ok (.iastore, 1) := by decide +kernel
theorem dX7_edge_10 : decode cX7_edge 10 = .ok (.aload_n 0, 1) := by decide +kernel
theorem dX7_edge_11 : decode cX7_edge 11 = .ok (.getfield 57, 3) := by decide +kernel
theorem dX7_edge_14 : decode cX7_edge 14 = .ok (.aload_n 0, 1) := by decide +kernel
theorem dX7_edge_15 : decode cX7_edge 15 = .ok (.getfield 166, 3) := by decide +kernel
theorem dX7_edge_18 : decode cX7_edge 18 = .ok (.iload_n 2, 1) := by decide +kernel
theorem dX7_edge_19 : decode cX7_edge 19 = .ok (.iastore, 1) := by decide +kernel
theorem dX7_edge_20 : decode cX7_edge 20 = .ok (.aload_n 0, 1) := by decide +kernel
theorem dX7_edge_21 : decode cX7_edge 21 = .ok (.getfield 60, 3) := by decide +kernel
theorem dX7_edge_24 : decode cX7_edge 24 = .ok (.aload_n 0, 1) := by decide +kernel
theorem dX7_edge_25 : decode cX7_edge 25 = .ok (.getfield 166, 3) := by decide +kernel
theorem dX7_edge_28 : decode cX7_edge 28 = .ok (.lload_n 3, 1) := by decide +kernel
theorem dX7_edge_29 : decode cX7_edge 29 = .ok (.lastore, 1) := by decide +kernel
theorem dX7_edge_30 : decode cX7_edge 30 = .ok (.aload_n 0, 1) := by decide +kernel
theorem dX7_edge_31 : decode cX7_edge 31 = .ok (.getfield 63, 3) := by decide +kernel
theorem dX7_edge_34 : decode cX7_edge 34 = .ok (.aload_n 0, 1) := by decide +kernel
theorem dX7_edge_35 : decode cX7_edge 35 = .ok (.getfield 166, 3) := by decide +kernel
theorem dX7_edge_38 : decode cX7_edge 38 = .ok (.iload 5, 2) := by decide +kernel
theorem dX7_edge_40 : decode cX7_edge 40 = .ok (.iastore, 1) := by decide +kernel
theorem dX7_edge_41 : decode cX7_edge 41 = .ok (.aload_n 0, 1) := by decide +kernel
theorem dX7_edge_42 : decode cX7_edge 42 = .ok (.dup, 1) := by decide +kernel
theorem dX7_edge_43 : decode cX7_edge 43 = .ok (.getfield 166, 3) := by decide +kernel
theorem dX7_edge_46 : decode cX7_edge 46 = .ok (.iconst 1, 1) := by decide +kernel
theorem dX7_edge_47 : decode cX7_edge 47 = .ok (.iadd, 1) := by decide +kernel
theorem dX7_edge_48 : decode cX7_edge 48 = .ok (.putfield 166, 3) := by decide +kernel
theorem dX7_edge_51 : decode cX7_edge 51 = .ok (.return_, 1) := by decide +kernel
set_option maxRecDepth 20000 in
theorem ggX7_endOf_X7_coef : GoodIn wsX7_endOf wsX7_coef := goodIn_r _ [7, 8, 9, 10, 11, 12, 13, 14, 15, 16, 17, 18, 19, 20, 21, 22, 23, 24, 25, 26, 27, 28, 29, 30, 31, 32, 33, 34, 35, 36] (by decide +kernel) (by decide +kernel)
set_option maxRecDepth 20000 in
theorem gX7_endOf_X7_coef : GoodIn wsX7_endOf (wsV RX7 119 RX7 yX7_coef wsX7_coef) := goodIn_app (goodIn_of _ (by decide +kernel)) ggX7_endOf_X7_coef
theorem dX7_endOf_0 : decode cX7_endOf 0 = .ok (.aload_n 0, 1) := by decide +kernel
theorem dX7_endOf_1 : decode cX7_endOf 1 = .ok (.getfield 85, 3) := by decide +kernel
theorem dX7_endOf_4 : decode cX7_endOf 4 = .ok (.istore_n 3, 1) := by decide +kernel
theorem dX7_endOf_5 : decode cX7_endOf 5 = .ok (.iconst 0, 1) := by decide +kernel
theorem dX7_endOf_6 : decode cX7_endOf 6 = .ok (.istore 4, 2) := by decide +kernel
theorem dX7_endOf_8 : decode cX7_endOf 8 = .ok (.iload 4, 2) := by decide +kernel
theorem dX7_endOf_10 : decode cX7_endOf 10 = .ok (.aload_n 0, 1) := by decide +kernel
theorem dX7_endOf_11 : decode cX7_endOf 11 = .ok (.getfield 85, 3) := by decide +kernel
theorem dX7_endOf_14 : decode cX7_endOf 14 = .ok (.if_icmp .ge 35, 3) := by decide +kernel
theorem dX7_endOf_17 : decode cX7_endOf 17 = .ok (.aload_n 0, 1) := by decide +kernel
theorem dX7_endOf_18 : decode cX7_endOf 18 = .ok (.iload 4, 2) := by decide +kernel
theorem dX7_endOf_20 : decode cX7_endOf 20 = .ok (.iload_n 1, 1) := by decide +kernel
theorem dX7_endOf_21 : decode cX7_endOf 21 = .ok (.invokevirtual 119, 3) := by decide +kernel
theorem dX7_endOf_24 : decode cX7_endOf 24 = .ok (.aload_n 0, 1) := by decide +kernel
theorem dX7_endOf_25 : decode cX7_endOf 25 = .ok (.getfield 42, 3) := by decide +kernel
theorem dX7_endOf_28 : decode cX7_endOf 28 = .ok (.iload 4, 2) := by decide +kernel
theorem dX7_endOf_30 : decode cX7_endOf 30 = .ok (.iaload, 1) := by decide +kernel
theorem dX7_endOf_31 : decode cX7_endOf 31 = .ok (.imul, 1) := by decide +kernel
theorem dX7_endOf_32 : decode cX7_endOf 32 = .ok (.iload_n 2, 1) := by decide +kernel
theorem dX7_endOf_33 : decode cX7_endOf 33 = .ok (.if_icmp .ne 8, 3) := by decide +kernel
theorem dX7_endOf_36 : decode cX7_endOf 36 = .ok (.iload 4, 2) := by decide +kernel
theorem dX7_endOf_38 : decode cX7_endOf 38 = .ok (.goto 4, 3) := by decide +kernel
theorem dX7_endOf_41 : decode cX7_endOf 41 = .ok (.iload_n 3, 1) := by decide +kernel
theorem dX7_endOf_42 : decode cX7_endOf 42 = .ok (.istore_n 3, 1) := by decide +kernel
theorem dX7_endOf_43 : decode cX7_endOf 43 = .ok (.iinc 4 1, 3) := by decide +kernel
theorem dX7_endOf_46 : decode cX7_endOf 46 = .ok (.goto (-38), 3) := by decide +kernel
theorem dX7_endOf_49 : decode cX7_endOf 49 = .ok (.iload_n 3, 1) := by decide +kernel
theorem dX7_endOf_50 : decode cX7_endOf 50 = .ok (.ireturn, 1) := by decide +kernel
set_option maxRecDepth 20000 in
theorem ggX7_sumOf_X7_coef : GoodIn wsX7_sumOf wsX7_coef := goodIn_r _ [7, 8, 9, 10, 11, 12, 13, 14, 15, 16, 17, 18, 19, 20, 21, 22, 23, 24, 25, 26, 27, 28, 29, 30, 31, 32, 33, 34, 35, 36] (by decide +kernel) (by decide +kernel)
set_option maxRecDepth 20000 in
theorem gX7_sumOf_X7_coef : GoodIn wsX7_sumOf (wsV RX7 119 RX7 yX7_coef wsX7_coef) := goodIn_app (goodIn_of _ (by decide +kernel)) ggX7_sumOf_X7_coef
theorem dX7_sumOf_0 : decode cX7_sumOf 0 = .ok (.lconst 0, 1) := by decide +kernel
theorem dX7_sumOf_1 : decode cX7_sumOf 1 = .ok (.lstore_n 2, 1) := by decide +kernel
theorem dX7_sumOf_2 : decode cX7_sumOf 2 = .ok (.iconst 0, 1) := by decide +kernel
theorem dX7_sumOf_3 : decode cX7_sumOf 3 = .ok (.istore 4, 2) := by decide +kernel
theorem dX7_sumOf_5 : decode cX7_sumOf 5 = .ok (.iload 4, 2) := by decide +kernel
theorem dX7_sumOf_7 : decode cX7_sumOf 7 = .ok (.aload_n 0, 1) := by decide +kernel
theorem dX7_sumOf_8 : decode cX7_sumOf 8 = .ok (.getfield 78, 3) := by decide +kernel
theorem dX7_sumOf_11 : decode cX7_sumOf 11 = .ok (.if_icmp .ge 29, 3) := by decide +kernel
theorem dX7_sumOf_14 : decode cX7_sumOf 14 = .ok (.lload_n 2, 1) := by decide +kernel
theorem dX7_sumOf_15 : decode cX7_sumOf 15 = .ok (.aload_n 0, 1) := by decide +kernel
theorem dX7_sumOf_16 : decode cX7_sumOf 16 = .ok (.iload_n 1, 1) := by decide +kernel
theorem dX7_sumOf_17 : decode cX7_sumOf 17 = .ok (.iload 4, 2) := by decide +kernel
theorem dX7_sumOf_19 : decode cX7_sumOf 19 = .ok (.invokevirtual 119, 3) := by decide +kernel
theorem dX7_sumOf_22 : decode cX7_sumOf 22 = .ok (.i2l, 1) := by decide +kernel
theorem dX7_sumOf_23 : decode cX7_sumOf 23 = .ok (.aload_n 0, 1) := by decide +kernel
theorem dX7_sumOf_24 : decode cX7_sumOf 24 = .ok (.getfield 32, 3) := by decide +kernel
theorem dX7_sumOf_27 : decode cX7_sumOf 27 = .ok (.iload 4, 2) := by decide +kernel
theorem dX7_sumOf_29 : decode cX7_sumOf 29 = .ok (.iaload, 1) := by decide +kernel
theorem dX7_sumOf_30 : decode cX7_sumOf 30 = .ok (.i2l, 1) := by decide +kernel
theorem dX7_sumOf_31 : decode cX7_sumOf 31 = .ok (.lmul, 1) := by decide +kernel
theorem dX7_sumOf_32 : decode cX7_sumOf 32 = .ok (.ladd, 1) := by decide +kernel
theorem dX7_sumOf_33 : decode cX7_sumOf 33 = .ok (.lstore_n 2, 1) := by decide +kernel
theorem dX7_sumOf_34 : decode cX7_sumOf 34 = .ok (.iinc 4 1, 3) := by decide +kernel
theorem dX7_sumOf_37 : decode cX7_sumOf 37 = .ok (.goto (-32), 3) := by decide +kernel
theorem dX7_sumOf_40 : decode cX7_sumOf 40 = .ok (.lload_n 2, 1) := by decide +kernel
theorem dX7_sumOf_41 : decode cX7_sumOf 41 = .ok (.lreturn, 1) := by decide +kernel
set_option maxRecDepth 20000 in
theorem ggX7_findEdges_X7_endOf : GoodIn wsX7_findEdges wsX7_endOf := goodIn_r _ [15, 7, 9, 16, 17, 18, 14, 19, 20, 33, 34, 35, 36, 37, 38, 39, 40, 41, 42, 43, 44, 45, 46, 47, 48, 49, 50, 51, 52, 53, 54, 55, 56, 57, 58, 59, 60] (by decide +kernel) (by decide +kernel)
set_option maxRecDepth 20000 in
theorem gX7_findEdges_X7_endOf : GoodIn wsX7_findEdges (wsV RX7 169 RX7 yX7_endOf wsX7_endOf) := goodIn_app (goodIn_of _ (by decide +kernel)) ggX7_findEdges_X7_endOf
set_option maxRecDepth 20000 in
theorem ggX7_findEdges_X7_edge : GoodIn wsX7_findEdges wsX7_edge := goodIn_r _ [24, 25, 1, 26, 27, 28, 33, 34, 35, 36, 37, 38, 39, 40, 41, 42, 43, 44, 45, 46, 47, 48, 49, 50, 51, 52, 53, 54, 55, 56, 57, 58, 59, 60] (by decide +kernel) (by decide +kernel)
set_option maxRecDepth 20000 in
theorem gX7_findEdges_X7_edge : GoodIn wsX7_findEdges (wsV RX7 172 RX7 yX7_edge wsX7_edge) := goodIn_app (goodIn_of _ (by decide +kernel)) ggX7_findEdges_X7_edge
set_option maxRecDepth 20000 in
theorem ggX7_findEdges_X7_sumOf : GoodIn wsX7_findEdges wsX7_sumOf := goodIn_r _ [32, 2, 3, 16, 17, 18, 14, 19, 20, 33, 34, 35, 36, 37, 38, 39, 40, 41, 42, 43, 44, 45, 46, 47, 48, 49, 50, 51, 52, 53, 54, 55, 56, 57, 58, 59, 60] (by decide +kernel) (by decide +kernel)
set_option maxRecDepth 20000 in
theorem gX7_findEdges_X7_sumOf : GoodIn wsX7_findEdges (wsV RX7 176 RX7 yX7_sumOf wsX7_sumOf) := goodIn_app (goodIn_of _ (by decide +kernel)) ggX7_findEdges_X7_sumOf
theorem dX7_findEdges_0 : decode cX7_findEdges 0 = .ok (.aload_n 0, 1) := by decide +kernel
theorem dX7_findEdges_1 : decode cX7_findEdges 1 = .ok (.iconst 0, 1) := by decide +kernel
theorem dX7_findEdges_2 : decode cX7_findEdges 2 = .ok (.putfield 166, 3) := by decide +kernel
theorem dX7_findEdges_5 : decode cX7_findEdges 5 = .ok (.iconst 0, 1) := by decide +kernel
theorem dX7_findEdges_6 : decode cX7_findEdges 6 = .ok (.istore_n 1, 1) := by decide +kernel
theorem dX7_findEdges_7 : decode cX7_findEdges 7 = .ok (.iload_n 1, 1) := by decide +kernel
theorem dX7_findEdges_8 : decode cX7_findEdges 8 = .ok (.aload_n 0, 1) := by decide +kernel
theorem dX7_findEdges_9 : decode cX7_findEdges 9 = .ok (.getfield 78, 3) := by decide +kernel
theorem dX7_findEdges_12 : decode cX7_findEdges 12 = .ok (.if_icmp .ge 87, 3) := by decide +kernel
theorem dX7_findEdges_15 : decode cX7_findEdges 15 = .ok (.aload_n 0, 1) := by decide +kernel
theorem dX7_findEdges_16 : decode cX7_findEdges 16 = .ok (.iload_n 1, 1) := by decide +kernel
theorem dX7_findEdges_17 : decode cX7_findEdges 17 = .ok (.iconst 1, 1) := by decide +kernel
theorem dX7_findEdges_18 : decode cX7_findEdges 18 = .ok (.invokevirtual 169, 3) := by decide +kernel
theorem dX7_findEdges_21 : decode cX7_findEdges 21 = .ok (.istore_n 2, 1) := by decide +kernel
theorem dX7_findEdges_22 : decode cX7_findEdges 22 = .ok (.aload_n 0, 1) := by decide +kernel
theorem dX7_findEdges_23 : decode cX7_findEdges 23 = .ok (.iload_n 1, 1) := by decide +kernel
theorem dX7_findEdges_24 : decode cX7_findEdges 24 = .ok (.iconst (-1), 1) := by decide +kernel
theorem dX7_findEdges_25 : decode cX7_findEdges 25 = .ok (.invokevirtual 169, 3) := by decide +kernel
theorem dX7_findEdges_28 : decode cX7_findEdges 28 = .ok (.istore_n 3, 1) := by decide +kernel
theorem dX7_findEdges_29 : decode cX7_findEdges 29 = .ok (.aload_n 0, 1) := by decide +kernel
theorem dX7_findEdges_30 : decode cX7_findEdges 30 = .ok (.getfield 32, 3) := by decide +kernel
theorem dX7_findEdges_33 : decode cX7_findEdges 33 = .ok (.iload_n 1, 1) := by decide +kernel
theorem dX7_findEdges_34 : decode cX7_findEdges 34 = .ok (.iaload, 1) := by decide +kernel
theorem dX7_findEdges_35 : decode cX7_findEdges 35 = .ok (.aload_n 0, 1) := by decide +kernel
theorem dX7_findEdges_36 : decode cX7_findEdges 36 = .ok (.getfield 13, 3) := by decide +kernel
theorem dX7_findEdges_39 : decode cX7_findEdges 39 = .ok (.iload_n 1, 1) := by decide +kernel
theorem dX7_findEdges_40 : decode cX7_findEdges 40 = .ok (.iaload, 1) := by decide +kernel
theorem dX7_findEdges_41 : decode cX7_findEdges 41 = .ok (.if_icmp .ge 19, 3) := by decide +kernel
theorem dX7_findEdges_44 : decode cX7_findEdges 44 = .ok (.aload_n 0, 1) := by decide +kernel
theorem dX7_findEdges_45 : decode cX7_findEdges 45 = .ok (.iload_n 3, 1) := by decide +kernel
theorem dX7_findEdges_46 : decode cX7_findEdges 46 = .ok (.iload_n 2, 1) := by decide +kernel
theorem dX7_findEdges_47 : decode cX7_findEdges 47 = .ok (.aload_n 0, 1) := by decide +kernel
theorem dX7_findEdges_48 : decode cX7_findEdges 48 = .ok (.getfield 16, 3) := by decide +kernel
theorem dX7_findEdges_51 : decode cX7_findEdges 51 = .ok (.iload_n 1, 1) := by decide +kernel
theorem dX7_findEdges_52 : decode cX7_findEdges 52 = .ok (.iaload, 1) := by decide +kernel
theorem dX7_findEdges_53 : decode cX7_findEdges 53 = .ok (.i2l, 1) := by decide +kernel
theorem dX7_findEdges_54 : decode cX7_findEdges 54 = .ok (.iload_n 1, 1) := by decide +kernel
theorem dX7_findEdges_55 : decode cX7_findEdges 55 = .ok (.iconst 1, 1) := by decide +kernel
theorem dX7_findEdges_56 : decode cX7_findEdges 56 = .ok (.iadd, 1) := by decide +kernel
theorem dX7_findEdges_57 : decode cX7_findEdges 57 = .ok (.invokevirtual 172, 3) := by decide +kernel
theorem dX7_findEdges_60 : decode cX7_findEdges 60 = .ok (.aload_n 0, 1) := by decide +kernel
theorem dX7_findEdges_61 : decode cX7_findEdges 61 = .ok (.getfield 32, 3) := by decide +kernel
theorem dX7_findEdges_64 : decode cX7_findEdges 64 = .ok (.iload_n 1, 1) := by decide +kernel
theorem dX7_findEdges_65 : decode cX7_findEdges 65 = .ok (.iaload, 1) := by decide +kernel
theorem dX7_findEdges_66 : decode cX7_findEdges 66 = .ok (.aload_n 0, 1) := by decide +kernel
theorem dX7_findEdges_67 : decode cX7_findEdges 67 = .ok (.getfield 7, 3) := by decide +kernel
theorem dX7_findEdges_70 : decode cX7_findEdges 70 = .ok (.iload_n 1, 1) := by decide +kernel
theorem dX7_findEdges_71 : decode cX7_findEdges 71 = .ok (.iaload, 1) := by decide +kernel
theorem dX7_findEdges_72 : decode cX7_findEdges 72 = .ok (.if_icmp .le 21, 3) := by decide +kernel
theorem dX7_findEdges_75 : decode cX7_findEdges 75 = .ok (.aload_n 0, 1) := by decide +kernel
theorem dX7_findEdges_76 : decode cX7_findEdges 76 = .ok (.iload_n 2, 1) := by decide +kernel
theorem dX7_findEdges_77 : decode cX7_findEdges 77 = .ok (.iload_n 3, 1) := by decide +kernel
theorem dX7_findEdges_78 : decode cX7_findEdges 78 = .ok (.aload_n 0, 1) := by decide +kernel
theorem dX7_findEdges_79 : decode cX7_findEdges 79 = .ok (.getfield 16, 3) := by decide +kernel
theorem dX7_findEdges_82 : decode cX7_findEdges 82 = .ok (.iload_n 1, 1) := by decide +kernel
theorem dX7_findEdges_83 : decode cX7_findEdges 83 = .ok (.iaload, 1) := by decide +kernel
theorem dX7_findEdges_84 : decode cX7_findEdges 84 = .ok (.ineg, 1) := by decide +kernel
theorem dX7_findEdges_85 : decode cX7_findEdges 85 = .ok (.i2l, 1) := by decide +kernel
theorem dX7_findEdges_86 : decode cX7_findEdges 86 = .ok (.iload_n 1, 1) := by decide +kernel
theorem dX7_findEdges_87 : decode cX7_findEdges 87 = .ok (.ineg, 1) := by decide +kernel
theorem dX7_findEdges_88 : decode cX7_findEdges 88 = .ok (.iconst 1, 1) := by decide +kernel
theorem dX7_findEdges_89 : decode cX7_findEdges 89 = .ok (.isub, 1) := by decide +kernel
theorem dX7_findEdges_90 : decode cX7_findEdges 90 = .ok (.invokevirtual 172, 3) := by decide +kernel
theorem dX7_findEdges_93 : decode cX7_findEdges 93 = .ok (.iinc 1 1, 3) := by decide +kernel
theorem dX7_findEdges_96 : decode cX7_findEdges 96 = .ok (.goto (-89), 3) := by decide +kernel
theorem dX7_findEdges_99 : decode cX7_findEdges 99 = .ok (.iconst 0, 1) := by decide +kernel
theorem dX7_findEdges_100 : decode cX7_findEdges 100 = .ok (.istore_n 1, 1) := by decide +kernel
theorem dX7_findEdges_101 : decode cX7_findEdges 101 = .ok (.iload_n 1, 1) := by decide +kernel
theorem dX7_findEdges_102 : decode cX7_findEdges 102 = .ok (.aload_n 0, 1) := by decide +kernel
theorem dX7_findEdges_103 : decode cX7_findEdges 103 = .ok (.getfield 85, 3) := by decide +kernel
theorem dX7_findEdges_106 : decode cX7_findEdges 106 = .ok (.if_icmp .ge 94, 3) := by decide +kernel
theorem dX7_findEdges_109 : decode cX7_findEdges 109 = .ok (.aload_n 0, 1) := by decide +kernel
theorem dX7_findEdges_110 : decode cX7_findEdges 110 = .ok (.getfield 19, 3) := by decide +kernel
theorem dX7_findEdges_113 : decode cX7_findEdges 113 = .ok (.iload_n 1, 1) := by decide +kernel
theorem dX7_findEdges_114 : decode cX7_findEdges 114 = .ok (.iaload, 1) := by decide +kernel
theorem dX7_findEdges_115 : decode cX7_findEdges 115 = .ok (.ifCond .ne 79, 3) := by decide +kernel
theorem dX7_findEdges_118 : decode cX7_findEdges 118 = .ok (.aload_n 0, 1) := by decide +kernel
theorem dX7_findEdges_119 : decode cX7_findEdges 119 = .ok (.getfield 42, 3) := by decide +kernel
theorem dX7_findEdges_122 : decode cX7_findEdges 122 = .ok (.iload_n 1, 1) := by decide +kernel
theorem dX7_findEdges_123 : decode cX7_findEdges 123 = .ok (.iaload, 1) := by decide +kernel
theorem dX7_findEdges_124 : decode cX7_findEdges 124 = .ok (.iconst 1, 1) := by decide +kernel
theorem dX7_findEdges_125 : decode cX7_findEdges 125 = .ok (.if_icmp .ne 7, 3) := by decide +kernel
theorem dX7_findEdges_128 : decode cX7_findEdges 128 = .ok (.iload_n 1, 1) := by decide +kernel
theorem dX7_findEdges_129 : decode cX7_findEdges 129 = .ok (.goto 7, 3) := by decide +kernel
theorem dX7_findEdges_132 : decode cX7_findEdges 132 = .ok (.aload_n 0, 1) := by decide +kernel
theorem dX7_findEdges_133 : decode cX7_findEdges 133 = .ok (.getfield 85, 3) := by decide +kernel
theorem dX7_findEdges_136 : decode cX7_findEdges 136 = .ok (.istore_n 2, 1) := by decide +kernel
theorem dX7_findEdges_137 : decode cX7_findEdges 137 = .ok (.aload_n 0, 1) := by decide +kernel
theorem dX7_findEdges_138 : decode cX7_findEdges 138 = .ok (.getfield 42, 3) := by decide +kernel
theorem dX7_findEdges_141 : decode cX7_findEdges 141 = .ok (.iload_n 1, 1) := by decide +kernel
theorem dX7_findEdges_142 : decode cX7_findEdges 142 = .ok (.iaload, 1) := by decide +kernel
theorem dX7_findEdges_143 : decode cX7_findEdges 143 = .ok (.iconst 1, 1) := by decide +kernel
theorem dX7_findEdges_144 : decode cX7_findEdges 144 = .ok (.if_icmp .ne 10, 3) := by decide +kernel
theorem dX7_findEdges_147 : decode cX7_findEdges 147 = .ok (.aload_n 0, 1) := by decide +kernel
theorem dX7_findEdges_148 : decode cX7_findEdges 148 = .ok (.getfield 85, 3) := by decide +kernel
theorem dX7_findEdges_151 : decode cX7_findEdges 151 = .ok (.goto 4, 3) := by decide +kernel
theorem dX7_findEdges_154 : decode cX7_findEdges 154 = .ok (.iload_n 1, 1) := by decide +kernel
theorem dX7_findEdges_155 : decode cX7_findEdges 155 = .ok (.istore_n 3, 1) := by decide +kernel
theorem dX7_findEdges_156 : decode cX7_findEdges 156 = .ok (.aload_n 0, 1) := by decide +kernel
theorem dX7_findEdges_157 : decode cX7_findEdges 157 = .ok (.iload_n 3, 1) := by decide +kernel
theorem dX7_findEdges_158 : decode cX7_findEdges 158 = .ok (.iload_n 2, 1) := by decide +kernel
theorem dX7_findEdges_159 : decode cX7_findEdges 159 = .ok (.lconst 0, 1) := by decide +kernel
theorem dX7_findEdges_160 : decode cX7_findEdges 160 = .ok (.bipush 100, 2) := by decide +kernel
theorem dX7_findEdges_162 : decode cX7_findEdges 162 = .ok (.iload_n 1, 1) := by decide +kernel
theorem dX7_findEdges_163 : decode cX7_findEdges 163 = .ok (.iadd, 1) := by decide +kernel
theorem dX7_findEdges_164 : decode cX7_findEdges 164 = .ok (.invokevirtual 172, 3) := by decide +kernel
theorem dX7_findEdges_167 : decode cX7_findEdges 167 = .ok (.aload_n 0, 1) := by decide +kernel
theorem dX7_findEdges_168 : decode cX7_findEdges 168 = .ok (.iload_n 1, 1) := by decide +kernel
theorem dX7_findEdges_169 : decode cX7_findEdges 169 = .ok (.invokevirtual 176, 3) := by decide +kernel
theorem dX7_findEdges_172 : decode cX7_findEdges 172 = .ok (.aload_n 0, 1) := by decide +kernel
theorem dX7_findEdges_173 : decode cX7_findEdges 173 = .ok (.getfield 22, 3) := by decide +kernel
theorem dX7_findEdges_176 : decode cX7_findEdges 176 = .ok (.iload_n 1, 1) := by decide +kernel
theorem dX7_findEdges_177 : decode cX7_findEdges 177 = .ok (.iaload, 1) := by decide +kernel
theorem dX7_findEdges_178 : decode cX7_findEdges 178 = .ok (.i2l, 1) := by decide +kernel
theorem dX7_findEdges_179 : decode cX7_findEdges 179 = .ok (.lcmp, 1) := by decide +kernel
theorem dX7_findEdges_180 : decode cX7_findEdges 180 = .ok (.ifCond .ge 14, 3) := by decide +kernel
theorem dX7_findEdges_183 : decode cX7_findEdges 183 = .ok (.aload_n 0, 1) := by decide +kernel
theorem dX7_findEdges_184 : decode cX7_findEdges 184 = .ok (.iload_n 2, 1) := by decide +kernel
theorem dX7_findEdges_185 : decode cX7_findEdges 185 = .ok (.iload_n 3, 1) := by decide +kernel
theorem dX7_findEdges_186 : decode cX7_findEdges 186 = .ok (.lconst 0, 1) := by decide +kernel
theorem dX7_findEdges_187 : decode cX7_findEdges 187 = .ok (.bipush (-100), 2) := by decide +kernel
theorem dX7_findEdges_189 : decode cX7_findEdges 189 = .ok (.iload_n 1, 1) := by decide +kernel
theorem dX7_findEdges_190 : decode cX7_findEdges 190 = .ok (.isub, 1) := by decide +kernel
theorem dX7_findEdges_191 : decode cX7_findEdges 191 = .ok (.invokevirtual 172, 3) := by decide +kernel
theorem dX7_findEdges_194 : decode cX7_findEdges 194 = .ok (.iinc 1 1, 3) := by decide +kernel
theorem dX7_findEdges_197 : decode cX7_findEdges 197 = .ok (.goto (-96), 3) := by decide +kernel
theorem dX7_findEdges_200 : decode cX7_findEdges 200 = .ok (.return_, 1) := by decide +kernel
theorem dX7_spread_0 : decode cX7_spread 0 = .ok (.iconst (-1), 1) := by decide +kernel
theorem dX7_spread_1 : decode cX7_spread 1 = .ok (.istore_n 1, 1) := by decide +kernel
theorem dX7_spread_2 : decode cX7_spread 2 = .ok (.iconst 0, 1) := by decide +kernel
theorem dX7_spread_3 : decode cX7_spread 3 = .ok (.istore_n 2, 1) := by decide +kernel
theorem dX7_spread_4 : decode cX7_spread 4 = .ok (.iload_n 2, 1) := by decide +kernel
theorem dX7_spread_5 : decode cX7_spread 5 = .ok (.aload_n 0, 1) := by decide +kernel
theorem dX7_spread_6 : decode cX7_spread 6 = .ok (.getfield 85, 3) := by decide +kernel
theorem dX7_spread_9 : decode cX7_spread 9 = .ok (.iconst 1, 1) := by decide +kernel
theorem dX7_spread_10 : decode cX7_spread 10 = .ok (.iadd, 1) := by decide +kernel
theorem dX7_spread_11 : decode cX7_spread 11 = .ok (.if_icmp .gt 109, 3) := by decide +kernel
theorem dX7_spread_14 : decode cX7_spread 14 = .ok (.iconst (-1), 1) := by decide +kernel
theorem dX7_spread_15 : decode cX7_spread 15 = .ok (.istore_n 1, 1) := by decide +kernel
theorem dX7_spread_16 : decode cX7_spread 16 = .ok (.iconst 0, 1) := by decide +kernel
theorem dX7_spread_17 : decode cX7_spread 17 = .ok (.istore_n 3, 1) := by decide +kernel
theorem dX7_spread_18 : decode cX7_spread 18 = .ok (.iload_n 3, 1) := by decide +kernel
theorem dX7_spread_19 : decode cX7_spread 19 = .ok (.aload_n 0, 1) := by decide +kernel
theorem dX7_spread_20 : decode cX7_spread 20 = .ok (.getfield 166, 3) := by decide +kernel
theorem dX7_spread_23 : decode cX7_spread 23 = .ok (.if_icmp .ge 91, 3) := by decide +kernel
theorem dX7_spread_26 : decode cX7_spread 26 = .ok (.aload_n 0, 1) := by decide +kernel
theorem dX7_spread_27 : decode cX7_spread 27 = .ok (.getfield 66, 3) := by decide +kernel
theorem dX7_spread_30 : decode cX7_spread 30 = .ok (.aload_n 0, 1) := by decide +kernel
theorem dX7_spread_31 : decode cX7_spread 31 = .ok (.getfield 54, 3) := by decide +kernel
theorem dX7_spread_34 : decode cX7_spread 34 = .ok (.iload_n 3, 1) := by decide +kernel
theorem dX7_spread_35 : decode cX7_spread 35 = .ok (.iaload, 1) := by decide +kernel
theorem dX7_spread_36 : decode cX7_spread 36 = .ok (.laload, 1) := by decide +kernel
theorem dX7_spread_37 : decode cX7_spread 37 = .ok (.aload_n 0, 1) := by decide +kernel
theorem dX7_spread_38 : decode cX7_spread 38 = .ok (.getfield 60, 3) := by decide +kernel
theorem dX7_spread_41 : decode cX7_spread 41 = .ok (.iload_n 3, 1) := by decide +kernel
theorem dX7_spread_42 : decode cX7_spread 42 = .ok (.laload, 1) := by decide +kernel
theorem dX7_spread_43 : decode cX7_spread 43 = .ok (.ladd, 1) := by decide +kernel
theorem dX7_spread_44 : decode cX7_spread 44 = .ok (.lstore 4, 2) := by decide +kernel
theorem dX7_spread_46 : decode cX7_spread 46 = .ok (.aload_n 0, 1) := by decide +kernel
theorem dX7_spread_47 : decode cX7_spread 47 = .ok (.getfield 66, 3) := by decide +kernel
theorem dX7_spread_50 : decode cX7_spread 50 = .ok (.aload_n 0, 1) := by decide +kernel
theorem dX7_spread_51 : decode cX7_spread 51 = .ok (.getfield 54, 3) := by decide +kernel
theorem dX7_spread_54 : decode cX7_spread 54 = .ok (.iload_n 3, 1) := by decide +kernel
theorem dX7_spread_55 : decode cX7_spread 55 = .ok (.iaload, 1) := by decide +kernel
theorem dX7_spread_56 : decode cX7_spread 56 = .ok (.laload, 1) := by decide +kernel
theorem dX7_spread_57 : decode cX7_spread 57 = .ok (.ldc2_w 180, 3) := by decide +kernel
theorem dX7_spread_60 : decode cX7_spread 60 = .ok (.lcmp, 1) := by decide +kernel
theorem dX7_spread_61 : decode cX7_spread 61 = .ok (.ifCond .ge 47, 3) := by decide +kernel
theorem dX7_spread_64 : decode cX7_spread 64 = .ok (.lload 4, 2) := by decide +kernel
theorem dX7_spread_66 : decode cX7_spread 66 = .ok (.aload_n 0, 1) := by decide +kernel
theorem dX7_spread_67 : decode cX7_spread 67 = .ok (.getfield 66, 3) := by decide +kernel
theorem dX7_spread_70 : decode cX7_spread 70 = .ok (.aload_n 0, 1) := by decide +kernel
theorem dX7_spread_71 : decode cX7_spread 71 = .ok (.getfield 57, 3) := by decide +kernel
theorem dX7_spread_74 : decode cX7_spread 74 = .ok (.iload_n 3, 1) := by decide +kernel
theorem dX7_spread_75 : decode cX7_spread 75 = .ok (.iaload, 1) := by decide +kernel
theorem dX7_spread_76 : decode cX7_spread 76 = .ok (.laload, 1) := by decide +kernel
theorem dX7_spread_77 : decode cX7_spread 77 = .ok (.lcmp, 1) := by decide +kernel
theorem dX7_spread_78 : decode cX7_spread 78 = .ok (.ifCond .ge 30, 3) := by decide +kernel
theorem dX7_spread_81 : decode cX7_spread 81 = .ok (.aload_n 0, 1) := by decide +kernel
theorem dX7_spread_82 : decode cX7_spread 82 = .ok (.getfield 66, 3) := by decide +kernel
theorem dX7_spread_85 : decode cX7_spread 85 = .ok (.aload_n 0, 1) := by decide +kernel
theorem dX7_spread_86 : decode cX7_spread 86 = .ok (.getfield 57, 3) := by decide +kernel
theorem dX7_spread_89 : decode cX7_spread 89 = .ok (.iload_n 3, 1) := by decide +kernel
theorem dX7_spread_90 : decode cX7_spread 90 = .ok (.iaload, 1) := by decide +kernel
theorem dX7_spread_91 : decode cX7_spread 91 = .ok (.lload 4, 2) := by decide +kernel
theorem dX7_spread_93 : decode cX7_spread 93 = .ok (.lastore, 1) := by decide +kernel
theorem dX7_spread_94 : decode cX7_spread 94 = .ok (.aload_n 0, 1) := by decide +kernel
theorem dX7_spread_95 : decode cX7_spread 95 = .ok (.getfield 69, 3) := by decide +kernel
theorem dX7_spread_98 : decode cX7_spread 98 = .ok (.aload_n 0, 1) := by decide +kernel
theorem dX7_spread_99 : decode cX7_spread 99 = .ok (.getfield 57, 3) := by decide +kernel
theorem dX7_spread_102 : decode cX7_spread 102 = .ok (.iload_n 3, 1) := by decide +kernel
theorem dX7_spread_103 : decode cX7_spread 103 = .ok (.iaload, 1) := by decide +kernel
theorem dX7_spread_104 : decode cX7_spread 104 = .ok (.iload_n 3, 1) := by decide +kernel
theorem dX7_spread_105 : decode cX7_spread 105 = .ok (.iastore, 1) := by decide +kernel
theorem dX7_spread_106 : decode cX7_spread 106 = .ok (.iload_n 3, 1) := by decide +kernel
theorem dX7_spread_107 : decode cX7_spread 107 = .ok (.istore_n 1, 1) := by decide +kernel
theorem dX7_spread_108 : decode cX7_spread 108 = .ok (.iinc 3 1, 3) := by decide +kernel
theorem dX7_spread_111 : decode cX7_spread 111 = .ok (.goto (-93), 3) := by decide +kernel
theorem dX7_spread_114 : decode cX7_spread 114 = .ok (.iinc 2 1, 3) := by decide +kernel
theorem dX7_spread_117 : decode cX7_spread 117 = .ok (.goto (-113), 3) := by decide +kernel
theorem dX7_spread_120 : decode cX7_spread 120 = .ok (.iload_n 1, 1) := by decide +kernel
theorem dX7_spread_121 : decode cX7_spread 121 = .ok (.ireturn, 1) := by decide +kernel
set_option maxRecDepth 20000 in
theorem ggX7_roomOf_X7_sumOf : GoodIn wsX7_roomOf wsX7_sumOf := goodIn_r _ [11, 12, 5, 13, 14, 15, 10, 16, 17, 18, 19, 20, 21, 22, 23, 24, 25, 26, 27, 28, 29, 30, 31, 32, 33, 34, 35, 36, 37, 38, 39, 40, 41, 42, 43, 44, 45] (by decide +kernel) (by decide +kernel)
set_option maxRecDepth 20000 in
theorem gX7_roomOf_X7_sumOf : GoodIn wsX7_roomOf (wsV RX7 176 RX7 yX7_sumOf wsX7_sumOf) := goodIn_app (goodIn_of _ (by decide +kernel)) ggX7_roomOf_X7_sumOf
theorem dX7_roomOf_0 : decode cX7_roomOf 0 = .ok (.aload_n 0, 1) := by decide +kernel
theorem dX7_roomOf_1 : decode cX7_roomOf 1 = .ok (.getfield 63, 3) := by decide +kernel
theorem dX7_roomOf_4 : decode cX7_roomOf 4 = .ok (.iload_n 1, 1) := by decide +kernel
theorem dX7_roomOf_5 : decode cX7_roomOf 5 = .ok (.iaload, 1) := by decide +kernel
theorem dX7_roomOf_6 : decode cX7_roomOf 6 = .ok (.istore_n 2, 1) := by decide +kernel
theorem dX7_roomOf_7 : decode cX7_roomOf 7 = .ok (.iload_n 2, 1) := by decide +kernel
theorem dX7_roomOf_8 : decode cX7_roomOf 8 = .ok (.bipush 100, 2) := by decide +kernel
theorem dX7_roomOf_10 : decode cX7_roomOf 10 = .ok (.if_icmp .lt 7, 3) := by decide +kernel
theorem dX7_roomOf_13 : decode cX7_roomOf 13 = .ok (.ldc2_w 180, 3) := by decide +kernel
theorem dX7_roomOf_16 : decode cX7_roomOf 16 = .ok (.lreturn, 1) := by decide +kernel
theorem dX7_roomOf_17 : decode cX7_roomOf 17 = .ok (.iload_n 2, 1) := by decide +kernel
theorem dX7_roomOf_18 : decode cX7_roomOf 18 = .ok (.bipush (-100), 2) := by decide +kernel
theorem dX7_roomOf_20 : decode cX7_roomOf 20 = .ok (.if_icmp .gt 25, 3) := by decide +kernel
theorem dX7_roomOf_23 : decode cX7_roomOf 23 = .ok (.aload_n 0, 1) := by decide +kernel
theorem dX7_roomOf_24 : decode cX7_roomOf 24 = .ok (.getfield 22, 3) := by decide +kernel
theorem dX7_roomOf_27 : decode cX7_roomOf 27 = .ok (.iload_n 2, 1) := by decide +kernel
theorem dX7_roomOf_28 : decode cX7_roomOf 28 = .ok (.ineg, 1) := by decide +kernel
theorem dX7_roomOf_29 : decode cX7_roomOf 29 = .ok (.bipush 100, 2) := by decide +kernel
theorem dX7_roomOf_31 : decode cX7_roomOf 31 = .ok (.isub, 1) := by decide +kernel
theorem dX7_roomOf_32 : decode cX7_roomOf 32 = .ok (.iaload, 1) := by decide +kernel
theorem dX7_roomOf_33 : decode cX7_roomOf 33 = .ok (.i2l, 1) := by decide +kernel
theorem dX7_roomOf_34 : decode cX7_roomOf 34 = .ok (.aload_n 0, 1) := by decide +kernel
theorem dX7_roomOf_35 : decode cX7_roomOf 35 = .ok (.iload_n 2, 1) := by decide +kernel
theorem dX7_roomOf_36 : decode cX7_roomOf 36 = .ok (.ineg, 1) := by decide +kernel
theorem dX7_roomOf_37 : decode cX7_roomOf 37 = .ok (.bipush 100, 2) := by decide +kernel
theorem dX7_roomOf_39 : decode cX7_roomOf 39 = .ok (.isub, 1) := by decide +kernel
theorem dX7_roomOf_40 : decode cX7_roomOf 40 = .ok (.invokevirtual 176, 3) := by decide +kernel
theorem dX7_roomOf_43 : decode cX7_roomOf 43 = .ok (.lsub, 1) := by decide +kernel
theorem dX7_roomOf_44 : decode cX7_roomOf 44 = .ok (.lreturn, 1) := by decide +kernel
theorem dX7_roomOf_45 : decode cX7_roomOf 45 = .ok (.iload_n 2, 1) := by decide +kernel
theorem dX7_roomOf_46 : decode cX7_roomOf 46 = .ok (.ifCond .le 24, 3) := by decide +kernel
theorem dX7_roomOf_49 : decode cX7_roomOf 49 = .ok (.aload_n 0, 1) := by decide +kernel
theorem dX7_roomOf_50 : decode cX7_roomOf 50 = .ok (.getfield 13, 3) := by decide +kernel
theorem dX7_roomOf_53 : decode cX7_roomOf 53 = .ok (.iload_n 2, 1) := by decide +kernel
theorem dX7_roomOf_54 : decode cX7_roomOf 54 = .ok (.iconst 1, 1) := by decide +kernel
theorem dX7_roomOf_55 : decode cX7_roomOf 55 = .ok (.isub, 1) := by decide +kernel
theorem dX7_roomOf_56 : decode cX7_roomOf 56 = .ok (.iaload, 1) := by decide +kernel
theorem dX7_roomOf_57 : decode cX7_roomOf 57 = .ok (.aload_n 0, 1) := by decide +kernel
theorem dX7_roomOf_58 : decode cX7_roomOf 58 = .ok (.getfield 32, 3) := by decide +kernel
theorem dX7_roomOf_61 : decode cX7_roomOf 61 = .ok (.iload_n 2, 1) := by decide +kernel
theorem dX7_roomOf_62 : decode cX7_roomOf 62 = .ok (.iconst 1, 1) := by decide +kernel
theorem dX7_roomOf_63 : decode cX7_roomOf 63 = .ok (.isub, 1) := by decide +kernel
theorem dX7_roomOf_64 : decode cX7_roomOf 64 = .ok (.iaload, 1) := by decide +kernel
theorem dX7_roomOf_65 : decode cX7_roomOf 65 = .ok (.isub, 1) := by decide +kernel
theorem dX7_roomOf_66 : decode cX7_roomOf 66 = .ok (.i2l, 1) := by decide +kernel
theorem dX7_roomOf_67 : decode cX7_roomOf 67 = .ok (.goto 23, 3) := by decide +kernel
theorem dX7_roomOf_70 : decode cX7_roomOf 70 = .ok (.aload_n 0, 1) := by decide +kernel
theorem dX7_roomOf_71 : decode cX7_roomOf 71 = .ok (.getfield 32, 3) := by decide +kernel
theorem dX7_roomOf_74 : decode cX7_roomOf 74 = .ok (.iload_n 2, 1) := by decide +kernel
theorem dX7_roomOf_75 : decode cX7_roomOf 75 = .ok (.ineg, 1) := by decide +kernel
theorem dX7_roomOf_76 : decode cX7_roomOf 76 = .ok (.iconst 1, 1) := by decide +kernel
theorem dX7_roomOf_77 : decode cX7_roomOf 77 = .ok (.isub, 1) := by decide +kernel
theorem dX7_roomOf_78 : decode cX7_roomOf 78 = .ok (.iaload, 1) := by decide +kernel
theorem dX7_roomOf_79 : decode cX7_roomOf 79 = .ok (.aload_n 0, 1) := by decide +kernel
theorem dX7_roomOf_80 : decode cX7_roomOf 80 = .ok (.getfield 7, 3) := by decide +kernel
theorem dX7_roomOf_83 : decode cX7_roomOf 83 = .ok (.iload_n 2, 1) := by decide +kernel
theorem dX7_roomOf_84 : decode cX7_roomOf 84 = .ok (.ineg, 1) := by decide +kernel
theorem dX7_roomOf_85 : decode cX7_roomOf 85 = .ok (.iconst 1, 1) := by decide +kernel
theorem dX7_roomOf_86 : decode cX7_roomOf 86 = .ok (.isub, 1) := by decide +kernel
theorem dX7_roomOf_87 : decode cX7_roomOf 87 = .ok (.iaload, 1) := by decide +kernel
theorem dX7_roomOf_88 : decode cX7_roomOf 88 = .ok (.isub, 1) := by decide +kernel
theorem dX7_roomOf_89 : decode cX7_roomOf 89 = .ok (.i2l, 1) := by decide +kernel
theorem dX7_roomOf_90 : decode cX7_roomOf 90 = .ok (.lreturn, 1) := by decide +kernel
set_option maxRecDepth 20000 in
theorem ggX7_turn_X7_roomOf : GoodIn wsX7_turn wsX7_roomOf := goodIn_r _ [12, 6, 5, 13, 14, 7, 15, 16, 17, 18, 11, 19, 20, 21, 22, 23, 24, 25, 26, 27, 28, 29, 30, 31, 32, 33, 34, 35, 36, 37, 38, 39, 40, 41, 42, 43, 44, 45, 46, 47, 48, 49, 50, 51, 52, 53] (by decide +kernel) (by decide +kernel)
set_option maxRecDepth 20000 in
theorem gX7_turn_X7_roomOf : GoodIn wsX7_turn (wsV RX7 182 RX7 yX7_roomOf wsX7_roomOf) := goodIn_app (goodIn_of _ (by decide +kernel)) ggX7_turn_X7_roomOf
theorem dX7_turn_0 : decode cX7_turn 0 = .ok (.aload_n 0, 1) := by decide +kernel
theorem dX7_turn_1 : decode cX7_turn 1 = .ok (.getfield 57, 3) := by decide +kernel
theorem dX7_turn_4 : decode cX7_turn 4 = .ok (.iload_n 1, 1) := by decide +kernel
theorem dX7_turn_5 : decode cX7_turn 5 = .ok (.iaload, 1) := by decide +kernel
theorem dX7_turn_6 : decode cX7_turn 6 = .ok (.istore_n 2, 1) := by decide +kernel
theorem dX7_turn_7 : decode cX7_turn 7 = .ok (.iconst 0, 1) := by decide +kernel
theorem dX7_turn_8 : decode cX7_turn 8 = .ok (.istore_n 3, 1) := by decide +kernel
theorem dX7_turn_9 : decode cX7_turn 9 = .ok (.iload_n 3, 1) := by decide +kernel
theorem dX7_turn_10 : decode cX7_turn 10 = .ok (.aload_n 0, 1) := by decide +kernel
theorem dX7_turn_11 : decode cX7_turn 11 = .ok (.getfield 85, 3) := by decide +kernel
theorem dX7_turn_14 : decode cX7_turn 14 = .ok (.iconst 1, 1) := by decide +kernel
theorem dX7_turn_15 : decode cX7_turn 15 = .ok (.iadd, 1) := by decide +kernel
theorem dX7_turn_16 : decode cX7_turn 16 = .ok (.if_icmp .gt 21, 3) := by decide +kernel
theorem dX7_turn_19 : decode cX7_turn 19 = .ok (.aload_n 0, 1) := by decide +kernel
theorem dX7_turn_20 : decode cX7_turn 20 = .ok (.getfield 54, 3) := by decide +kernel
theorem dX7_turn_23 : decode cX7_turn 23 = .ok (.aload_n 0, 1) := by decide +kernel
theorem dX7_turn_24 : decode cX7_turn 24 = .ok (.getfield 69, 3) := by decide +kernel
theorem dX7_turn_27 : decode cX7_turn 27 = .ok (.iload_n 2, 1) := by decide +kernel
theorem dX7_turn_28 : decode cX7_turn 28 = .ok (.iaload, 1) := by decide +kernel
theorem dX7_turn_29 : decode cX7_turn 29 = .ok (.iaload, 1) := by decide +kernel
theorem dX7_turn_30 : decode cX7_turn 30 = .ok (.istore_n 2, 1) := by decide +kernel
theorem dX7_turn_31 : decode cX7_turn 31 = .ok (.iinc 3 1, 3) := by decide +kernel
theorem dX7_turn_34 : decode cX7_turn 34 = .ok (.goto (-25), 3) := by decide +kernel
theorem dX7_turn_37 : decode cX7_turn 37 = .ok (.ldc2_w 180, 3) := by decide +kernel
theorem dX7_turn_40 : decode cX7_turn 40 = .ok (.lstore_n 3, 1) := by decide +kernel
theorem dX7_turn_41 : decode cX7_turn 41 = .ok (.iload_n 2, 1) := by decide +kernel
theorem dX7_turn_42 : decode cX7_turn 42 = .ok (.istore 5, 2) := by decide +kernel
theorem dX7_turn_44 : decode cX7_turn 44 = .ok (.iconst 0, 1) := by decide +kernel
theorem dX7_turn_45 : decode cX7_turn 45 = .ok (.istore 6, 2) := by decide +kernel
theorem dX7_turn_47 : decode cX7_turn 47 = .ok (.iload 6, 2) := by decide +kernel
theorem dX7_turn_49 : decode cX7_turn 49 = .ok (.aload_n 0, 1) := by decide +kernel
theorem dX7_turn_50 : decode cX7_turn 50 = .ok (.getfield 85, 3) := by decide +kernel
theorem dX7_turn_53 : decode cX7_turn 53 = .ok (.if_icmp .gt 58, 3) := by decide +kernel
theorem dX7_turn_56 : decode cX7_turn 56 = .ok (.iload 6, 2) := by decide +kernel
theorem dX7_turn_58 : decode cX7_turn 58 = .ok (.ifCond .eq 9, 3) := by decide +kernel
theorem dX7_turn_61 : decode cX7_turn 61 = .ok (.iload_n 2, 1) := by decide +kernel
theorem dX7_turn_62 : decode cX7_turn 62 = .ok (.iload 5, 2) := by decide +kernel
theorem dX7_turn_64 : decode cX7_turn 64 = .ok (.if_icmp .eq 47, 3) := by decide +kernel
theorem dX7_turn_67 : decode cX7_turn 67 = .ok (.aload_n 0, 1) := by decide +kernel
theorem dX7_turn_68 : decode cX7_turn 68 = .ok (.aload_n 0, 1) := by decide +kernel
theorem dX7_turn_69 : decode cX7_turn 69 = .ok (.getfield 69, 3) := by decide +kernel
theorem dX7_turn_72 : decode cX7_turn 72 = .ok (.iload_n 2, 1) := by decide +kernel
theorem dX7_turn_73 : decode cX7_turn 73 = .ok (.iaload, 1) := by decide +kernel
theorem dX7_turn_74 : decode cX7_turn 74 = .ok (.invokevirtual 182, 3) := by decide +kernel
theorem dX7_turn_77 : decode cX7_turn 77 = .ok (.lstore 7, 2) := by decide +kernel
theorem dX7_turn_79 : decode cX7_turn 79 = .ok (.lload 7, 2) := by decide +kernel
theorem dX7_turn_81 : decode cX7_turn 81 = .ok (.lload_n 3, 1) := by decide +kernel
theorem dX7_turn_82 : decode cX7_turn 82 = .ok (.lcmp, 1) := by decide +kernel
theorem dX7_turn_83 : decode cX7_turn 83 = .ok (.ifCond .ge 8, 3) := by decide +kernel
theorem dX7_turn_86 : decode cX7_turn 86 = .ok (.lload 7, 2) := by decide +kernel
theorem dX7_turn_88 : decode cX7_turn 88 = .ok (.goto 4, 3) := by decide +kernel
theorem dX7_turn_91 : decode cX7_turn 91 = .ok (.lload_n 3, 1) := by decide +kernel
theorem dX7_turn_92 : decode cX7_turn 92 = .ok (.lstore_n 3, 1) := by decide +kernel
theorem dX7_turn_93 : decode cX7_turn 93 = .ok (.aload_n 0, 1) := by decide +kernel
theorem dX7_turn_94 : decode cX7_turn 94 = .ok (.getfield 54, 3) := by decide +kernel
theorem dX7_turn_97 : decode cX7_turn 97 = .ok (.aload_n 0, 1) := by decide +kernel
theorem dX7_turn_98 : decode cX7_turn 98 = .ok (.getfield 69, 3) := by decide +kernel
theorem dX7_turn_101 : decode cX7_turn 101 = .ok (.iload_n 2, 1) := by decide +kernel
theorem dX7_turn_102 : decode cX7_turn 102 = .ok (.iaload, 1) := by decide +kernel
theorem dX7_turn_103 : decode cX7_turn 103 = .ok (.iaload, 1) := by decide +kernel
theorem dX7_turn_104 : decode cX7_turn 104 = .ok (.istore_n 2, 1) := by decide +kernel
theorem dX7_turn_105 : decode cX7_turn 105 = .ok (.iinc 6 1, 3) := by decide +kernel
theorem dX7_turn_108 : decode cX7_turn 108 = .ok (.goto (-61), 3) := by decide +kernel
theorem dX7_turn_111 : decode cX7_turn 111 = .ok (.iload 5, 2) := by decide +kernel
theorem dX7_turn_113 : decode cX7_turn 113 = .ok (.istore_n 2, 1) := by decide +kernel
theorem dX7_turn_114 : decode cX7_turn 114 = .ok (.iconst 0, 1) := by decide +kernel
theorem dX7_turn_115 : decode cX7_turn 115 = .ok (.istore 6, 2) := by decide +kernel
theorem dX7_turn_117 : decode cX7_turn 117 = .ok (.iload 6, 2) := by decide +kernel
theorem dX7_turn_119 : decode cX7_turn 119 = .ok (.aload_n 0, 1) := by decide +kernel
theorem dX7_turn_120 : decode cX7_turn 120 = .ok (.getfield 85, 3) := by decide +kernel
theorem dX7_turn_123 : decode cX7_turn 123 = .ok (.if_icmp .gt 101, 3) := by decide +kernel
theorem dX7_turn_126 : decode cX7_turn 126 = .ok (.iload 6, 2) := by decide +kernel
theorem dX7_turn_128 : decode cX7_turn 128 = .ok (.ifCond .eq 9, 3) := by decide +kernel
theorem dX7_turn_131 : decode cX7_turn 131 = .ok (.iload_n 2, 1) := by decide +kernel
