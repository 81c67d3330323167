theorem dX7_turn_132 : decode cX7_turn 132 = .ok (.iload 5, 2) := by decide +kernel
theorem dX7_turn_134 : decode cX7_turn 134 = .ok (.if_icmp .eq 90, 3) := by decide +kernel
theorem dX7_turn_137 : decode cX7_turn 137 = .ok (.aload_n 0, 1) := by decide +kernel
theorem dX7_turn_138 : decode cX7_turn 138 = .ok (.getfield 63, 3) := by decide +kernel
theorem dX7_turn_141 : decode cX7_turn 141 = .ok (.aload_n 0, 1) := by decide +kernel
theorem dX7_turn_142 : decode cX7_turn 142 = .ok (.getfield 69, 3) := by decide +kernel
theorem dX7_turn_145 : decode cX7_turn 145 = .ok (.iload_n 2, 1) := by decide +kernel
theorem dX7_turn_146 : decode cX7_turn 146 = .ok (.iaload, 1) := by decide +kernel
theorem dX7_turn_147 : decode cX7_turn 147 = .ok (.iaload, 1) := by decide +kernel
theorem dX7_turn_148 : decode cX7_turn 148 = .ok (.istore 7, 2) := by decide +kernel
theorem dX7_turn_150 : decode cX7_turn 150 = .ok (.iload 7, 2) := by decide +kernel
theorem dX7_turn_152 : decode cX7_turn 152 = .ok (.ifCond .le 27, 3) := by decide +kernel
theorem dX7_turn_155 : decode cX7_turn 155 = .ok (.iload 7, 2) := by decide +kernel
theorem dX7_turn_157 : decode cX7_turn 157 = .ok (.bipush 100, 2) := by decide +kernel
theorem dX7_turn_159 : decode cX7_turn 159 = .ok (.if_icmp .ge 20, 3) := by decide +kernel
theorem dX7_turn_162 : decode cX7_turn 162 = .ok (.aload_n 0, 1) := by decide +kernel
theorem dX7_turn_163 : decode cX7_turn 163 = .ok (.getfield 32, 3) := by decide +kernel
theorem dX7_turn_166 : decode cX7_turn 166 = .ok (.iload 7, 2) := by decide +kernel
theorem dX7_turn_168 : decode cX7_turn 168 = .ok (.iconst 1, 1) := by decide +kernel
theorem dX7_turn_169 : decode cX7_turn 169 = .ok (.isub, 1) := by decide +kernel
theorem dX7_turn_170 : decode cX7_turn 170 = .ok (.dup2, 1) := by decide +kernel
theorem dX7_turn_171 : decode cX7_turn 171 = .ok (.iaload, 1) := by decide +kernel
theorem dX7_turn_172 : decode cX7_turn 172 = .ok (.lload_n 3, 1) := by decide +kernel
theorem dX7_turn_173 : decode cX7_turn 173 = .ok (.l2i, 1) := by decide +kernel
theorem dX7_turn_174 : decode cX7_turn 174 = .ok (.iadd, 1) := by decide +kernel
theorem dX7_turn_175 : decode cX7_turn 175 = .ok (.iastore, 1) := by decide +kernel
theorem dX7_turn_176 : decode cX7_turn 176 = .ok (.goto 30, 3) := by decide +kernel
theorem dX7_turn_179 : decode cX7_turn 179 = .ok (.iload 7, 2) := by decide +kernel
theorem dX7_turn_181 : decode cX7_turn 181 = .ok (.ifCond .ge 25, 3) := by decide +kernel
theorem dX7_turn_184 : decode cX7_turn 184 = .ok (.iload 7, 2) := by decide +kernel
theorem dX7_turn_186 : decode cX7_turn 186 = .ok (.bipush (-100), 2) := by decide +kernel
theorem dX7_turn_188 : decode cX7_turn 188 = .ok (.if_icmp .le 18, 3) := by decide +kernel
theorem dX7_turn_191 : decode cX7_turn 191 = .ok (.aload_n 0, 1) := by decide +kernel
theorem dX7_turn_192 : decode cX7_turn 192 = .ok (.getfield 32, 3) := by decide +kernel
theorem dX7_turn_195 : decode cX7_turn 195 = .ok (.iload 7, 2) := by decide +kernel
theorem dX7_turn_197 : decode cX7_turn 197 = .ok (.ineg, 1) := by decide +kernel
theorem dX7_turn_198 : decode cX7_turn 198 = .ok (.iconst 1, 1) := by decide +kernel
theorem dX7_turn_199 : decode cX7_turn 199 = .ok (.isub, 1) := by decide +kernel
theorem dX7_turn_200 : decode cX7_turn 200 = .ok (.dup2, 1) := by decide +kernel
theorem dX7_turn_201 : decode cX7_turn 201 = .ok (.iaload, 1) := by decide +kernel
theorem dX7_turn_202 : decode cX7_turn 202 = .ok (.lload_n 3, 1) := by decide +kernel
theorem dX7_turn_203 : decode cX7_turn 203 = .ok (.l2i, 1) := by decide +kernel
theorem dX7_turn_204 : decode cX7_turn 204 = .ok (.isub, 1) := by decide +kernel
theorem dX7_turn_205 : decode cX7_turn 205 = .ok (.iastore, 1) := by decide +kernel
theorem dX7_turn_206 : decode cX7_turn 206 = .ok (.aload_n 0, 1) := by decide +kernel
theorem dX7_turn_207 : decode cX7_turn 207 = .ok (.getfield 54, 3) := by decide +kernel
theorem dX7_turn_210 : decode cX7_turn 210 = .ok (.aload_n 0, 1) := by decide +kernel
theorem dX7_turn_211 : decode cX7_turn 211 = .ok (.getfield 69, 3) := by decide +kernel
theorem dX7_turn_214 : decode cX7_turn 214 = .ok (.iload_n 2, 1) := by decide +kernel
theorem dX7_turn_215 : decode cX7_turn 215 = .ok (.iaload, 1) := by decide +kernel
theorem dX7_turn_216 : decode cX7_turn 216 = .ok (.iaload, 1) := by decide +kernel
theorem dX7_turn_217 : decode cX7_turn 217 = .ok (.istore_n 2, 1) := by decide +kernel
theorem dX7_turn_218 : decode cX7_turn 218 = .ok (.iinc 6 1, 3) := by decide +kernel
theorem dX7_turn_221 : decode cX7_turn 221 = .ok (.goto (-104), 3) := by decide +kernel
theorem dX7_turn_224 : decode cX7_turn 224 = .ok (.return_, 1) := by decide +kernel
theorem dX7_nothingFar_0 : decode cX7_nothingFar 0 = .ok (.iconst 0, 1) := by decide +kernel
theorem dX7_nothingFar_1 : decode cX7_nothingFar 1 = .ok (.istore_n 1, 1) := by decide +kernel
theorem dX7_nothingFar_2 : decode cX7_nothingFar 2 = .ok (.iload_n 1, 1) := by decide +kernel
theorem dX7_nothingFar_3 : decode cX7_nothingFar 3 = .ok (.bipush 9, 2) := by decide +kernel
theorem dX7_nothingFar_5 : decode cX7_nothingFar 5 = .ok (.if_icmp .ge 23, 3) := by decide +kernel
theorem dX7_nothingFar_8 : decode cX7_nothingFar 8 = .ok (.aload_n 0, 1) := by decide +kernel
theorem dX7_nothingFar_9 : decode cX7_nothingFar 9 = .ok (.getfield 66, 3) := by decide +kernel
theorem dX7_nothingFar_12 : decode cX7_nothingFar 12 = .ok (.iload_n 1, 1) := by decide +kernel
theorem dX7_nothingFar_13 : decode cX7_nothingFar 13 = .ok (.lconst 0, 1) := by decide +kernel
theorem dX7_nothingFar_14 : decode cX7_nothingFar 14 = .ok (.lastore, 1) := by decide +kernel
theorem dX7_nothingFar_15 : decode cX7_nothingFar 15 = .ok (.aload_n 0, 1) := by decide +kernel
theorem dX7_nothingFar_16 : decode cX7_nothingFar 16 = .ok (.getfield 69, 3) := by decide +kernel
theorem dX7_nothingFar_19 : decode cX7_nothingFar 19 = .ok (.iload_n 1, 1) := by decide +kernel
theorem dX7_nothingFar_20 : decode cX7_nothingFar 20 = .ok (.iconst 0, 1) := by decide +kernel
theorem dX7_nothingFar_21 : decode cX7_nothingFar 21 = .ok (.iastore, 1) := by decide +kernel
theorem dX7_nothingFar_22 : decode cX7_nothingFar 22 = .ok (.iinc 1 1, 3) := by decide +kernel
theorem dX7_nothingFar_25 : decode cX7_nothingFar 25 = .ok (.goto (-23), 3) := by decide +kernel
theorem dX7_nothingFar_28 : decode cX7_nothingFar 28 = .ok (.return_, 1) := by decide +kernel
set_option maxRecDepth 20000 in
theorem ggX7_improve_X7_findEdges : GoodIn wsX7_improve wsX7_findEdges := goodIn_r _ [6, 7, 8, 9, 10, 11, 12, 13, 14, 15, 16, 17, 18, 19, 5, 20, 21, 22, 23, 24, 25, 26, 27, 28, 29, 30, 31, 32, 33, 34, 35, 36, 37, 57, 58, 59, 60, 61, 62, 63, 64, 65, 66, 67, 68, 69, 70, 71, 72, 73, 74, 75, 76, 77, 78, 79, 80, 81, 82, 83, 84] (by decide +kernel) (by decide +kernel)
set_option maxRecDepth 20000 in
theorem gX7_improve_X7_findEdges : GoodIn wsX7_improve (wsV RX7 186 RX7 yX7_findEdges wsX7_findEdges) := goodIn_app (goodIn_of _ (by decide +kernel)) ggX7_improve_X7_findEdges
set_option maxRecDepth 20000 in
theorem ggX7_improve_X7_nothingFar : GoodIn wsX7_improve wsX7_nothingFar := goodIn_r _ [41, 42, 43, 57, 58, 59, 60, 61, 62, 63, 64, 65, 66, 67, 68, 69, 70, 71, 72, 73, 74, 75, 76, 77, 78, 79, 80, 81, 82, 83, 84] (by decide +kernel) (by decide +kernel)
set_option maxRecDepth 20000 in
theorem gX7_improve_X7_nothingFar : GoodIn wsX7_improve (wsV RX7 189 RX7 yX7_nothingFar wsX7_nothingFar) := goodIn_app (goodIn_of _ (by decide +kernel)) ggX7_improve_X7_nothingFar
set_option maxRecDepth 20000 in
theorem ggX7_improve_X7_spread : GoodIn wsX7_improve wsX7_spread := goodIn_r _ [47, 13, 7, 42, 30, 32, 48, 31, 43, 57, 58, 59, 60, 61, 62, 63, 64, 65, 66, 67, 68, 69, 70, 71, 72, 73, 74, 75, 76, 77, 78, 79, 80, 81, 82, 83, 84] (by decide +kernel) (by decide +kernel)
set_option maxRecDepth 20000 in
theorem gX7_improve_X7_spread : GoodIn wsX7_improve (wsV RX7 192 RX7 yX7_spread wsX7_spread) := goodIn_app (goodIn_of _ (by decide +kernel)) ggX7_improve_X7_spread
set_option maxRecDepth 20000 in
theorem ggX7_improve_X7_turn : GoodIn wsX7_improve wsX7_turn := goodIn_r _ [52, 31, 13, 30, 43, 48, 33, 9, 53, 54, 55, 5, 56, 16, 10, 12, 34, 35, 36, 37, 8, 21, 22, 23, 24, 25, 57, 58, 59, 60, 61, 62, 63, 64, 65, 66, 67, 68, 69, 70, 71, 72, 73, 74, 75, 76, 77, 78, 79, 80, 81, 82, 83, 84] (by decide +kernel) (by decide +kernel)
set_option maxRecDepth 20000 in
theorem gX7_improve_X7_turn : GoodIn wsX7_improve (wsV RX7 195 RX7 yX7_turn wsX7_turn) := goodIn_app (goodIn_of _ (by decide +kernel)) ggX7_improve_X7_turn
theorem dX7_improve_0 : decode cX7_improve 0 = .ok (.iconst 1, 1) := by decide +kernel
theorem dX7_improve_1 : decode cX7_improve 1 = .ok (.istore_n 1, 1) := by decide +kernel
theorem dX7_improve_2 : decode cX7_improve 2 = .ok (.iconst 0, 1) := by decide +kernel
theorem dX7_improve_3 : decode cX7_improve 3 = .ok (.istore_n 2, 1) := by decide +kernel
theorem dX7_improve_4 : decode cX7_improve 4 = .ok (.iload_n 2, 1) := by decide +kernel
theorem dX7_improve_5 : decode cX7_improve 5 = .ok (.ldc 185, 2) := by decide +kernel
theorem dX7_improve_7 : decode cX7_improve 7 = .ok (.if_icmp .ge 46, 3) := by decide +kernel
theorem dX7_improve_10 : decode cX7_improve 10 = .ok (.iload_n 1, 1) := by decide +kernel
theorem dX7_improve_11 : decode cX7_improve 11 = .ok (.ifCond .eq 42, 3) := by decide +kernel
theorem dX7_improve_14 : decode cX7_improve 14 = .ok (.aload_n 0, 1) := by decide +kernel
theorem dX7_improve_15 : decode cX7_improve 15 = .ok (.invokevirtual 186, 3) := by decide +kernel
theorem dX7_improve_18 : decode cX7_improve 18 = .ok (.aload_n 0, 1) := by decide +kernel
theorem dX7_improve_19 : decode cX7_improve 19 = .ok (.invokevirtual 189, 3) := by decide +kernel
theorem dX7_improve_22 : decode cX7_improve 22 = .ok (.aload_n 0, 1) := by decide +kernel
theorem dX7_improve_23 : decode cX7_improve 23 = .ok (.invokevirtual 192, 3) := by decide +kernel
theorem dX7_improve_26 : decode cX7_improve 26 = .ok (.istore_n 3, 1) := by decide +kernel
theorem dX7_improve_27 : decode cX7_improve 27 = .ok (.iload_n 3, 1) := by decide +kernel
theorem dX7_improve_28 : decode cX7_improve 28 = .ok (.iconst (-1), 1) := by decide +kernel
theorem dX7_improve_29 : decode cX7_improve 29 = .ok (.if_icmp .eq 7, 3) := by decide +kernel
theorem dX7_improve_32 : decode cX7_improve 32 = .ok (.iconst 1, 1) := by decide +kernel
theorem dX7_improve_33 : decode cX7_improve 33 = .ok (.goto 4, 3) := by decide +kernel
theorem dX7_improve_36 : decode cX7_improve 36 = .ok (.iconst 0, 1) := by decide +kernel
theorem dX7_improve_37 : decode cX7_improve 37 = .ok (.istore_n 1, 1) := by decide +kernel
theorem dX7_improve_38 : decode cX7_improve 38 = .ok (.iload_n 1, 1) := by decide +kernel
theorem dX7_improve_39 : decode cX7_improve 39 = .ok (.ifCond .eq 8, 3) := by decide +kernel
theorem dX7_improve_42 : decode cX7_improve 42 = .ok (.aload_n 0, 1) := by decide +kernel
theorem dX7_improve_43 : decode cX7_improve 43 = .ok (.iload_n 3, 1) := by decide +kernel
theorem dX7_improve_44 : decode cX7_improve 44 = .ok (.invokevirtual 195, 3) := by decide +kernel
theorem dX7_improve_47 : decode cX7_improve 47 = .ok (.iinc 2 1, 3) := by decide +kernel
theorem dX7_improve_50 : decode cX7_improve 50 = .ok (.goto (-46), 3) := by decide +kernel
theorem dX7_improve_53 : decode cX7_improve 53 = .ok (.return_, 1) := by decide +kernel
set_option maxRecDepth 20000 in
theorem ggX7_keepBest_X7_begin : GoodIn wsX7_keepBest wsX7_begin := goodIn_r _ [13, 1, 5, 14, 4, 15, 6, 7, 8, 26, 27, 28, 29, 30, 31, 32, 33, 34, 35, 36, 37, 38, 39, 40, 41, 42, 43, 44, 45, 46, 47, 48, 49, 50, 51, 52, 53] (by decide +kernel) (by decide +kernel)
set_option maxRecDepth 20000 in
theorem gX7_keepBest_X7_begin : GoodIn wsX7_keepBest (wsV RX7 198 RX7 yX7_begin wsX7_begin) := goodIn_app (goodIn_of _ (by decide +kernel)) ggX7_keepBest_X7_begin
set_option maxRecDepth 20000 in
theorem ggX7_keepBest_X7_endOf : GoodIn wsX7_keepBest wsX7_endOf := goodIn_r _ [19, 6, 20, 21, 22, 23, 12, 24, 25, 26, 27, 28, 29, 30, 31, 32, 33, 34, 35, 36, 37, 38, 39, 40, 41, 42, 43, 44, 45, 46, 47, 48, 49, 50, 51, 52, 53] (by decide +kernel) (by decide +kernel)
set_option maxRecDepth 20000 in
theorem gX7_keepBest_X7_endOf : GoodIn wsX7_keepBest (wsV RX7 169 RX7 yX7_endOf wsX7_endOf) := goodIn_app (goodIn_of _ (by decide +kernel)) ggX7_keepBest_X7_endOf
theorem dX7_keepBest_0 : decode cX7_keepBest 0 = .ok (.aload_n 0, 1) := by decide +kernel
theorem dX7_keepBest_1 : decode cX7_keepBest 1 = .ok (.invokevirtual 198, 3) := by decide +kernel
theorem dX7_keepBest_4 : decode cX7_keepBest 4 = .ok (.iconst 0, 1) := by decide +kernel
theorem dX7_keepBest_5 : decode cX7_keepBest 5 = .ok (.istore_n 1, 1) := by decide +kernel
theorem dX7_keepBest_6 : decode cX7_keepBest 6 = .ok (.iload_n 1, 1) := by decide +kernel
theorem dX7_keepBest_7 : decode cX7_keepBest 7 = .ok (.aload_n 0, 1) := by decide +kernel
theorem dX7_keepBest_8 : decode cX7_keepBest 8 = .ok (.getfield 78, 3) := by decide +kernel
theorem dX7_keepBest_11 : decode cX7_keepBest 11 = .ok (.if_icmp .ge 80, 3) := by decide +kernel
theorem dX7_keepBest_14 : decode cX7_keepBest 14 = .ok (.aload_n 0, 1) := by decide +kernel
theorem dX7_keepBest_15 : decode cX7_keepBest 15 = .ok (.getfield 16, 3) := by decide +kernel
theorem dX7_keepBest_18 : decode cX7_keepBest 18 = .ok (.iload_n 1, 1) := by decide +kernel
theorem dX7_keepBest_19 : decode cX7_keepBest 19 = .ok (.iaload, 1) := by decide +kernel
theorem dX7_keepBest_20 : decode cX7_keepBest 20 = .ok (.i2l, 1) := by decide +kernel
theorem dX7_keepBest_21 : decode cX7_keepBest 21 = .ok (.aload_n 0, 1) := by decide +kernel
theorem dX7_keepBest_22 : decode cX7_keepBest 22 = .ok (.getfield 66, 3) := by decide +kernel
theorem dX7_keepBest_25 : decode cX7_keepBest 25 = .ok (.aload_n 0, 1) := by decide +kernel
theorem dX7_keepBest_26 : decode cX7_keepBest 26 = .ok (.iload_n 1, 1) := by decide +kernel
theorem dX7_keepBest_27 : decode cX7_keepBest 27 = .ok (.iconst 1, 1) := by decide +kernel
theorem dX7_keepBest_28 : decode cX7_keepBest 28 = .ok (.invokevirtual 169, 3) := by decide +kernel
theorem dX7_keepBest_31 : decode cX7_keepBest 31 = .ok (.laload, 1) := by decide +kernel
theorem dX7_keepBest_32 : decode cX7_keepBest 32 = .ok (.lsub, 1) := by decide +kernel
theorem dX7_keepBest_33 : decode cX7_keepBest 33 = .ok (.aload_n 0, 1) := by decide +kernel
theorem dX7_keepBest_34 : decode cX7_keepBest 34 = .ok (.getfield 66, 3) := by decide +kernel
theorem dX7_keepBest_37 : decode cX7_keepBest 37 = .ok (.aload_n 0, 1) := by decide +kernel
theorem dX7_keepBest_38 : decode cX7_keepBest 38 = .ok (.iload_n 1, 1) := by decide +kernel
theorem dX7_keepBest_39 : decode cX7_keepBest 39 = .ok (.iconst (-1), 1) := by decide +kernel
theorem dX7_keepBest_40 : decode cX7_keepBest 40 = .ok (.invokevirtual 169, 3) := by decide +kernel
theorem dX7_keepBest_43 : decode cX7_keepBest 43 = .ok (.laload, 1) := by decide +kernel
theorem dX7_keepBest_44 : decode cX7_keepBest 44 = .ok (.ladd, 1) := by decide +kernel
theorem dX7_keepBest_45 : decode cX7_keepBest 45 = .ok (.lstore_n 2, 1) := by decide +kernel
theorem dX7_keepBest_46 : decode cX7_keepBest 46 = .ok (.lload_n 2, 1) := by decide +kernel
theorem dX7_keepBest_47 : decode cX7_keepBest 47 = .ok (.lconst 0, 1) := by decide +kernel
theorem dX7_keepBest_48 : decode cX7_keepBest 48 = .ok (.lcmp, 1) := by decide +kernel
theorem dX7_keepBest_49 : decode cX7_keepBest 49 = .ok (.ifCond .le 18, 3) := by decide +kernel
theorem dX7_keepBest_52 : decode cX7_keepBest 52 = .ok (.aload_n 0, 1) := by decide +kernel
theorem dX7_keepBest_53 : decode cX7_keepBest 53 = .ok (.getfield 48, 3) := by decide +kernel
theorem dX7_keepBest_56 : decode cX7_keepBest 56 = .ok (.iload_n 1, 1) := by decide +kernel
theorem dX7_keepBest_57 : decode cX7_keepBest 57 = .ok (.aload_n 0, 1) := by decide +kernel
theorem dX7_keepBest_58 : decode cX7_keepBest 58 = .ok (.getfield 45, 3) := by decide +kernel
theorem dX7_keepBest_61 : decode cX7_keepBest 61 = .ok (.iload_n 1, 1) := by decide +kernel
theorem dX7_keepBest_62 : decode cX7_keepBest 62 = .ok (.iaload, 1) := by decide +kernel
theorem dX7_keepBest_63 : decode cX7_keepBest 63 = .ok (.iastore, 1) := by decide +kernel
theorem dX7_keepBest_64 : decode cX7_keepBest 64 = .ok (.goto 21, 3) := by decide +kernel
theorem dX7_keepBest_67 : decode cX7_keepBest 67 = .ok (.lload_n 2, 1) := by decide +kernel
theorem dX7_keepBest_68 : decode cX7_keepBest 68 = .ok (.lconst 0, 1) := by decide +kernel
theorem dX7_keepBest_69 : decode cX7_keepBest 69 = .ok (.lcmp, 1) := by decide +kernel
theorem dX7_keepBest_70 : decode cX7_keepBest 70 = .ok (.ifCond .ge 15, 3) := by decide +kernel
theorem dX7_keepBest_73 : decode cX7_keepBest 73 = .ok (.aload_n 0, 1) := by decide +kernel
theorem dX7_keepBest_74 : decode cX7_keepBest 74 = .ok (.getfield 45, 3) := by decide +kernel
theorem dX7_keepBest_77 : decode cX7_keepBest 77 = .ok (.iload_n 1, 1) := by decide +kernel
theorem dX7_keepBest_78 : decode cX7_keepBest 78 = .ok (.aload_n 0, 1) := by decide +kernel
theorem dX7_keepBest_79 : decode cX7_keepBest 79 = .ok (.getfield 48, 3) := by decide +kernel
theorem dX7_keepBest_82 : decode cX7_keepBest 82 = .ok (.iload_n 1, 1) := by decide +kernel
theorem dX7_keepBest_83 : decode cX7_keepBest 83 = .ok (.iaload, 1) := by decide +kernel
theorem dX7_keepBest_84 : decode cX7_keepBest 84 = .ok (.iastore, 1) := by decide +kernel
theorem dX7_keepBest_85 : decode cX7_keepBest 85 = .ok (.iinc 1 1, 3) := by decide +kernel
theorem dX7_keepBest_88 : decode cX7_keepBest 88 = .ok (.goto (-82), 3) := by decide +kernel
theorem dX7_keepBest_91 : decode cX7_keepBest 91 = .ok (.iconst 0, 1) := by decide +kernel
theorem dX7_keepBest_92 : decode cX7_keepBest 92 = .ok (.istore_n 1, 1) := by decide +kernel
theorem dX7_keepBest_93 : decode cX7_keepBest 93 = .ok (.iload_n 1, 1) := by decide +kernel
theorem dX7_keepBest_94 : decode cX7_keepBest 94 = .ok (.aload_n 0, 1) := by decide +kernel
theorem dX7_keepBest_95 : decode cX7_keepBest 95 = .ok (.getfield 85, 3) := by decide +kernel
theorem dX7_keepBest_98 : decode cX7_keepBest 98 = .ok (.if_icmp .ge 44, 3) := by decide +kernel
theorem dX7_keepBest_101 : decode cX7_keepBest 101 = .ok (.aload_n 0, 1) := by decide +kernel
theorem dX7_keepBest_102 : decode cX7_keepBest 102 = .ok (.getfield 51, 3) := by decide +kernel
theorem dX7_keepBest_105 : decode cX7_keepBest 105 = .ok (.iload_n 1, 1) := by decide +kernel
theorem dX7_keepBest_106 : decode cX7_keepBest 106 = .ok (.aload_n 0, 1) := by decide +kernel
theorem dX7_keepBest_107 : decode cX7_keepBest 107 = .ok (.getfield 66, 3) := by decide +kernel
theorem dX7_keepBest_110 : decode cX7_keepBest 110 = .ok (.iload_n 1, 1) := by decide +kernel
theorem dX7_keepBest_111 : decode cX7_keepBest 111 = .ok (.laload, 1) := by decide +kernel
theorem dX7_keepBest_112 : decode cX7_keepBest 112 = .ok (.aload_n 0, 1) := by decide +kernel
theorem dX7_keepBest_113 : decode cX7_keepBest 113 = .ok (.getfield 66, 3) := by decide +kernel
theorem dX7_keepBest_116 : decode cX7_keepBest 116 = .ok (.aload_n 0, 1) := by decide +kernel
theorem dX7_keepBest_117 : decode cX7_keepBest 117 = .ok (.getfield 85, 3) := by decide +kernel
theorem dX7_keepBest_120 : decode cX7_keepBest 120 = .ok (.laload, 1) := by decide +kernel
theorem dX7_keepBest_121 : decode cX7_keepBest 121 = .ok (.lcmp, 1) := by decide +kernel
theorem dX7_keepBest_122 : decode cX7_keepBest 122 = .ok (.ifCond .eq 7, 3) := by decide +kernel
theorem dX7_keepBest_125 : decode cX7_keepBest 125 = .ok (.iconst 1, 1) := by decide +kernel
theorem dX7_keepBest_126 : decode cX7_keepBest 126 = .ok (.goto 9, 3) := by decide +kernel
theorem dX7_keepBest_129 : decode cX7_keepBest 129 = .ok (.aload_n 0, 1) := by decide +kernel
theorem dX7_keepBest_130 : decode cX7_keepBest 130 = .ok (.getfield 19, 3) := by decide +kernel
theorem dX7_keepBest_133 : decode cX7_keepBest 133 = .ok (.iload_n 1, 1) := by decide +kernel
theorem dX7_keepBest_134 : decode cX7_keepBest 134 = .ok (.iaload, 1) := by decide +kernel
theorem dX7_keepBest_135 : decode cX7_keepBest 135 = .ok (.iastore, 1) := by decide +kernel
theorem dX7_keepBest_136 : decode cX7_keepBest 136 = .ok (.iinc 1 1, 3) := by decide +kernel
theorem dX7_keepBest_139 : decode cX7_keepBest 139 = .ok (.goto (-46), 3) := by decide +kernel
theorem dX7_keepBest_142 : decode cX7_keepBest 142 = .ok (.return_, 1) := by decide +kernel
set_option maxRecDepth 20000 in
theorem ggX7_way__X7_spread : GoodIn wsX7_way_ wsX7_spread := goodIn_r _ [7, 8, 9, 1, 10, 11, 2, 12, 13, 14, 15, 16, 17, 18, 19, 20, 21, 22, 23, 24, 25, 26, 27, 28, 29, 30, 31, 32, 33, 34, 35, 36, 37, 38, 39, 40, 41] (by decide +kernel) (by decide +kernel)
set_option maxRecDepth 20000 in
theorem gX7_way__X7_spread : GoodIn wsX7_way_ (wsV RX7 192 RX7 yX7_spread wsX7_spread) := goodIn_app (goodIn_of _ (by decide +kernel)) ggX7_way__X7_spread
theorem dX7_way__0 : decode cX7_way_ 0 = .ok (.iconst 0, 1) := by decide +kernel
theorem dX7_way__1 : decode cX7_way_ 1 = .ok (.istore_n 3, 1) := by decide +kernel
theorem dX7_way__2 : decode cX7_way_ 2 = .ok (.iload_n 3, 1) := by decide +kernel
theorem dX7_way__3 : decode cX7_way_ 3 = .ok (.bipush 9, 2) := by decide +kernel
theorem dX7_way__5 : decode cX7_way_ 5 = .ok (.if_icmp .ge 18, 3) := by decide +kernel
theorem dX7_way__8 : decode cX7_way_ 8 = .ok (.aload_n 0, 1) := by decide +kernel
theorem dX7_way__9 : decode cX7_way_ 9 = .ok (.getfield 66, 3) := by decide +kernel
theorem dX7_way__12 : decode cX7_way_ 12 = .ok (.iload_n 3, 1) := by decide +kernel
theorem dX7_way__13 : decode cX7_way_ 13 = .ok (.ldc2_w 180, 3) := by decide +kernel
theorem dX7_way__16 : decode cX7_way_ 16 = .ok (.lastore, 1) := by decide +kernel
theorem dX7_way__17 : decode cX7_way_ 17 = .ok (.iinc 3 1, 3) := by decide +kernel
theorem dX7_way__20 : decode cX7_way_ 20 = .ok (.goto (-18), 3) := by decide +kernel
theorem dX7_way__23 : decode cX7_way_ 23 = .ok (.aload_n 0, 1) := by decide +kernel
theorem dX7_way__24 : decode cX7_way_ 24 = .ok (.getfield 66, 3) := by decide +kernel
theorem dX7_way__27 : decode cX7_way_ 27 = .ok (.iload_n 1, 1) := by decide +kernel
theorem dX7_way__28 : decode cX7_way_ 28 = .ok (.lconst 0, 1) := by decide +kernel
theorem dX7_way__29 : decode cX7_way_ 29 = .ok (.lastore, 1) := by decide +kernel
theorem dX7_way__30 : decode cX7_way_ 30 = .ok (.aload_n 0, 1) := by decide +kernel
theorem dX7_way__31 : decode cX7_way_ 31 = .ok (.invokevirtual 192, 3) := by decide +kernel
theorem dX7_way__34 : decode cX7_way_ 34 = .ok (.istore_n 3, 1) := by decide +kernel
theorem dX7_way__35 : decode cX7_way_ 35 = .ok (.aload_n 0, 1) := by decide +kernel
theorem dX7_way__36 : decode cX7_way_ 36 = .ok (.getfield 66, 3) := by decide +kernel
theorem dX7_way__39 : decode cX7_way_ 39 = .ok (.iload_n 2, 1) := by decide +kernel
theorem dX7_way__40 : decode cX7_way_ 40 = .ok (.laload, 1) := by decide +kernel
theorem dX7_way__41 : decode cX7_way_ 41 = .ok (.lreturn, 1) := by decide +kernel
set_option maxRecDepth 20000 in
theorem ggX7_findPrices_X7_findEdges : GoodIn wsX7_findPrices wsX7_findEdges := goodIn_r _ [9, 10, 11, 12, 13, 14, 15, 1, 16, 4, 17, 18, 19, 20, 8, 21, 22, 23, 24, 25, 26, 27, 28, 29, 30, 31, 32, 33, 34, 35, 36, 37, 38, 49, 50, 51, 52, 53, 54, 55, 56, 57, 58, 59, 60, 61, 62, 63, 64, 65, 66, 67, 68, 69, 70, 71, 72, 73, 74, 75, 76] (by decide +kernel) (by decide +kernel)
set_option maxRecDepth 20000 in
theorem gX7_findPrices_X7_findEdges : GoodIn wsX7_findPrices (wsV RX7 186 RX7 yX7_findEdges wsX7_findEdges) := goodIn_app (goodIn_of _ (by decide +kernel)) ggX7_findPrices_X7_findEdges
set_option maxRecDepth 20000 in
theorem ggX7_findPrices_X7_way_ : GoodIn wsX7_findPrices wsX7_way_ := goodIn_r _ [42, 43, 2, 44, 45, 46, 8, 47, 1, 10, 31, 33, 32, 48, 49, 50, 51, 52, 53, 54, 55, 56, 57, 58, 59, 60, 61, 62, 63, 64, 65, 66, 67, 68, 69, 70, 71, 72, 73, 74, 75, 76] (by decide +kernel) (by decide +kernel)
set_option maxRecDepth 20000 in
theorem gX7_findPrices_X7_way_ : GoodIn wsX7_findPrices (wsV RX7 201 RX7 yX7_way_ wsX7_way_) := goodIn_app (goodIn_of _ (by decide +kernel)) ggX7_findPrices_X7_way_
set_option maxRecDepth 20000 in
theorem ggX7_findPrices_X7_edge : GoodIn wsX7_findPrices wsX7_edge := goodIn_r _ [30, 31, 10, 32, 33, 34, 49, 50, 51, 52, 53, 54, 55, 56, 57, 58, 59, 60, 61, 62, 63, 64, 65, 66, 67, 68, 69, 70, 71, 72, 73, 74, 75, 76] (by decide +kernel) (by decide +kernel)
set_option maxRecDepth 20000 in
theorem gX7_findPrices_X7_edge : GoodIn wsX7_findPrices (wsV RX7 172 RX7 yX7_edge wsX7_edge) := goodIn_app (goodIn_of _ (by decide +kernel)) ggX7_findPrices_X7_edge
theorem dX7_findPrices_0 : decode cX7_findPrices 0 = .ok (.aload_n 0, 1) := by decide +kernel
theorem dX7_findPrices_1 : decode cX7_findPrices 1 = .ok (.invokevirtual 186, 3) := by decide +kernel
theorem dX7_findPrices_4 : decode cX7_findPrices 4 = .ok (.iconst 0, 1) := by decide +kernel
theorem dX7_findPrices_5 : decode cX7_findPrices 5 = .ok (.istore_n 1, 1) := by decide +kernel
theorem dX7_findPrices_6 : decode cX7_findPrices 6 = .ok (.iload_n 1, 1) := by decide +kernel
theorem dX7_findPrices_7 : decode cX7_findPrices 7 = .ok (.aload_n 0, 1) := by decide +kernel
theorem dX7_findPrices_8 : decode cX7_findPrices 8 = .ok (.getfield 85, 3) := by decide +kernel
theorem dX7_findPrices_11 : decode cX7_findPrices 11 = .ok (.if_icmp .ge 111, 3) := by decide +kernel
theorem dX7_findPrices_14 : decode cX7_findPrices 14 = .ok (.aload_n 0, 1) := by decide +kernel
theorem dX7_findPrices_15 : decode cX7_findPrices 15 = .ok (.aload_n 0, 1) := by decide +kernel
theorem dX7_findPrices_16 : decode cX7_findPrices 16 = .ok (.getfield 85, 3) := by decide +kernel
theorem dX7_findPrices_19 : decode cX7_findPrices 19 = .ok (.iload_n 1, 1) := by decide +kernel
theorem dX7_findPrices_20 : decode cX7_findPrices 20 = .ok (.invokevirtual 201, 3) := by decide +kernel
theorem dX7_findPrices_23 : decode cX7_findPrices 23 = .ok (.lstore_n 2, 1) := by decide +kernel
theorem dX7_findPrices_24 : decode cX7_findPrices 24 = .ok (.aload_n 0, 1) := by decide +kernel
theorem dX7_findPrices_25 : decode cX7_findPrices 25 = .ok (.iload_n 1, 1) := by decide +kernel
theorem dX7_findPrices_26 : decode cX7_findPrices 26 = .ok (.aload_n 0, 1) := by decide +kernel
theorem dX7_findPrices_27 : decode cX7_findPrices 27 = .ok (.getfield 85, 3) := by decide +kernel
theorem dX7_findPrices_30 : decode cX7_findPrices 30 = .ok (.invokevirtual 201, 3) := by decide +kernel
theorem dX7_findPrices_33 : decode cX7_findPrices 33 = .ok (.lstore 4, 2) := by decide +kernel
theorem dX7_findPrices_35 : decode cX7_findPrices 35 = .ok (.lload_n 2, 1) := by decide +kernel
theorem dX7_findPrices_36 : decode cX7_findPrices 36 = .ok (.lconst 0, 1) := by decide +kernel
theorem dX7_findPrices_37 : decode cX7_findPrices 37 = .ok (.lcmp, 1) := by decide +kernel
theorem dX7_findPrices_38 : decode cX7_findPrices 38 = .ok (.ifCond .ge 7, 3) := by decide +kernel
theorem dX7_findPrices_41 : decode cX7_findPrices 41 = .ok (.lload_n 2, 1) := by decide +kernel
theorem dX7_findPrices_42 : decode cX7_findPrices 42 = .ok (.goto 4, 3) := by decide +kernel
theorem dX7_findPrices_45 : decode cX7_findPrices 45 = .ok (.lconst 0, 1) := by decide +kernel
theorem dX7_findPrices_46 : decode cX7_findPrices 46 = .ok (.lstore 6, 2) := by decide +kernel
theorem dX7_findPrices_48 : decode cX7_findPrices 48 = .ok (.lload 4, 2) := by decide +kernel
theorem dX7_findPrices_50 : decode cX7_findPrices 50 = .ok (.ldc2_w 180, 3) := by decide +kernel
theorem dX7_findPrices_53 : decode cX7_findPrices 53 = .ok (.lcmp, 1) := by decide +kernel
theorem dX7_findPrices_54 : decode cX7_findPrices 54 = .ok (.ifCond .ge 17, 3) := by decide +kernel
theorem dX7_findPrices_57 : decode cX7_findPrices 57 = .ok (.lload 4, 2) := by decide +kernel
theorem dX7_findPrices_59 : decode cX7_findPrices 59 = .ok (.lneg, 1) := by decide +kernel
theorem dX7_findPrices_60 : decode cX7_findPrices 60 = .ok (.lconst 0, 1) := by decide +kernel
theorem dX7_findPrices_61 : decode cX7_findPrices 61 = .ok (.lcmp, 1) := by decide +kernel
theorem dX7_findPrices_62 : decode cX7_findPrices 62 = .ok (.ifCond .le 9, 3) := by decide +kernel
theorem dX7_findPrices_65 : decode cX7_findPrices 65 = .ok (.lload 4, 2) := by decide +kernel
theorem dX7_findPrices_67 : decode cX7_findPrices 67 = .ok (.lneg, 1) := by decide +kernel
theorem dX7_findPrices_68 : decode cX7_findPrices 68 = .ok (.goto 5, 3) := by decide +kernel
theorem dX7_findPrices_71 : decode cX7_findPrices 71 = .ok (.lload 6, 2) := by decide +kernel
theorem dX7_findPrices_73 : decode cX7_findPrices 73 = .ok (.lstore 6, 2) := by decide +kernel
theorem dX7_findPrices_75 : decode cX7_findPrices 75 = .ok (.aload_n 0, 1) := by decide +kernel
theorem dX7_findPrices_76 : decode cX7_findPrices 76 = .ok (.getfield 35, 3) := by decide +kernel
theorem dX7_findPrices_79 : decode cX7_findPrices 79 = .ok (.iload_n 1, 1) := by decide +kernel
theorem dX7_findPrices_80 : decode cX7_findPrices 80 = .ok (.lload 6, 2) := by decide +kernel
theorem dX7_findPrices_82 : decode cX7_findPrices 82 = .ok (.aload_n 0, 1) := by decide +kernel
theorem dX7_findPrices_83 : decode cX7_findPrices 83 = .ok (.getfield 42, 3) := by decide +kernel
theorem dX7_findPrices_86 : decode cX7_findPrices 86 = .ok (.iload_n 1, 1) := by decide +kernel
theorem dX7_findPrices_87 : decode cX7_findPrices 87 = .ok (.iaload, 1) := by decide +kernel
theorem dX7_findPrices_88 : decode cX7_findPrices 88 = .ok (.i2l, 1) := by decide +kernel
theorem dX7_findPrices_89 : decode cX7_findPrices 89 = .ok (.lmul, 1) := by decide +kernel
theorem dX7_findPrices_90 : decode cX7_findPrices 90 = .ok (.lastore, 1) := by decide +kernel
theorem dX7_findPrices_91 : decode cX7_findPrices 91 = .ok (.aload_n 0, 1) := by decide +kernel
theorem dX7_findPrices_92 : decode cX7_findPrices 92 = .ok (.aload_n 0, 1) := by decide +kernel
theorem dX7_findPrices_93 : decode cX7_findPrices 93 = .ok (.getfield 85, 3) := by decide +kernel
theorem dX7_findPrices_96 : decode cX7_findPrices 96 = .ok (.iload_n 1, 1) := by decide +kernel
theorem dX7_findPrices_97 : decode cX7_findPrices 97 = .ok (.lload 6, 2) := by decide +kernel
theorem dX7_findPrices_99 : decode cX7_findPrices 99 = .ok (.iconst 0, 1) := by decide +kernel
theorem dX7_findPrices_100 : decode cX7_findPrices 100 = .ok (.invokevirtual 172, 3) := by decide +kernel
theorem dX7_findPrices_103 : decode cX7_findPrices 103 = .ok (.aload_n 0, 1) := by decide +kernel
theorem dX7_findPrices_104 : decode cX7_findPrices 104 = .ok (.iload_n 1, 1) := by decide +kernel
theorem dX7_findPrices_105 : decode cX7_findPrices 105 = .ok (.aload_n 0, 1) := by decide +kernel
theorem dX7_findPrices_106 : decode cX7_findPrices 106 = .ok (.getfield 85, 3) := by decide +kernel
theorem dX7_findPrices_109 : decode cX7_findPrices 109 = .ok (.lload 6, 2) := by decide +kernel
theorem dX7_findPrices_111 : decode cX7_findPrices 111 = .ok (.lneg, 1) := by decide +kernel
theorem dX7_findPrices_112 : decode cX7_findPrices 112 = .ok (.iconst 0, 1) := by decide +kernel
theorem dX7_findPrices_113 : decode cX7_findPrices 113 = .ok (.invokevirtual 172, 3) := by decide +kernel
theorem dX7_findPrices_116 : decode cX7_findPrices 116 = .ok (.iinc 1 1, 3) := by decide +kernel
theorem dX7_findPrices_119 : decode cX7_findPrices 119 = .ok (.goto (-113), 3) := by decide +kernel
theorem dX7_findPrices_122 : decode cX7_findPrices 122 = .ok (.return_, 1) := by decide +kernel
set_option maxRecDepth 20000 in
theorem ggX7_byFlows_X7_begin : GoodIn wsX7_byFlows wsX7_begin := goodIn_r _ [7, 8, 9, 10, 11, 12, 13, 14, 15, 112, 113, 114, 115, 116, 117, 118, 119, 120, 121, 122, 123, 124, 125, 126, 127, 128, 129, 130, 131, 132, 133, 134, 135, 136, 137, 138, 139] (by decide +kernel) (by decide +kernel)
set_option maxRecDepth 20000 in
theorem gX7_byFlows_X7_begin : GoodIn wsX7_byFlows (wsV RX7 198 RX7 yX7_begin wsX7_begin) := goodIn_app (goodIn_of _ (by decide +kernel)) ggX7_byFlows_X7_begin
set_option maxRecDepth 20000 in
theorem ggX7_byFlows_X7_findSigns : GoodIn wsX7_byFlows wsX7_findSigns := goodIn_r _ [19, 13, 8, 20, 21, 22, 23, 24, 6, 25, 26, 27, 28, 29, 30, 31, 32, 33, 34, 35, 36, 37, 38, 112, 113, 114, 115, 116, 117, 118, 119, 120, 121, 122, 123, 124, 125, 126, 127, 128, 129, 130, 131, 132, 133, 134, 135, 136, 137, 138, 139] (by decide +kernel) (by decide +kernel)
set_option maxRecDepth 20000 in
theorem gX7_byFlows_X7_findSigns : GoodIn wsX7_byFlows (wsV RX7 141 RX7 yX7_findSigns wsX7_findSigns) := goodIn_app (goodIn_of _ (by decide +kernel)) ggX7_byFlows_X7_findSigns
set_option maxRecDepth 20000 in
theorem ggX7_byFlows_X7_firstProof : GoodIn wsX7_byFlows wsX7_firstProof := goodIn_r _ [42, 13, 43, 44, 45, 6, 46, 14, 21, 47, 8, 9, 11, 30, 31, 32, 33, 34, 112, 113, 114, 115, 116, 117, 118, 119, 120, 121, 122, 123, 124, 125, 126, 127, 128, 129, 130, 131, 132, 133, 134, 135, 136, 137, 138, 139] (by decide +kernel) (by decide +kernel)
set_option maxRecDepth 20000 in
theorem gX7_byFlows_X7_firstProof : GoodIn wsX7_byFlows (wsV RX7 163 RX7 yX7_firstProof wsX7_firstProof) := goodIn_app (goodIn_of _ (by decide +kernel)) ggX7_byFlows_X7_firstProof
set_option maxRecDepth 20000 in
theorem ggX7_byFlows_X7_findLeast : GoodIn wsX7_byFlows wsX7_findLeast := goodIn_r _ [51, 8, 9, 11, 52, 39, 40, 41, 6, 42, 13, 43, 44, 45, 46, 14, 21, 47, 30, 31, 32, 33, 34, 112, 113, 114, 115, 116, 117, 118, 119, 120, 121, 122, 123, 124, 125, 126, 127, 128, 129, 130, 131, 132, 133, 134, 135, 136, 137, 138, 139] (by decide +kernel) (by decide +kernel)
set_option maxRecDepth 20000 in
theorem gX7_byFlows_X7_findLeast : GoodIn wsX7_byFlows (wsV RX7 211 RX7 yX7_findLeast wsX7_findLeast) := goodIn_app (goodIn_of _ (by decide +kernel)) ggX7_byFlows_X7_findLeast
set_option maxRecDepth 20000 in
theorem ggX7_byFlows_X7_improve : GoodIn wsX7_byFlows wsX7_improve := goodIn_r _ [56, 57, 58, 59, 60, 6, 61, 62, 8, 52, 12, 63, 10, 13, 15, 21, 47, 64, 65, 66, 67, 30, 31, 32, 33, 34, 68, 69, 70, 71, 72, 73, 74, 75, 76, 77, 78, 79, 80, 81, 82, 83, 84, 85, 86, 87, 88, 89, 90, 91, 92, 93, 94, 95, 96, 97, 98, 112, 113, 114, 115, 116, 117, 118, 119, 120, 121, 122, 123, 124, 125, 126, 127, 128, 129, 130, 131, 132, 133, 134, 135, 136, 137, 138, 139] (by decide +kernel) (by decide +kernel)
set_option maxRecDepth 20000 in
theorem gX7_byFlows_X7_improve : GoodIn wsX7_byFlows (wsV RX7 214 RX7 yX7_improve wsX7_improve) := goodIn_app (goodIn_of _ (by decide +kernel)) ggX7_byFlows_X7_improve
set_option maxRecDepth 20000 in
theorem ggX7_byFlows_X7_keepBest : GoodIn wsX7_byFlows wsX7_keepBest := goodIn_r _ [102, 8, 63, 84, 11, 9, 13, 14, 15, 3, 4, 5, 6, 7, 10, 12, 64, 65, 66, 67, 21, 30, 31, 32, 33, 34, 112, 113, 114, 115, 116, 117, 118, 119, 120, 121, 122, 123, 124, 125, 126, 127, 128, 129, 130, 131, 132, 133, 134, 135, 136, 137, 138, 139] (by decide +kernel) (by decide +kernel)
set_option maxRecDepth 20000 in
theorem gX7_byFlows_X7_keepBest : GoodIn wsX7_byFlows (wsV RX7 217 RX7 yX7_keepBest wsX7_keepBest) := goodIn_app (goodIn_of _ (by decide +kernel)) ggX7_byFlows_X7_keepBest
set_option maxRecDepth 20000 in
theorem ggX7_byFlows_X7_findPrices : GoodIn wsX7_byFlows wsX7_findPrices := goodIn_r _ [106, 13, 90, 107, 21, 58, 59, 60, 6, 61, 62, 8, 52, 12, 63, 10, 15, 47, 64, 65, 66, 67, 30, 31, 32, 33, 34, 68, 69, 70, 71, 72, 73, 74, 75, 76, 77, 78, 79, 108, 109, 110, 111, 84, 86, 87, 88, 89, 85, 112, 113, 114, 115, 116, 117, 118, 119, 120, 121, 122, 123, 124, 125, 126, 127, 128, 129, 130, 131, 132, 133, 134, 135, 136, 137, 138, 139] (by decide +kernel) (by decide +kernel)
set_option maxRecDepth 20000 in
theorem gX7_byFlows_X7_findPrices : GoodIn wsX7_byFlows (wsV RX7 220 RX7 yX7_findPrices wsX7_findPrices) := goodIn_app (goodIn_of _ (by decide +kernel)) ggX7_byFlows_X7_findPrices
theorem dX7_byFlows_0 : decode cX7_byFlows 0 = .ok (.aload_n 0, 1) := by decide +kernel
theorem dX7_byFlows_1 : decode cX7_byFlows 1 = .ok (.invokevirtual 198, 3) := by decide +kernel
theorem dX7_byFlows_4 : decode cX7_byFlows 4 = .ok (.aload_n 0, 1) := by decide +kernel
theorem dX7_byFlows_5 : decode cX7_byFlows 5 = .ok (.invokevirtual 141, 3) := by decide +kernel
theorem dX7_byFlows_8 : decode cX7_byFlows 8 = .ok (.aload_n 0, 1) := by decide +kernel
theorem dX7_byFlows_9 : decode cX7_byFlows 9 = .ok (.invokevirtual 163, 3) := by decide +kernel
theorem dX7_byFlows_12 : decode cX7_byFlows 12 = .ok (.istore_n 1, 1) := by decide +kernel
theorem dX7_byFlows_13 : decode cX7_byFlows 13 = .ok (.iload_n 1, 1) := by decide +kernel
theorem dX7_byFlows_14 : decode cX7_byFlows 14 = .ok (.iconst (-1), 1) := by decide +kernel
theorem dX7_byFlows_15 : decode cX7_byFlows 15 = .ok (.if_icmp .eq 27, 3) := by decide +kernel
theorem dX7_byFlows_18 : decode cX7_byFlows 18 = .ok (.aload_n 0, 1) := by decide +kernel
theorem dX7_byFlows_19 : decode cX7_byFlows 19 = .ok (.iload_n 1, 1) := by decide +kernel
theorem dX7_byFlows_20 : decode cX7_byFlows 20 = .ok (.iconst 2, 1) := by decide +kernel
theorem dX7_byFlows_21 : decode cX7_byFlows 21 = .ok (.idiv, 1) := by decide +kernel
theorem dX7_byFlows_22 : decode cX7_byFlows 22 = .ok (.putfield 205, 3) := by decide +kernel
theorem dX7_byFlows_25 : decode cX7_byFlows 25 = .ok (.aload_n 0, 1) := by decide +kernel
theorem dX7_byFlows_26 : decode cX7_byFlows 26 = .ok (.iload_n 1, 1) := by decide +kernel
theorem dX7_byFlows_27 : decode cX7_byFlows 27 = .ok (.iconst 2, 1) := by decide +kernel
theorem dX7_byFlows_28 : decode cX7_byFlows 28 = .ok (.irem, 1) := by decide +kernel
theorem dX7_byFlows_29 : decode cX7_byFlows 29 = .ok (.ifCond .ne 7, 3) := by decide +kernel
theorem dX7_byFlows_32 : decode cX7_byFlows 32 = .ok (.iconst 1, 1) := by decide +kernel
theorem dX7_byFlows_33 : decode cX7_byFlows 33 = .ok (.goto 4, 3) := by decide +kernel
theorem dX7_byFlows_36 : decode cX7_byFlows 36 = .ok (.iconst (-1), 1) := by decide +kernel
theorem dX7_byFlows_37 : decode cX7_byFlows 37 = .ok (.putfield 208, 3) := by decide +kernel
theorem dX7_byFlows_40 : decode cX7_byFlows 40 = .ok (.iconst 0, 1) := by decide +kernel
theorem dX7_byFlows_41 : decode cX7_byFlows 41 = .ok (.ireturn, 1) := by decide +kernel
theorem dX7_byFlows_42 : decode cX7_byFlows 42 = .ok (.aload_n 0, 1) := by decide +kernel
theorem dX7_byFlows_43 : decode cX7_byFlows 43 = .ok (.invokevirtual 211, 3) := by decide +kernel
theorem dX7_byFlows_46 : decode cX7_byFlows 46 = .ok (.aload_n 0, 1) := by decide +kernel
theorem dX7_byFlows_47 : decode cX7_byFlows 47 = .ok (.invokevirtual 214, 3) := by decide +kernel
theorem dX7_byFlows_50 : decode cX7_byFlows 50 = .ok (.aload_n 0, 1) := by decide +kernel
theorem dX7_byFlows_51 : decode cX7_byFlows 51 = .ok (.invokevirtual 217, 3) := by decide +kernel
theorem dX7_byFlows_54 : decode cX7_byFlows 54 = .ok (.aload_n 0, 1) := by decide +kernel
theorem dX7_byFlows_55 : decode cX7_byFlows 55 = .ok (.invokevirtual 211, 3) := by decide +kernel
theorem dX7_byFlows_58 : decode cX7_byFlows 58 = .ok (.aload_n 0, 1) := by decide +kernel
theorem dX7_byFlows_59 : decode cX7_byFlows 59 = .ok (.invokevirtual 220, 3) := by decide +kernel
theorem dX7_byFlows_62 : decode cX7_byFlows 62 = .ok (.iconst 1, 1) := by decide +kernel
theorem dX7_byFlows_63 : decode cX7_byFlows 63 = .ok (.ireturn, 1) := by decide +kernel
set_option maxRecDepth 20000 in
theorem ggX7_byRoom_X7_coef : GoodIn wsX7_byRoom wsX7_coef := goodIn_r _ [12, 13, 14, 15, 16, 17, 18, 19, 20, 21, 22, 23, 24, 25, 26, 27, 28, 29, 30, 31, 32, 33, 34, 35, 36, 37, 38, 39, 40, 41] (by decide +kernel) (by decide +kernel)
set_option maxRecDepth 20000 in
theorem gX7_byRoom_X7_coef : GoodIn wsX7_byRoom (wsV RX7 119 RX7 yX7_coef wsX7_coef) := goodIn_app (goodIn_of _ (by decide +kernel)) ggX7_byRoom_X7_coef
theorem dX7_byRoom_0 : decode cX7_byRoom 0 = .ok (.iconst 0, 1) := by decide +kernel
theorem dX7_byRoom_1 : decode cX7_byRoom 1 = .ok (.istore_n 1, 1) := by decide +kernel
theorem dX7_byRoom_2 : decode cX7_byRoom 2 = .ok (.iload_n 1, 1) := by decide +kernel
theorem dX7_byRoom_3 : decode cX7_byRoom 3 = .ok (.sipush 300, 3) := by decide +kernel
theorem dX7_byRoom_6 : decode cX7_byRoom 6 = .ok (.if_icmp .gt 25, 3) := by decide +kernel
theorem dX7_byRoom_9 : decode cX7_byRoom 9 = .ok (.aload_n 0, 1) := by decide +kernel
theorem dX7_byRoom_10 : decode cX7_byRoom 10 = .ok (.getfield 72, 3) := by decide +kernel
theorem dX7_byRoom_13 : decode cX7_byRoom 13 = .ok (.sipush 301, 3) := by decide +kernel
theorem dX7_byRoom_16 : decode cX7_byRoom 16 = .ok (.aload_n 0, 1) := by decide +kernel
theorem dX7_byRoom_17 : decode cX7_byRoom 17 = .ok (.getfield 78, 3) := by decide +kernel
theorem dX7_byRoom_20 : decode cX7_byRoom 20 = .ok (.imul, 1) := by decide +kernel
theorem dX7_byRoom_21 : decode cX7_byRoom 21 = .ok (.iload_n 1, 1) := by decide +kernel
theorem dX7_byRoom_22 : decode cX7_byRoom 22 = .ok (.iadd, 1) := by decide +kernel
theorem dX7_byRoom_23 : decode cX7_byRoom 23 = .ok (.lconst 0, 1) := by decide +kernel
theorem dX7_byRoom_24 : decode cX7_byRoom 24 = .ok (.lastore, 1) := by decide +kernel
theorem dX7_byRoom_25 : decode cX7_byRoom 25 = .ok (.iinc 1 1, 3) := by decide +kernel
theorem dX7_byRoom_28 : decode cX7_byRoom 28 = .ok (.goto (-26), 3) := by decide +kernel
theorem dX7_byRoom_31 : decode cX7_byRoom 31 = .ok (.aload_n 0, 1) := by decide +kernel
theorem dX7_byRoom_32 : decode cX7_byRoom 32 = .ok (.getfield 78, 3) := by decide +kernel
theorem dX7_byRoom_35 : decode cX7_byRoom 35 = .ok (.iconst 1, 1) := by decide +kernel
theorem dX7_byRoom_36 : decode cX7_byRoom 36 = .ok (.isub, 1) := by decide +kernel
theorem dX7_byRoom_37 : decode cX7_byRoom 37 = .ok (.istore_n 1, 1) := by decide +kernel
theorem dX7_byRoom_38 : decode cX7_byRoom 38 = .ok (.iload_n 1, 1) := by decide +kernel
theorem dX7_byRoom_39 : decode cX7_byRoom 39 = .ok (.ifCond .lt 129, 3) := by decide +kernel
theorem dX7_byRoom_42 : decode cX7_byRoom 42 = .ok (.iconst 0, 1) := by decide +kernel
theorem dX7_byRoom_43 : decode cX7_byRoom 43 = .ok (.istore_n 2, 1) := by decide +kernel
theorem dX7_byRoom_44 : decode cX7_byRoom 44 = .ok (.iload_n 2, 1) := by decide +kernel
theorem dX7_byRoom_45 : decode cX7_byRoom 45 = .ok (.aload_n 0, 1) := by decide +kernel
theorem dX7_byRoom_46 : decode cX7_byRoom 46 = .ok (.getfield 22, 3) := by decide +kernel
theorem dX7_byRoom_49 : decode cX7_byRoom 49 = .ok (.iconst 0, 1) := by decide +kernel
theorem dX7_byRoom_50 : decode cX7_byRoom 50 = .ok (.iaload, 1) := by decide +kernel
theorem dX7_byRoom_51 : decode cX7_byRoom 51 = .ok (.if_icmp .gt 111, 3) := by decide +kernel
theorem dX7_byRoom_54 : decode cX7_byRoom 54 = .ok (.ldc2_w 180, 3) := by decide +kernel
theorem dX7_byRoom_57 : decode cX7_byRoom 57 = .ok (.lstore_n 3, 1) := by decide +kernel
theorem dX7_byRoom_58 : decode cX7_byRoom 58 = .ok (.iconst 0, 1) := by decide +kernel
theorem dX7_byRoom_59 : decode cX7_byRoom 59 = .ok (.istore 5, 2) := by decide +kernel
theorem dX7_byRoom_61 : decode cX7_byRoom 61 = .ok (.iload 5, 2) := by decide +kernel
theorem dX7_byRoom_63 : decode cX7_byRoom 63 = .ok (.aload_n 0, 1) := by decide +kernel
theorem dX7_byRoom_64 : decode cX7_byRoom 64 = .ok (.getfield 13, 3) := by decide +kernel
theorem dX7_byRoom_67 : decode cX7_byRoom 67 = .ok (.iload_n 1, 1) := by decide +kernel
theorem dX7_byRoom_68 : decode cX7_byRoom 68 = .ok (.iaload, 1) := by decide +kernel
theorem dX7_byRoom_69 : decode cX7_byRoom 69 = .ok (.if_icmp .gt 74, 3) := by decide +kernel
theorem dX7_byRoom_72 : decode cX7_byRoom 72 = .ok (.iload 5, 2) := by decide +kernel
theorem dX7_byRoom_74 : decode cX7_byRoom 74 = .ok (.aload_n 0, 1) := by decide +kernel
theorem dX7_byRoom_75 : decode cX7_byRoom 75 = .ok (.iconst 0, 1) := by decide +kernel
theorem dX7_byRoom_76 : decode cX7_byRoom 76 = .ok (.iload_n 1, 1) := by decide +kernel
theorem dX7_byRoom_77 : decode cX7_byRoom 77 = .ok (.invokevirtual 119, 3) := by decide +kernel
theorem dX7_byRoom_80 : decode cX7_byRoom 80 = .ok (.imul, 1) := by decide +kernel
theorem dX7_byRoom_81 : decode cX7_byRoom 81 = .ok (.iload_n 2, 1) := by decide +kernel
theorem dX7_byRoom_82 : decode cX7_byRoom 82 = .ok (.if_icmp .gt 61, 3) := by decide +kernel
theorem dX7_byRoom_85 : decode cX7_byRoom 85 = .ok (.iload 5, 2) := by decide +kernel
theorem dX7_byRoom_87 : decode cX7_byRoom 87 = .ok (.i2l, 1) := by decide +kernel
theorem dX7_byRoom_88 : decode cX7_byRoom 88 = .ok (.aload_n 0, 1) := by decide +kernel
theorem dX7_byRoom_89 : decode cX7_byRoom 89 = .ok (.getfield 16, 3) := by decide +kernel
theorem dX7_byRoom_92 : decode cX7_byRoom 92 = .ok (.iload_n 1, 1) := by decide +kernel
theorem dX7_byRoom_93 : decode cX7_byRoom 93 = .ok (.iaload, 1) := by decide +kernel
theorem dX7_byRoom_94 : decode cX7_byRoom 94 = .ok (.i2l, 1) := by decide +kernel
theorem dX7_byRoom_95 : decode cX7_byRoom 95 = .ok (.lmul, 1) := by decide +kernel
theorem dX7_byRoom_96 : decode cX7_byRoom 96 = .ok (.aload_n 0, 1) := by decide +kernel
theorem dX7_byRoom_97 : decode cX7_byRoom 97 = .ok (.getfield 72, 3) := by decide +kernel
theorem dX7_byRoom_100 : decode cX7_byRoom 100 = .ok (.sipush 301, 3) := by decide +kernel
theorem dX7_byRoom_103 : decode cX7_byRoom 103 = .ok (.iload_n 1, 1) := by decide +kernel
theorem dX7_byRoom_104 : decode cX7_byRoom 104 = .ok (.iconst 1, 1) := by decide +kernel
theorem dX7_byRoom_105 : decode cX7_byRoom 105 = .ok (.iadd, 1) := by decide +kernel
theorem dX7_byRoom_106 : decode cX7_byRoom 106 = .ok (.imul, 1) := by decide +kernel
theorem dX7_byRoom_107 : decode cX7_byRoom 107 = .ok (.iload_n 2, 1) := by decide +kernel
theorem dX7_byRoom_108 : decode cX7_byRoom 108 = .ok (.iadd, 1) := by decide +kernel
theorem dX7_byRoom_109 : decode cX7_byRoom 109 = .ok (.iload 5, 2) := by decide +kernel
theorem dX7_byRoom_111 : decode cX7_byRoom 111 = .ok (.aload_n 0, 1) := by decide +kernel
theorem dX7_byRoom_112 : decode cX7_byRoom 112 = .ok (.iconst 0, 1) := by decide +kernel
theorem dX7_byRoom_113 : decode cX7_byRoom 113 = .ok (.iload_n 1, 1) := by decide +kernel
theorem dX7_byRoom_114 : decode cX7_byRoom 114 = .ok (.invokevirtual 119, 3) := by decide +kernel
theorem dX7_byRoom_117 : decode cX7_byRoom 117 = .ok (.imul, 1) := by decide +kernel
theorem dX7_byRoom_118 : decode cX7_byRoom 118 = .ok (.isub, 1) := by decide +kernel
theorem dX7_byRoom_119 : decode cX7_byRoom 119 = .ok (.laload, 1) := by decide +kernel
theorem dX7_byRoom_120 : decode cX7_byRoom 120 = .ok (.ladd, 1) := by decide +kernel
theorem dX7_byRoom_121 : decode cX7_byRoom 121 = .ok (.lstore 6, 2) := by decide +kernel
theorem dX7_byRoom_123 : decode cX7_byRoom 123 = .ok (.lload 6, 2) := by decide +kernel
theorem dX7_byRoom_125 : decode cX7_byRoom 125 = .ok (.lload_n 3, 1) := by decide +kernel
theorem dX7_byRoom_126 : decode cX7_byRoom 126 = .ok (.lcmp, 1) := by decide +kernel
theorem dX7_byRoom_127 : decode cX7_byRoom 127 = .ok (.ifCond .ge 8, 3) := by decide +kernel
theorem dX7_byRoom_130 : decode cX7_byRoom 130 = .ok (.lload 6, 2) := by decide +kernel
theorem dX7_byRoom_132 : decode cX7_byRoom 132 = .ok (.goto 4, 3) := by decide +kernel
theorem dX7_byRoom_135 : decode cX7_byRoom 135 = .ok (.lload_n 3, 1) := by decide +kernel
theorem dX7_byRoom_136 : decode cX7_byRoom 136 = .ok (.lstore_n 3, 1) := by decide +kernel
theorem dX7_byRoom_137 : decode cX7_byRoom 137 = .ok (.iinc 5 1, 3) := by decide +kernel
theorem dX7_byRoom_140 : decode cX7_byRoom 140 = .ok (.goto (-79), 3) := by decide +kernel
theorem dX7_byRoom_143 : decode cX7_byRoom 143 = .ok (.aload_n 0, 1) := by decide +kernel
theorem dX7_byRoom_144 : decode cX7_byRoom 144 = .ok (.getfield 72, 3) := by decide +kernel
theorem dX7_byRoom_147 : decode cX7_byRoom 147 = .ok (.sipush 301, 3) := by decide +kernel
theorem dX7_byRoom_150 : decode cX7_byRoom 150 = .ok (.iload_n 1, 1) := by decide +kernel
theorem dX7_byRoom_151 : decode cX7_byRoom 151 = .ok (.imul, 1) := by decide +kernel
theorem dX7_byRoom_152 : decode cX7_byRoom 152 = .ok (.iload_n 2, 1) := by decide +kernel
theorem dX7_byRoom_153 : decode cX7_byRoom 153 = .ok (.iadd, 1) := by decide +kernel
theorem dX7_byRoom_154 : decode cX7_byRoom 154 = .ok (.lload_n 3, 1) := by decide +kernel
theorem dX7_byRoom_155 : decode cX7_byRoom 155 = .ok (.lastore, 1) := by decide +kernel
theorem dX7_byRoom_156 : decode cX7_byRoom 156 = .ok (.iinc 2 1, 3) := by decide +kernel
theorem dX7_byRoom_159 : decode cX7_byRoom 159 = .ok (.goto (-115), 3) := by decide +kernel
theorem dX7_byRoom_162 : decode cX7_byRoom 162 = .ok (.iinc 1 (-1), 3) := by decide +kernel
theorem dX7_byRoom_165 : decode cX7_byRoom 165 = .ok (.goto (-127), 3) := by decide +kernel
theorem dX7_byRoom_168 : decode cX7_byRoom 168 = .ok (.aload_n 0, 1) := by decide +kernel
theorem dX7_byRoom_169 : decode cX7_byRoom 169 = .ok (.getfield 22, 3) := by decide +kernel
theorem dX7_byRoom_172 : decode cX7_byRoom 172 = .ok (.iconst 0, 1) := by decide +kernel
theorem dX7_byRoom_173 : decode cX7_byRoom 173 = .ok (.iaload, 1) := by decide +kernel
theorem dX7_byRoom_174 : decode cX7_byRoom 174 = .ok (.istore_n 1, 1) := by decide +kernel
theorem dX7_byRoom_175 : decode cX7_byRoom 175 = .ok (.iconst 0, 1) := by decide +kernel
theorem dX7_byRoom_176 : decode cX7_byRoom 176 = .ok (.istore_n 2, 1) := by decide +kernel
theorem dX7_byRoom_177 : decode cX7_byRoom 177 = .ok (.iload_n 2, 1) := by decide +kernel
theorem dX7_byRoom_178 : decode cX7_byRoom 178 = .ok (.aload_n 0, 1) := by decide +kernel
theorem dX7_byRoom_179 : decode cX7_byRoom 179 = .ok (.getfield 78, 3) := by decide +kernel
theorem dX7_byRoom_182 : decode cX7_byRoom 182 = .ok (.if_icmp .ge 85, 3) := by decide +kernel
theorem dX7_byRoom_185 : decode cX7_byRoom 185 = .ok (.iconst 0, 1) := by decide +kernel
theorem dX7_byRoom_186 : decode cX7_byRoom 186 = .ok (.istore_n 3, 1) := by decide +kernel
theorem dX7_byRoom_187 : decode cX7_byRoom 187 = .ok (.iload_n 3, 1) := by decide +kernel
theorem dX7_byRoom_188 : decode cX7_byRoom 188 = .ok (.i2l, 1) := by decide +kernel
theorem dX7_byRoom_189 : decode cX7_byRoom 189 = .ok (.aload_n 0, 1) := by decide +kernel
theorem dX7_byRoom_190 : decode cX7_byRoom 190 = .ok (.getfield 16, 3) := by decide +kernel
theorem dX7_byRoom_193 : decode cX7_byRoom 193 = .ok (.iload_n 2, 1) := by decide +kernel
theorem dX7_byRoom_194 : decode cX7_byRoom 194 = .ok (.iaload, 1) := by decide +kernel
theorem dX7_byRoom_195 : decode cX7_byRoom 195 = .ok (.i2l, 1) := by decide +kernel
theorem dX7_byRoom_196 : decode cX7_byRoom 196 = .ok (.lmul, 1) := by decide +kernel
theorem dX7_byRoom_197 : decode cX7_byRoom 197 = .ok (.aload_n 0, 1) := by decide +kernel
theorem dX7_byRoom_198 : decode cX7_byRoom 198 = .ok (.getfield 72, 3) := by decide +kernel
theorem dX7_byRoom_201 : decode cX7_byRoom 201 = .ok (.sipush 301, 3) := by decide +kernel
theorem dX7_byRoom_204 : decode cX7_byRoom 204 = .ok (.iload_n 2, 1) := by decide +kernel
theorem dX7_byRoom_205 : decode cX7_byRoom 205 = .ok (.iconst 1, 1) := by decide +kernel
theorem dX7_byRoom_206 : decode cX7_byRoom 206 = .ok (.iadd, 1) := by decide +kernel
theorem dX7_byRoom_207 : decode cX7_byRoom 207 = .ok (.imul, 1) := by decide +kernel
theorem dX7_byRoom_208 : decode cX7_byRoom 208 = .ok (.iload_n 1, 1) := by decide +kernel
theorem dX7_byRoom_209 : decode cX7_byRoom 209 = .ok (.iadd, 1) := by decide +kernel
theorem dX7_byRoom_210 : decode cX7_byRoom 210 = .ok (.iload_n 3, 1) := by decide +kernel
theorem dX7_byRoom_211 : decode cX7_byRoom 211 = .ok (.aload_n 0, 1) := by decide +kernel
theorem dX7_byRoom_212 : decode cX7_byRoom 212 = .ok (.iconst 0, 1) := by decide +kernel
theorem dX7_byRoom_213 : decode cX7_byRoom 213 = .ok (.iload_n 2, 1) := by decide +kernel
theorem dX7_byRoom_214 : decode cX7_byRoom 214 = .ok (.invokevirtual 119, 3) := by decide +kernel
theorem dX7_byRoom_217 : decode cX7_byRoom 217 = .ok (.imul, 1) := by decide +kernel
theorem dX7_byRoom_218 : decode cX7_byRoom 218 = .ok (.isub, 1) := by decide +kernel
theorem dX7_byRoom_219 : decode cX7_byRoom 219 = .ok (.laload, 1) := by decide +kernel
theorem dX7_byRoom_220 : decode cX7_byRoom 220 = .ok (.ladd, 1) := by decide +kernel
theorem dX7_byRoom_221 : decode cX7_byRoom 221 = .ok (.aload_n 0, 1) := by decide +kernel
theorem dX7_byRoom_222 : decode cX7_byRoom 222 = .ok (.getfield 72, 3) := by decide +kernel
theorem dX7_byRoom_225 : decode cX7_byRoom 225 = .ok (.sipush 301, 3) := by decide +kernel
theorem dX7_byRoom_228 : decode cX7_byRoom 228 = .ok (.iload_n 2, 1) := by decide +kernel
theorem dX7_byRoom_229 : decode cX7_byRoom 229 = .ok (.imul, 1) := by decide +kernel
theorem dX7_byRoom_230 : decode cX7_byRoom 230 = .ok (.iload_n 1, 1) := by decide +kernel
theorem dX7_byRoom_231 : decode cX7_byRoom 231 = .ok (.iadd, 1) := by decide +kernel
theorem dX7_byRoom_232 : decode cX7_byRoom 232 = .ok (.laload, 1) := by decide +kernel
theorem dX7_byRoom_233 : decode cX7_byRoom 233 = .ok (.lcmp, 1) := by decide +kernel
theorem dX7_byRoom_234 : decode cX7_byRoom 234 = .ok (.ifCond .eq 9, 3) := by decide +kernel
theorem dX7_byRoom_237 : decode cX7_byRoom 237 = .ok (.iinc 3 1, 3) := by decide +kernel
theorem dX7_byRoom_240 : decode cX7_byRoom 240 = .ok (.goto (-53), 3) := by decide +kernel
theorem dX7_byRoom_243 : decode cX7_byRoom 243 = .ok (.aload_n 0, 1) := by decide +kernel
theorem dX7_byRoom_244 : decode cX7_byRoom 244 = .ok (.getfield 32, 3) := by decide +kernel
theorem dX7_byRoom_247 : decode cX7_byRoom 247 = .ok (.iload_n 2, 1) := by decide +kernel
theorem dX7_byRoom_248 : decode cX7_byRoom 248 = .ok (.iload_n 3, 1) := by decide +kernel
theorem dX7_byRoom_249 : decode cX7_byRoom 249 = .ok (.iastore, 1) := by decide +kernel
theorem dX7_byRoom_250 : decode cX7_byRoom 250 = .ok (.iload_n 1, 1) := by decide +kernel
theorem dX7_byRoom_251 : decode cX7_byRoom 251 = .ok (.iload_n 3, 1) := by decide +kernel
theorem dX7_byRoom_252 : decode cX7_byRoom 252 = .ok (.aload_n 0, 1) := by decide +kernel
theorem dX7_byRoom_253 : decode cX7_byRoom 253 = .ok (.iconst 0, 1) := by decide +kernel
theorem dX7_byRoom_254 : decode cX7_byRoom 254 = .ok (.iload_n 2, 1) := by decide +kernel
theorem dX7_byRoom_255 : decode cX7_byRoom 255 = .ok (.invokevirtual 119, 3) := by decide +kernel
theorem dX7_byRoom_258 : decode cX7_byRoom 258 = .ok (.imul, 1) := by decide +kernel
theorem dX7_byRoom_259 : decode cX7_byRoom 259 = .ok (.isub, 1) := by decide +kernel
theorem dX7_byRoom_260 : decode cX7_byRoom 260 = .ok (.istore_n 1, 1) := by decide +kernel
theorem dX7_byRoom_261 : decode cX7_byRoom 261 = .ok (.iinc 2 1, 3) := by decide +kernel
theorem dX7_byRoom_264 : decode cX7_byRoom 264 = .ok (.goto (-87), 3) := by decide +kernel
theorem dX7_byRoom_267 : decode cX7_byRoom 267 = .ok (.return_, 1) := by decide +kernel
set_option maxRecDepth 20000 in
theorem ggX7_solve_X7_flowReason : GoodIn wsX7_solve wsX7_flowReason := goodIn_r _ [8, 9, 10, 11, 12, 7, 13, 14, 15, 16, 17, 18, 19, 20, 21, 22, 23, 24, 25, 26, 27, 28, 29, 30, 31, 145, 146, 147, 148, 149, 150, 151, 152, 153, 154, 155, 156, 157, 158, 159, 160, 161, 162, 163, 164, 165, 166, 167, 168, 169, 170, 171, 172] (by decide +kernel) (by decide +kernel)
set_option maxRecDepth 20000 in
theorem gX7_solve_X7_flowReason : GoodIn wsX7_solve (wsV RX7 137 RX7 yX7_flowReason wsX7_flowReason) := goodIn_app (goodIn_of _ (by decide +kernel)) ggX7_solve_X7_flowReason
set_option maxRecDepth 20000 in
theorem ggX7_solve_X7_byFlows : GoodIn wsX7_solve wsX7_byFlows := goodIn_r _ [35, 36, 37, 38, 39, 40, 7, 41, 9, 42, 43, 44, 45, 14, 46, 47, 48, 49, 50, 51, 52, 53, 54, 55, 56, 57, 58, 59, 60, 61, 16, 17, 18, 19, 20, 28, 29, 30, 31, 62, 63, 64, 65, 66, 67, 68, 69, 70, 71, 72, 73, 74, 75, 76, 77, 78, 79, 80, 81, 82, 83, 84, 85, 86, 87, 88, 89, 90, 91, 92, 93, 94, 95, 96, 97, 98, 99, 100, 101, 102, 103, 104, 105, 106, 107, 108, 109, 110, 111, 112, 113, 114, 115, 116, 117, 118, 119, 120, 121, 122, 123, 124, 125, 126, 127, 128, 129, 130, 131, 132, 133, 134, 145, 146, 147, 148, 149, 150, 151, 152, 153, 154, 155, 156, 157, 158, 159, 160, 161, 162, 163, 164, 165, 166, 167, 168, 169, 170, 171, 172] (by decide +kernel) (by decide +kernel)
set_option maxRecDepth 20000 in
theorem gX7_solve_X7_byFlows : GoodIn wsX7_solve (wsV RX7 227 RX7 yX7_byFlows wsX7_byFlows) := goodIn_app (goodIn_of _ (by decide +kernel)) ggX7_solve_X7_byFlows
set_option maxRecDepth 20000 in
theorem ggX7_solve_X7_isKnapsack : GoodIn wsX7_solve wsX7_isKnapsack := goodIn_r _ [138, 14, 47, 70, 139, 9, 43, 21, 22, 7, 23, 16, 17, 18, 19, 20, 145, 146, 147, 148, 149, 150, 151, 152, 153, 154, 155, 156, 157, 158, 159, 160, 161, 162, 163, 164, 165, 166, 167, 168, 169, 170, 171, 172] (by decide +kernel) (by decide +kernel)
set_option maxRecDepth 20000 in
theorem gX7_solve_X7_isKnapsack : GoodIn wsX7_solve (wsV RX7 152 RX7 yX7_isKnapsack wsX7_isKnapsack) := goodIn_app (goodIn_of _ (by decide +kernel)) ggX7_solve_X7_isKnapsack
set_option maxRecDepth 20000 in
theorem ggX7_solve_X7_byRoom : GoodIn wsX7_solve wsX7_byRoom := goodIn_r _ [143, 144, 9, 70, 113, 45, 86, 75, 16, 17, 18, 7, 19, 20, 145, 146, 147, 148, 149, 150, 151, 152, 153, 154, 155, 156, 157, 158, 159, 160, 161, 162, 163, 164, 165, 166, 167, 168, 169, 170, 171, 172] (by decide +kernel) (by decide +kernel)
set_option maxRecDepth 20000 in
theorem gX7_solve_X7_byRoom : GoodIn wsX7_solve (wsV RX7 230 RX7 yX7_byRoom wsX7_byRoom) := goodIn_app (goodIn_of _ (by decide +kernel)) ggX7_solve_X7_byRoom
theorem dX7_solve_0 : decode cX7_solve 0 = .ok (.aload_n 0, 1) := by decide +kernel
theorem dX7_solve_1 : decode cX7_solve 1 = .ok (.iconst 0, 1) := by decide +kernel
theorem dX7_solve_2 : decode cX7_solve 2 = .ok (.putfield 75, 3) := by decide +kernel
theorem dX7_solve_5 : decode cX7_solve 5 = .ok (.aload_n 0, 1) := by decide +kernel
theorem dX7_solve_6 : decode cX7_solve 6 = .ok (.iconst (-1), 1) := by decide +kernel
theorem dX7_solve_7 : decode cX7_solve 7 = .ok (.putfield 28, 3) := by decide +kernel
theorem dX7_solve_10 : decode cX7_solve 10 = .ok (.aload_n 0, 1) := by decide +kernel
theorem dX7_solve_11 : decode cX7_solve 11 = .ok (.aload_n 0, 1) := by decide +kernel
theorem dX7_solve_12 : decode cX7_solve 12 = .ok (.invokevirtual 137, 3) := by decide +kernel
theorem dX7_solve_15 : decode cX7_solve 15 = .ok (.iconst (-1), 1) := by decide +kernel
theorem dX7_solve_16 : decode cX7_solve 16 = .ok (.if_icmp .ne 7, 3) := by decide +kernel
theorem dX7_solve_19 : decode cX7_solve 19 = .ok (.iconst 1, 1) := by decide +kernel
theorem dX7_solve_20 : decode cX7_solve 20 = .ok (.goto 4, 3) := by decide +kernel
theorem dX7_solve_23 : decode cX7_solve 23 = .ok (.iconst 0, 1) := by decide +kernel
theorem dX7_solve_24 : decode cX7_solve 24 = .ok (.putfield 223, 3) := by decide +kernel
theorem dX7_solve_27 : decode cX7_solve 27 = .ok (.aload_n 0, 1) := by decide +kernel
theorem dX7_solve_28 : decode cX7_solve 28 = .ok (.getfield 223, 3) := by decide +kernel
theorem dX7_solve_31 : decode cX7_solve 31 = .ok (.ifCond .eq 14, 3) := by decide +kernel
theorem dX7_solve_34 : decode cX7_solve 34 = .ok (.aload_n 0, 1) := by decide +kernel
theorem dX7_solve_35 : decode cX7_solve 35 = .ok (.aload_n 0, 1) := by decide +kernel
theorem dX7_solve_36 : decode cX7_solve 36 = .ok (.invokevirtual 227, 3) := by decide +kernel
theorem dX7_solve_39 : decode cX7_solve 39 = .ok (.putfield 28, 3) := by decide +kernel
theorem dX7_solve_42 : decode cX7_solve 42 = .ok (.goto 19, 3) := by decide +kernel
theorem dX7_solve_45 : decode cX7_solve 45 = .ok (.aload_n 0, 1) := by decide +kernel
theorem dX7_solve_46 : decode cX7_solve 46 = .ok (.invokevirtual 152, 3) := by decide +kernel
theorem dX7_solve_49 : decode cX7_solve 49 = .ok (.ifCond .eq 12, 3) := by decide +kernel
theorem dX7_solve_52 : decode cX7_solve 52 = .ok (.aload_n 0, 1) := by decide +kernel
theorem dX7_solve_53 : decode cX7_solve 53 = .ok (.invokevirtual 230, 3) := by decide +kernel
theorem dX7_solve_56 : decode cX7_solve 56 = .ok (.aload_n 0, 1) := by decide +kernel
theorem dX7_solve_57 : decode cX7_solve 57 = .ok (.iconst 1, 1) := by decide +kernel
theorem dX7_solve_58 : decode cX7_solve 58 = .ok (.putfield 28, 3) := by decide +kernel
theorem dX7_solve_61 : decode cX7_solve 61 = .ok (.aload_n 0, 1) := by decide +kernel
theorem dX7_solve_62 : decode cX7_solve 62 = .ok (.getfield 28, 3) := by decide +kernel
theorem dX7_solve_65 : decode cX7_solve 65 = .ok (.ireturn, 1) := by decide +kernel
set_option maxRecDepth 20000 in
theorem ggX7_at_X7_isColumn : GoodIn wsX7_at wsX7_isColumn := goodIn_r _ [7, 8, 9, 10, 6, 11, 17, 18, 19, 20, 21, 22, 23, 24, 25, 26, 27, 28, 29, 30, 31, 32, 33, 34, 35, 36, 37, 38, 39, 40, 41, 42, 43, 44] (by decide +kernel) (by decide +kernel)
set_option maxRecDepth 20000 in
theorem gX7_at_X7_isColumn : GoodIn wsX7_at (wsV RX7 108 RX7 yX7_isColumn wsX7_isColumn) := goodIn_app (goodIn_of _ (by decide +kernel)) ggX7_at_X7_isColumn
set_option maxRecDepth 20000 in
theorem ggX7_at_X7_passes : GoodIn wsX7_at wsX7_passes := goodIn_r _ [15, 16, 17, 18, 19, 20, 21, 22, 23, 24, 25, 26, 27, 28, 29, 30, 31, 32, 33, 34, 35, 36, 37, 38, 39, 40, 41, 42, 43, 44] (by decide +kernel) (by decide +kernel)
set_option maxRecDepth 20000 in
theorem gX7_at_X7_passes : GoodIn wsX7_at (wsV RX7 96 RX7 yX7_passes wsX7_passes) := goodIn_app (goodIn_of _ (by decide +kernel)) ggX7_at_X7_passes
theorem dX7_at_0 : decode cX7_at 0 = .ok (.aload_n 0, 1) := by decide +kernel
theorem dX7_at_1 : decode cX7_at 1 = .ok (.aload_n 0, 1) := by decide +kernel
theorem dX7_at_2 : decode cX7_at 2 = .ok (.getfield 28, 3) := by decide +kernel
theorem dX7_at_5 : decode cX7_at 5 = .ok (.iconst 1, 1) := by decide +kernel
theorem dX7_at_6 : decode cX7_at 6 = .ok (.if_icmp .eq 7, 3) := by decide +kernel
theorem dX7_at_9 : decode cX7_at 9 = .ok (.iconst 1, 1) := by decide +kernel
theorem dX7_at_10 : decode cX7_at 10 = .ok (.goto 4, 3) := by decide +kernel
theorem dX7_at_13 : decode cX7_at 13 = .ok (.iconst 0, 1) := by decide +kernel
theorem dX7_at_14 : decode cX7_at 14 = .ok (.aload_n 0, 1) := by decide +kernel
theorem dX7_at_15 : decode cX7_at 15 = .ok (.iload_n 1, 1) := by decide +kernel
theorem dX7_at_16 : decode cX7_at 16 = .ok (.invokevirtual 108, 3) := by decide +kernel
theorem dX7_at_19 : decode cX7_at 19 = .ok (.ifCond .ne 7, 3) := by decide +kernel
theorem dX7_at_22 : decode cX7_at 22 = .ok (.iconst 1, 1) := by decide +kernel
theorem dX7_at_23 : decode cX7_at 23 = .ok (.goto 4, 3) := by decide +kernel
theorem dX7_at_26 : decode cX7_at 26 = .ok (.iconst 0, 1) := by decide +kernel
theorem dX7_at_27 : decode cX7_at 27 = .ok (.invokevirtual 96, 3) := by decide +kernel
theorem dX7_at_30 : decode cX7_at 30 = .ok (.ifCond .eq 12, 3) := by decide +kernel
theorem dX7_at_33 : decode cX7_at 33 = .ok (.aload_n 0, 1) := by decide +kernel
theorem dX7_at_34 : decode cX7_at 34 = .ok (.getfield 32, 3) := by decide +kernel
theorem dX7_at_37 : decode cX7_at 37 = .ok (.iload_n 1, 1) := by decide +kernel
theorem dX7_at_38 : decode cX7_at 38 = .ok (.iaload, 1) := by decide +kernel
theorem dX7_at_39 : decode cX7_at 39 = .ok (.goto 4, 3) := by decide +kernel
theorem dX7_at_42 : decode cX7_at 42 = .ok (.iconst 0, 1) := by decide +kernel
theorem dX7_at_43 : decode cX7_at 43 = .ok (.ireturn, 1) := by decide +kernel
set_option maxRecDepth 20000 in
theorem ggX7_value_X7_passes : GoodIn wsX7_value wsX7_passes := goodIn_r _ [9, 10, 11, 12, 13, 14, 15, 16, 17, 18, 19, 20, 21, 22, 23, 24, 25, 26, 27, 28, 29, 30, 31, 32, 33, 34, 35, 36, 37, 38] (by decide +kernel) (by decide +kernel)
set_option maxRecDepth 20000 in
theorem gX7_value_X7_passes : GoodIn wsX7_value (wsV RX7 96 RX7 yX7_passes wsX7_passes) := goodIn_app (goodIn_of _ (by decide +kernel)) ggX7_value_X7_passes
theorem dX7_value_0 : decode cX7_value 0 = .ok (.iconst 0, 1) := by decide +kernel
theorem dX7_value_1 : decode cX7_value 1 = .ok (.istore_n 1, 1) := by decide +kernel
theorem dX7_value_2 : decode cX7_value 2 = .ok (.aload_n 0, 1) := by decide +kernel
theorem dX7_value_3 : decode cX7_value 3 = .ok (.aload_n 0, 1) := by decide +kernel
theorem dX7_value_4 : decode cX7_value 4 = .ok (.getfield 28, 3) := by decide +kernel
theorem dX7_value_7 : decode cX7_value 7 = .ok (.iconst 1, 1) := by decide +kernel
theorem dX7_value_8 : decode cX7_value 8 = .ok (.if_icmp .eq 7, 3) := by decide +kernel
theorem dX7_value_11 : decode cX7_value 11 = .ok (.iconst 1, 1) := by decide +kernel
theorem dX7_value_12 : decode cX7_value 12 = .ok (.goto 4, 3) := by decide +kernel
theorem dX7_value_15 : decode cX7_value 15 = .ok (.iconst 0, 1) := by decide +kernel
theorem dX7_value_16 : decode cX7_value 16 = .ok (.iconst 0, 1) := by decide +kernel
theorem dX7_value_17 : decode cX7_value 17 = .ok (.invokevirtual 96, 3) := by decide +kernel
theorem dX7_value_20 : decode cX7_value 20 = .ok (.ifCond .eq 35, 3) := by decide +kernel
theorem dX7_value_23 : decode cX7_value 23 = .ok (.iconst 0, 1) := by decide +kernel
theorem dX7_value_24 : decode cX7_value 24 = .ok (.istore_n 2, 1) := by decide +kernel
theorem dX7_value_25 : decode cX7_value 25 = .ok (.iload_n 2, 1) := by decide +kernel
theorem dX7_value_26 : decode cX7_value 26 = .ok (.aload_n 0, 1) := by decide +kernel
theorem dX7_value_27 : decode cX7_value 27 = .ok (.getfield 78, 3) := by decide +kernel
theorem dX7_value_30 : decode cX7_value 30 = .ok (.if_icmp .ge 25, 3) := by decide +kernel
theorem dX7_value_33 : decode cX7_value 33 = .ok (.iload_n 1, 1) := by decide +kernel
theorem dX7_value_34 : decode cX7_value 34 = .ok (.aload_n 0, 1) := by decide +kernel
theorem dX7_value_35 : decode cX7_value 35 = .ok (.getfield 16, 3) := by decide +kernel
theorem dX7_value_38 : decode cX7_value 38 = .ok (.iload_n 2, 1) := by decide +kernel
theorem dX7_value_39 : decode cX7_value 39 = .ok (.iaload, 1) := by decide +kernel
theorem dX7_value_40 : decode cX7_value 40 = .ok (.aload_n 0, 1) := by decide +kernel
theorem dX7_value_41 : decode cX7_value 41 = .ok (.getfield 32, 3) := by decide +kernel
theorem dX7_value_44 : decode cX7_value 44 = .ok (.iload_n 2, 1) := by decide +kernel
theorem dX7_value_45 : decode cX7_value 45 = .ok (.iaload, 1) := by decide +kernel
theorem dX7_value_46 : decode cX7_value 46 = .ok (.imul, 1) := by decide +kernel
theorem dX7_value_47 : decode cX7_value 47 = .ok (.iadd, 1) := by decide +kernel
theorem dX7_value_48 : decode cX7_value 48 = .ok (.istore_n 1, 1) := by decide +kernel
theorem dX7_value_49 : decode cX7_value 49 = .ok (.iinc 2 1, 3) := by decide +kernel
theorem dX7_value_52 : decode cX7_value 52 = .ok (.goto (-27), 3) := by decide +kernel
theorem dX7_value_55 : decode cX7_value 55 = .ok (.iload_n 1, 1) := by decide +kernel
theorem dX7_value_56 : decode cX7_value 56 = .ok (.ireturn, 1) := by decide +kernel
set_option maxRecDepth 20000 in
theorem ggX7_sum_X7_isRow : GoodIn wsX7_sum wsX7_isRow := goodIn_r _ [6, 7, 8, 9, 5, 10, 27, 28, 29, 30, 31, 32, 33, 34, 35, 36, 37, 38, 39, 40, 41, 42, 43, 44, 45, 46, 47, 48, 49, 50, 51, 52, 53, 54] (by decide +kernel) (by decide +kernel)
set_option maxRecDepth 20000 in
theorem gX7_sum_X7_isRow : GoodIn wsX7_sum (wsV RX7 104 RX7 yX7_isRow wsX7_isRow) := goodIn_app (goodIn_of _ (by decide +kernel)) ggX7_sum_X7_isRow
set_option maxRecDepth 20000 in
theorem ggX7_sum_X7_passes : GoodIn wsX7_sum wsX7_passes := goodIn_r _ [14, 15, 27, 28, 29, 30, 31, 32, 33, 34, 35, 36, 37, 38, 39, 40, 41, 42, 43, 44, 45, 46, 47, 48, 49, 50, 51, 52, 53, 54] (by decide +kernel) (by decide +kernel)
set_option maxRecDepth 20000 in
theorem gX7_sum_X7_passes : GoodIn wsX7_sum (wsV RX7 96 RX7 yX7_passes wsX7_passes) := goodIn_app (goodIn_of _ (by decide +kernel)) ggX7_sum_X7_passes
set_option maxRecDepth 20000 in
theorem ggX7_sum_X7_sumOf : GoodIn wsX7_sum wsX7_sumOf := goodIn_r _ [19, 20, 21, 22, 23, 24, 5, 25, 26, 27, 28, 29, 30, 31, 32, 33, 34, 35, 36, 37, 38, 39, 40, 41, 42, 43, 44, 45, 46, 47, 48, 49, 50, 51, 52, 53, 54] (by decide +kernel) (by decide +kernel)
set_option maxRecDepth 20000 in
theorem gX7_sum_X7_sumOf : GoodIn wsX7_sum (wsV RX7 176 RX7 yX7_sumOf wsX7_sumOf) := goodIn_app (goodIn_of _ (by decide +kernel)) ggX7_sum_X7_sumOf
theorem dX7_sum_0 : decode cX7_sum 0 = .ok (.aload_n 0, 1) := by decide +kernel
theorem dX7_sum_1 : decode cX7_sum 1 = .ok (.aload_n 0, 1) := by decide +kernel
theorem dX7_sum_2 : decode cX7_sum 2 = .ok (.getfield 28, 3) := by decide +kernel
theorem dX7_sum_5 : decode cX7_sum 5 = .ok (.iconst 1, 1) := by decide +kernel
theorem dX7_sum_6 : decode cX7_sum 6 = .ok (.if_icmp .eq 7, 3) := by decide +kernel
theorem dX7_sum_9 : decode cX7_sum 9 = .ok (.iconst 1, 1) := by decide +kernel
theorem dX7_sum_10 : decode cX7_sum 10 = .ok (.goto 4, 3) := by decide +kernel
theorem dX7_sum_13 : decode cX7_sum 13 = .ok (.iconst 0, 1) := by decide +kernel
theorem dX7_sum_14 : decode cX7_sum 14 = .ok (.aload_n 0, 1) := by decide +kernel
theorem dX7_sum_15 : decode cX7_sum 15 = .ok (.iload_n 1, 1) := by decide +kernel
theorem dX7_sum_16 : decode cX7_sum 16 = .ok (.invokevirtual 104, 3) := by decide +kernel
theorem dX7_sum_19 : decode cX7_sum 19 = .ok (.ifCond .ne 7, 3) := by decide +kernel
theorem dX7_sum_22 : decode cX7_sum 22 = .ok (.iconst 1, 1) := by decide +kernel
theorem dX7_sum_23 : decode cX7_sum 23 = .ok (.goto 4, 3) := by decide +kernel
theorem dX7_sum_26 : decode cX7_sum 26 = .ok (.iconst 0, 1) := by decide +kernel
theorem dX7_sum_27 : decode cX7_sum 27 = .ok (.invokevirtual 96, 3) := by decide +kernel
theorem dX7_sum_30 : decode cX7_sum 30 = .ok (.ifCond .eq 12, 3) := by decide +kernel
theorem dX7_sum_33 : decode cX7_sum 33 = .ok (.aload_n 0, 1) := by decide +kernel
theorem dX7_sum_34 : decode cX7_sum 34 = .ok (.iload_n 1, 1) := by decide +kernel
theorem dX7_sum_35 : decode cX7_sum 35 = .ok (.invokevirtual 176, 3) := by decide +kernel
theorem dX7_sum_38 : decode cX7_sum 38 = .ok (.l2i, 1) := by decide +kernel
theorem dX7_sum_39 : decode cX7_sum 39 = .ok (.goto 4, 3) := by decide +kernel
theorem dX7_sum_42 : decode cX7_sum 42 = .ok (.iconst 0, 1) := by decide +kernel
theorem dX7_sum_43 : decode cX7_sum 43 = .ok (.ireturn, 1) := by decide +kernel
set_option maxRecDepth 20000 in
theorem ggX7_price_X7_isRow : GoodIn wsX7_price wsX7_isRow := goodIn_r _ [8, 9, 10, 11, 7, 12, 18, 19, 20, 21, 22, 23, 24, 25, 26, 27, 28, 29, 30, 31, 32, 33, 34, 35, 36, 37, 38, 39, 40, 41, 42, 43, 44, 45] (by decide +kernel) (by decide +kernel)
set_option maxRecDepth 20000 in
theorem gX7_price_X7_isRow : GoodIn wsX7_price (wsV RX7 104 RX7 yX7_isRow wsX7_isRow) := goodIn_app (goodIn_of _ (by decide +kernel)) ggX7_price_X7_isRow
set_option maxRecDepth 20000 in
theorem ggX7_price_X7_passes : GoodIn wsX7_price wsX7_passes := goodIn_r _ [16, 17, 18, 19, 20, 21, 22, 23, 24, 25, 26, 27, 28, 29, 30, 31, 32, 33, 34, 35, 36, 37, 38, 39, 40, 41, 42, 43, 44, 45] (by decide +kernel) (by decide +kernel)
set_option maxRecDepth 20000 in
theorem gX7_price_X7_passes : GoodIn wsX7_price (wsV RX7 96 RX7 yX7_passes wsX7_passes) := goodIn_app (goodIn_of _ (by decide +kernel)) ggX7_price_X7_passes
theorem dX7_price_0 : decode cX7_price 0 = .ok (.aload_n 0, 1) := by decide +kernel
theorem dX7_price_1 : decode cX7_price 1 = .ok (.aload_n 0, 1) := by decide +kernel
theorem dX7_price_2 : decode cX7_price 2 = .ok (.getfield 28, 3) := by decide +kernel
theorem dX7_price_5 : decode cX7_price 5 = .ok (.iconst 1, 1) := by decide +kernel
theorem dX7_price_6 : decode cX7_price 6 = .ok (.if_icmp .ne 10, 3) := by decide +kernel
theorem dX7_price_9 : decode cX7_price 9 = .ok (.aload_n 0, 1) := by decide +kernel
theorem dX7_price_10 : decode cX7_price 10 = .ok (.getfield 223, 3) := by decide +kernel
theorem dX7_price_13 : decode cX7_price 13 = .ok (.ifCond .ne 7, 3) := by decide +kernel
theorem dX7_price_16 : decode cX7_price 16 = .ok (.iconst 1, 1) := by decide +kernel
theorem dX7_price_17 : decode cX7_price 17 = .ok (.goto 4, 3) := by decide +kernel
theorem dX7_price_20 : decode cX7_price 20 = .ok (.iconst 0, 1) := by decide +kernel
theorem dX7_price_21 : decode cX7_price 21 = .ok (.aload_n 0, 1) := by decide +kernel
theorem dX7_price_22 : decode cX7_price 22 = .ok (.iload_n 1, 1) := by decide +kernel
theorem dX7_price_23 : decode cX7_price 23 = .ok (.invokevirtual 104, 3) := by decide +kernel
theorem dX7_price_26 : decode cX7_price 26 = .ok (.ifCond .ne 7, 3) := by decide +kernel
theorem dX7_price_29 : decode cX7_price 29 = .ok (.iconst 1, 1) := by decide +kernel
theorem dX7_price_30 : decode cX7_price 30 = .ok (.goto 4, 3) := by decide +kernel
theorem dX7_price_33 : decode cX7_price 33 = .ok (.iconst 0, 1) := by decide +kernel
theorem dX7_price_34 : decode cX7_price 34 = .ok (.invokevirtual 96, 3) := by decide +kernel
theorem dX7_price_37 : decode cX7_price 37 = .ok (.ifCond .eq 13, 3) := by decide +kernel
theorem dX7_price_40 : decode cX7_price 40 = .ok (.aload_n 0, 1) := by decide +kernel
theorem dX7_price_41 : decode cX7_price 41 = .ok (.getfield 35, 3) := by decide +kernel
theorem dX7_price_44 : decode cX7_price 44 = .ok (.iload_n 1, 1) := by decide +kernel
theorem dX7_price_45 : decode cX7_price 45 = .ok (.laload, 1) := by decide +kernel
theorem dX7_price_46 : decode cX7_price 46 = .ok (.l2i, 1) := by decide +kernel
theorem dX7_price_47 : decode cX7_price 47 = .ok (.goto 4, 3) := by decide +kernel
theorem dX7_price_50 : decode cX7_price 50 = .ok (.iconst 0, 1) := by decide +kernel
theorem dX7_price_51 : decode cX7_price 51 = .ok (.ireturn, 1) := by decide +kernel
set_option maxRecDepth 20000 in
theorem ggX7_reduced_X7_isColumn : GoodIn wsX7_reduced wsX7_isColumn := goodIn_r _ [10, 11, 12, 13, 9, 14, 25, 26, 27, 28, 29, 30, 31, 32, 33, 34, 35, 36, 37, 38, 39, 40, 41, 42, 43, 44, 45, 46, 47, 48, 49, 50, 51, 52] (by decide +kernel) (by decide +kernel)
set_option maxRecDepth 20000 in
theorem gX7_reduced_X7_isColumn : GoodIn wsX7_reduced (wsV RX7 108 RX7 yX7_isColumn wsX7_isColumn) := goodIn_app (goodIn_of _ (by decide +kernel)) ggX7_reduced_X7_isColumn
set_option maxRecDepth 20000 in
theorem ggX7_reduced_X7_passes : GoodIn wsX7_reduced wsX7_passes := goodIn_r _ [18, 19, 25, 26, 27, 28, 29, 30, 31, 32, 33, 34, 35, 36, 37, 38, 39, 40, 41, 42, 43, 44, 45, 46, 47, 48, 49, 50, 51, 52] (by decide +kernel) (by decide +kernel)
set_option maxRecDepth 20000 in
theorem gX7_reduced_X7_passes : GoodIn wsX7_reduced (wsV RX7 96 RX7 yX7_passes wsX7_passes) := goodIn_app (goodIn_of _ (by decide +kernel)) ggX7_reduced_X7_passes
set_option maxRecDepth 20000 in
theorem ggX7_reduced_X7_coef : GoodIn wsX7_reduced wsX7_coef := goodIn_r _ [23, 24, 25, 26, 27, 28, 29, 30, 31, 32, 33, 34, 35, 36, 37, 38, 39, 40, 41, 42, 43, 44, 45, 46, 47, 48, 49, 50, 51, 52] (by decide +kernel) (by decide +kernel)
set_option maxRecDepth 20000 in
theorem gX7_reduced_X7_coef : GoodIn wsX7_reduced (wsV RX7 119 RX7 yX7_coef wsX7_coef) := goodIn_app (goodIn_of _ (by decide +kernel)) ggX7_reduced_X7_coef
theorem dX7_reduced_0 : decode cX7_reduced 0 = .ok (.aload_n 0, 1) := by decide +kernel
theorem dX7_reduced_1 : decode cX7_reduced 1 = .ok (.aload_n 0, 1) := by decide +kernel
theorem dX7_reduced_2 : decode cX7_reduced 2 = .ok (.getfield 28, 3) := by decide +kernel
theorem dX7_reduced_5 : decode cX7_reduced 5 = .ok (.iconst 1, 1) := by decide +kernel
theorem dX7_reduced_6 : decode cX7_reduced 6 = .ok (.if_icmp .ne 10, 3) := by decide +kernel
theorem dX7_reduced_9 : decode cX7_reduced 9 = .ok (.aload_n 0, 1) := by decide +kernel
theorem dX7_reduced_10 : decode cX7_reduced 10 = .ok (.getfield 223, 3) := by decide +kernel
theorem dX7_reduced_13 : decode cX7_reduced 13 = .ok (.ifCond .ne 7, 3) := by decide +kernel
theorem dX7_reduced_16 : decode cX7_reduced 16 = .ok (.iconst 1, 1) := by decide +kernel
theorem dX7_reduced_17 : decode cX7_reduced 17 = .ok (.goto 4, 3) := by decide +kernel
theorem dX7_reduced_20 : decode cX7_reduced 20 = .ok (.iconst 0, 1) := by decide +kernel
theorem dX7_reduced_21 : decode cX7_reduced 21 = .ok (.aload_n 0, 1) := by decide +kernel
theorem dX7_reduced_22 : decode cX7_reduced 22 = .ok (.iload_n 1, 1) := by decide +kernel
theorem dX7_reduced_23 : decode cX7_reduced 23 = .ok (.invokevirtual 108, 3) := by decide +kernel
theorem dX7_reduced_26 : decode cX7_reduced 26 = .ok (.ifCond .ne 7, 3) := by decide +kernel
theorem dX7_reduced_29 : decode cX7_reduced 29 = .ok (.iconst 1, 1) := by decide +kernel
theorem dX7_reduced_30 : decode cX7_reduced 30 = .ok (.goto 4, 3) := by decide +kernel
theorem dX7_reduced_33 : decode cX7_reduced 33 = .ok (.iconst 0, 1) := by decide +kernel
theorem dX7_reduced_34 : decode cX7_reduced 34 = .ok (.invokevirtual 96, 3) := by decide +kernel
theorem dX7_reduced_37 : decode cX7_reduced 37 = .ok (.ifCond .ne 5, 3) := by decide +kernel
theorem dX7_reduced_40 : decode cX7_reduced 40 = .ok (.iconst 0, 1) := by decide +kernel
theorem dX7_reduced_41 : decode cX7_reduced 41 = .ok (.ireturn, 1) := by decide +kernel
theorem dX7_reduced_42 : decode cX7_reduced 42 = .ok (.aload_n 0, 1) := by decide +kernel
theorem dX7_reduced_43 : decode cX7_reduced 43 = .ok (.getfield 16, 3) := by decide +kernel
theorem dX7_reduced_46 : decode cX7_reduced 46 = .ok (.iload_n 1, 1) := by decide +kernel
theorem dX7_reduced_47 : decode cX7_reduced 47 = .ok (.iaload, 1) := by decide +kernel
theorem dX7_reduced_48 : decode cX7_reduced 48 = .ok (.i2l, 1) := by decide +kernel
theorem dX7_reduced_49 : decode cX7_reduced 49 = .ok (.lstore_n 2, 1) := by decide +kernel
theorem dX7_reduced_50 : decode cX7_reduced 50 = .ok (.iconst 0, 1) := by decide +kernel
theorem dX7_reduced_51 : decode cX7_reduced 51 = .ok (.istore 4, 2) := by decide +kernel
theorem dX7_reduced_53 : decode cX7_reduced 53 = .ok (.iload 4, 2) := by decide +kernel
theorem dX7_reduced_55 : decode cX7_reduced 55 = .ok (.aload_n 0, 1) := by decide +kernel
theorem dX7_reduced_56 : decode cX7_reduced 56 = .ok (.getfield 85, 3) := by decide +kernel
theorem dX7_reduced_59 : decode cX7_reduced 59 = .ok (.if_icmp .ge 28, 3) := by decide +kernel
theorem dX7_reduced_62 : decode cX7_reduced 62 = .ok (.lload_n 2, 1) := by decide +kernel
theorem dX7_reduced_63 : decode cX7_reduced 63 = .ok (.aload_n 0, 1) := by decide +kernel
theorem dX7_reduced_64 : decode cX7_reduced 64 = .ok (.iload 4, 2) := by decide +kernel
theorem dX7_reduced_66 : decode cX7_reduced 66 = .ok (.iload_n 1, 1) := by decide +kernel
theorem dX7_reduced_67 : decode cX7_reduced 67 = .ok (.invokevirtual 119, 3) := by decide +kernel
theorem dX7_reduced_70 : decode cX7_reduced 70 = .ok (.i2l, 1) := by decide +kernel
theorem dX7_reduced_71 : decode cX7_reduced 71 = .ok (.aload_n 0, 1) := by decide +kernel
theorem dX7_reduced_72 : decode cX7_reduced 72 = .ok (.getfield 35, 3) := by decide +kernel
theorem dX7_reduced_75 : decode cX7_reduced 75 = .ok (.iload 4, 2) := by decide +kernel
theorem dX7_reduced_77 : decode cX7_reduced 77 = .ok (.laload, 1) := by decide +kernel
theorem dX7_reduced_78 : decode cX7_reduced 78 = .ok (.lmul, 1) := by decide +kernel
theorem dX7_reduced_79 : decode cX7_reduced 79 = .ok (.lsub, 1) := by decide +kernel
theorem dX7_reduced_80 : decode cX7_reduced 80 = .ok (.lstore_n 2, 1) := by decide +kernel
theorem dX7_reduced_81 : decode cX7_reduced 81 = .ok (.iinc 4 1, 3) := by decide +kernel
theorem dX7_reduced_84 : decode cX7_reduced 84 = .ok (.goto (-31), 3) := by decide +kernel
theorem dX7_reduced_87 : decode cX7_reduced 87 = .ok (.lload_n 2, 1) := by decide +kernel
theorem dX7_reduced_88 : decode cX7_reduced 88 = .ok (.l2i, 1) := by decide +kernel
theorem dX7_reduced_89 : decode cX7_reduced 89 = .ok (.ireturn, 1) := by decide +kernel
set_option maxRecDepth 20000 in
theorem ggX7_proof_X7_passes : GoodIn wsX7_proof wsX7_passes := goodIn_r _ [7, 8, 9, 10, 11, 12, 13, 14, 15, 16, 17, 18, 19, 20, 21, 22, 23, 24, 25, 26, 27, 28, 29, 30, 31, 32, 33, 34, 35, 36] (by decide +kernel) (by decide +kernel)
set_option maxRecDepth 20000 in
theorem gX7_proof_X7_passes : GoodIn wsX7_proof (wsV RX7 96 RX7 yX7_passes wsX7_passes) := goodIn_app (goodIn_of _ (by decide +kernel)) ggX7_proof_X7_passes
theorem dX7_proof_0 : decode cX7_proof 0 = .ok (.aload_n 0, 1) := by decide +kernel
theorem dX7_proof_1 : decode cX7_proof 1 = .ok (.aload_n 0, 1) := by decide +kernel
theorem dX7_proof_2 : decode cX7_proof 2 = .ok (.getfield 28, 3) := by decide +kernel
theorem dX7_proof_5 : decode cX7_proof 5 = .ok (.ifCond .eq 7, 3) := by decide +kernel
theorem dX7_proof_8 : decode cX7_proof 8 = .ok (.iconst 1, 1) := by decide +kernel
theorem dX7_proof_9 : decode cX7_proof 9 = .ok (.goto 4, 3) := by decide +kernel
theorem dX7_proof_12 : decode cX7_proof 12 = .ok (.iconst 0, 1) := by decide +kernel
theorem dX7_proof_13 : decode cX7_proof 13 = .ok (.iconst 0, 1) := by decide +kernel
theorem dX7_proof_14 : decode cX7_proof 14 = .ok (.invokevirtual 96, 3) := by decide +kernel
theorem dX7_proof_17 : decode cX7_proof 17 = .ok (.ifCond .eq 10, 3) := by decide +kernel
theorem dX7_proof_20 : decode cX7_proof 20 = .ok (.aload_n 0, 1) := by decide +kernel
theorem dX7_proof_21 : decode cX7_proof 21 = .ok (.getfield 205, 3) := by decide +kernel
theorem dX7_proof_24 : decode cX7_proof 24 = .ok (.goto 4, 3) := by decide +kernel
theorem dX7_proof_27 : decode cX7_proof 27 = .ok (.iconst 0, 1) := by decide +kernel
theorem dX7_proof_28 : decode cX7_proof 28 = .ok (.ireturn, 1) := by decide +kernel
set_option maxRecDepth 20000 in
theorem ggX7_side_X7_passes : GoodIn wsX7_side wsX7_passes := goodIn_r _ [7, 8, 9, 10, 11, 12, 13, 14, 15, 16, 17, 18, 19, 20, 21, 22, 23, 24, 25, 26, 27, 28, 29, 30, 31, 32, 33, 34, 35, 36] (by decide +kernel) (by decide +kernel)
set_option maxRecDepth 20000 in
theorem gX7_side_X7_passes : GoodIn wsX7_side (wsV RX7 96 RX7 yX7_passes wsX7_passes) := goodIn_app (goodIn_of _ (by decide +kernel)) ggX7_side_X7_passes
theorem dX7_side_0 : decode cX7_side 0 = .ok (.aload_n 0, 1) := by decide +kernel
theorem dX7_side_1 : decode cX7_side 1 = .ok (.aload_n 0, 1) := by decide +kernel
theorem dX7_side_2 : decode cX7_side 2 = .ok (.getfield 28, 3) := by decide +kernel
theorem dX7_side_5 : decode cX7_side 5 = .ok (.ifCond .eq 7, 3) := by decide +kernel
theorem dX7_side_8 : decode cX7_side 8 = .ok (.iconst 1, 1) := by decide +kernel
theorem dX7_side_9 : decode cX7_side 9 = .ok (.goto 4, 3) := by decide +kernel
theorem dX7_side_12 : decode cX7_side 12 = .ok (.iconst 0, 1) := by decide +kernel
theorem dX7_side_13 : decode cX7_side 13 = .ok (.iconst 0, 1) := by decide +kernel
theorem dX7_side_14 : decode cX7_side 14 = .ok (.invokevirtual 96, 3) := by decide +kernel
theorem dX7_side_17 : decode cX7_side 17 = .ok (.ifCond .eq 10, 3) := by decide +kernel
theorem dX7_side_20 : decode cX7_side 20 = .ok (.aload_n 0, 1) := by decide +kernel
theorem dX7_side_21 : decode cX7_side 21 = .ok (.getfield 208, 3) := by decide +kernel
theorem dX7_side_24 : decode cX7_side 24 = .ok (.goto 4, 3) := by decide +kernel
theorem dX7_side_27 : decode cX7_side 27 = .ok (.iconst 0, 1) := by decide +kernel
theorem dX7_side_28 : decode cX7_side 28 = .ok (.ireturn, 1) := by decide +kernel
theorem dJ6_bitCount_0f7a4_0 : decode cJ6_bitCount_0f7a4 0 = .ok (.iload_n 0, 1) := by decide +kernel
theorem dJ6_bitCount_0f7a4_1 : decode cJ6_bitCount_0f7a4 1 = .ok (.iload_n 0, 1) := by decide +kernel
theorem dJ6_bitCount_0f7a4_2 : decode cJ6_bitCount_0f7a4 2 = .ok (.iconst 1, 1) := by decide +kernel
theorem dJ6_bitCount_0f7a4_3 : decode cJ6_bitCount_0f7a4 3 = .ok (.iushr, 1) := by decide +kernel
theorem dJ6_bitCount_0f7a4_4 : decode cJ6_bitCount_0f7a4 4 = .ok (.ldc_w 265, 3) := by decide +kernel
theorem dJ6_bitCount_0f7a4_7 : decode cJ6_bitCount_0f7a4 7 = .ok (.iand, 1) := by decide +kernel
theorem dJ6_bitCount_0f7a4_8 : decode cJ6_bitCount_0f7a4 8 = .ok (.isub, 1) := by decide +kernel
theorem dJ6_bitCount_0f7a4_9 : decode cJ6_bitCount_0f7a4 9 = .ok (.istore_n 0, 1) := by decide +kernel
theorem dJ6_bitCount_0f7a4_10 : decode cJ6_bitCount_0f7a4 10 = .ok (.iload_n 0, 1) := by decide +kernel
theorem dJ6_bitCount_0f7a4_11 : decode cJ6_bitCount_0f7a4 11 = .ok (.ldc_w 266, 3) := by decide +kernel
theorem dJ6_bitCount_0f7a4_14 : decode cJ6_bitCount_0f7a4 14 = .ok (.iand, 1) := by decide +kernel
theorem dJ6_bitCount_0f7a4_15 : decode cJ6_bitCount_0f7a4 15 = .ok (.iload_n 0, 1) := by decide +kernel
theorem dJ6_bitCount_0f7a4_16 : decode cJ6_bitCount_0f7a4 16 = .ok (.iconst 2, 1) := by decide +kernel
theorem dJ6_bitCount_0f7a4_17 : decode cJ6_bitCount_0f7a4 17 = .ok (.iushr, 1) := by decide +kernel
theorem dJ6_bitCount_0f7a4_18 : decode cJ6_bitCount_0f7a4 18 = .ok (.ldc_w 266, 3) := by decide +kernel
theorem dJ6_bitCount_0f7a4_21 : decode cJ6_bitCount_0f7a4 21 = .ok (.iand, 1) := by decide +kernel
theorem dJ6_bitCount_0f7a4_22 : decode cJ6_bitCount_0f7a4 22 = .ok (.iadd, 1) := by decide +kernel
theorem dJ6_bitCount_0f7a4_23 : decode cJ6_bitCount_0f7a4 23 = .ok (.istore_n 0, 1) := by decide +kernel
theorem dJ6_bitCount_0f7a4_24 : decode cJ6_bitCount_0f7a4 24 = .ok (.iload_n 0, 1) := by decide +kernel
theorem dJ6_bitCount_0f7a4_25 : decode cJ6_bitCount_0f7a4 25 = .ok (.iload_n 0, 1) := by decide +kernel
theorem dJ6_bitCount_0f7a4_26 : decode cJ6_bitCount_0f7a4 26 = .ok (.iconst 4, 1) := by decide +kernel
theorem dJ6_bitCount_0f7a4_27 : decode cJ6_bitCount_0f7a4 27 = .ok (.iushr, 1) := by decide +kernel
theorem dJ6_bitCount_0f7a4_28 : decode cJ6_bitCount_0f7a4 28 = .ok (.iadd, 1) := by decide +kernel
theorem dJ6_bitCount_0f7a4_29 : decode cJ6_bitCount_0f7a4 29 = .ok (.ldc_w 267, 3) := by decide +kernel
theorem dJ6_bitCount_0f7a4_32 : decode cJ6_bitCount_0f7a4 32 = .ok (.iand, 1) := by decide +kernel
theorem dJ6_bitCount_0f7a4_33 : decode cJ6_bitCount_0f7a4 33 = .ok (.istore_n 0, 1) := by decide +kernel
theorem dJ6_bitCount_0f7a4_34 : decode cJ6_bitCount_0f7a4 34 = .ok (.iload_n 0, 1) := by decide +kernel
theorem dJ6_bitCount_0f7a4_35 : decode cJ6_bitCount_0f7a4 35 = .ok (.iload_n 0, 1) := by decide +kernel
theorem dJ6_bitCount_0f7a4_36 : decode cJ6_bitCount_0f7a4 36 = .ok (.bipush 8, 2) := by decide +kernel
theorem dJ6_bitCount_0f7a4_38 : decode cJ6_bitCount_0f7a4 38 = .ok (.iushr, 1) := by decide +kernel
theorem dJ6_bitCount_0f7a4_39 : decode cJ6_bitCount_0f7a4 39 = .ok (.iadd, 1) := by decide +kernel
theorem dJ6_bitCount_0f7a4_40 : decode cJ6_bitCount_0f7a4 40 = .ok (.istore_n 0, 1) := by decide +kernel
theorem dJ6_bitCount_0f7a4_41 : decode cJ6_bitCount_0f7a4 41 = .ok (.iload_n 0, 1) := by decide +kernel
theorem dJ6_bitCount_0f7a4_42 : decode cJ6_bitCount_0f7a4 42 = .ok (.iload_n 0, 1) := by decide +kernel
theorem dJ6_bitCount_0f7a4_43 : decode cJ6_bitCount_0f7a4 43 = .ok (.bipush 16, 2) := by decide +kernel
theorem dJ6_bitCount_0f7a4_45 : decode cJ6_bitCount_0f7a4 45 = .ok (.iushr, 1) := by decide +kernel
theorem dJ6_bitCount_0f7a4_46 : decode cJ6_bitCount_0f7a4 46 = .ok (.iadd, 1) := by decide +kernel
theorem dJ6_bitCount_0f7a4_47 : decode cJ6_bitCount_0f7a4 47 = .ok (.istore_n 0, 1) := by decide +kernel
theorem dJ6_bitCount_0f7a4_48 : decode cJ6_bitCount_0f7a4 48 = .ok (.iload_n 0, 1) := by decide +kernel
theorem dJ6_bitCount_0f7a4_49 : decode cJ6_bitCount_0f7a4 49 = .ok (.bipush 63, 2) := by decide +kernel
theorem dJ6_bitCount_0f7a4_51 : decode cJ6_bitCount_0f7a4 51 = .ok (.iand, 1) := by decide +kernel
theorem dJ6_bitCount_0f7a4_52 : decode cJ6_bitCount_0f7a4 52 = .ok (.ireturn, 1) := by decide +kernel
theorem dJ9_max_7cf53_0 : decode cJ9_max_7cf53 0 = .ok (.iload_n 0, 1) := by decide +kernel
theorem dJ9_max_7cf53_1 : decode cJ9_max_7cf53 1 = .ok (.iload_n 1, 1) := by decide +kernel
theorem dJ9_max_7cf53_2 : decode cJ9_max_7cf53 2 = .ok (.if_icmp .lt 7, 3) := by decide +kernel
theorem dJ9_max_7cf53_5 : decode cJ9_max_7cf53 5 = .ok (.iload_n 0, 1) := by decide +kernel
theorem dJ9_max_7cf53_6 : decode cJ9_max_7cf53 6 = .ok (.goto 4, 3) := by decide +kernel
theorem dJ9_max_7cf53_9 : decode cJ9_max_7cf53 9 = .ok (.iload_n 1, 1) := by decide +kernel
theorem dJ9_max_7cf53_10 : decode cJ9_max_7cf53 10 = .ok (.ireturn, 1) := by decide +kernel
theorem dJ9_min_7cf53_0 : decode cJ9_min_7cf53 0 = .ok (.iload_n 0, 1) := by decide +kernel
theorem dJ9_min_7cf53_1 : decode cJ9_min_7cf53 1 = .ok (.iload_n 1, 1) := by decide +kernel
theorem dJ9_min_7cf53_2 : decode cJ9_min_7cf53 2 = .ok (.if_icmp .gt 7, 3) := by decide +kernel
theorem dJ9_min_7cf53_5 : decode cJ9_min_7cf53 5 = .ok (.iload_n 0, 1) := by decide +kernel
theorem dJ9_min_7cf53_6 : decode cJ9_min_7cf53 6 = .ok (.goto 4, 3) := by decide +kernel
theorem dJ9_min_7cf53_9 : decode cJ9_min_7cf53 9 = .ok (.iload_n 1, 1) := by decide +kernel
theorem dJ9_min_7cf53_10 : decode cJ9_min_7cf53 10 = .ok (.ireturn, 1) := by decide +kernel
theorem dJ7_fill_53178_0 : decode cJ7_fill_53178 0 = .ok (.iconst 0, 1) := by decide +kernel
theorem dJ7_fill_53178_1 : decode cJ7_fill_53178 1 = .ok (.istore_n 2, 1) := by decide +kernel
theorem dJ7_fill_53178_2 : decode cJ7_fill_53178 2 = .ok (.aload_n 0, 1) := by decide +kernel
theorem dJ7_fill_53178_3 : decode cJ7_fill_53178 3 = .ok (.arraylength, 1) := by decide +kernel
theorem dJ7_fill_53178_4 : decode cJ7_fill_53178 4 = .ok (.istore_n 3, 1) := by decide +kernel
theorem dJ7_fill_53178_5 : decode cJ7_fill_53178 5 = .ok (.iload_n 2, 1) := by decide +kernel
theorem dJ7_fill_53178_6 : decode cJ7_fill_53178 6 = .ok (.iload_n 3, 1) := by decide +kernel
theorem dJ7_fill_53178_7 : decode cJ7_fill_53178 7 = .ok (.if_icmp .ge 13, 3) := by decide +kernel
theorem dJ7_fill_53178_10 : decode cJ7_fill_53178 10 = .ok (.aload_n 0, 1) := by decide +kernel
theorem dJ7_fill_53178_11 : decode cJ7_fill_53178 11 = .ok (.iload_n 2, 1) := by decide +kernel
theorem dJ7_fill_53178_12 : decode cJ7_fill_53178 12 = .ok (.iload_n 1, 1) := by decide +kernel
theorem dJ7_fill_53178_13 : decode cJ7_fill_53178 13 = .ok (.iastore, 1) := by decide +kernel
theorem dJ7_fill_53178_14 : decode cJ7_fill_53178 14 = .ok (.iinc 2 1, 3) := by decide +kernel
theorem dJ7_fill_53178_17 : decode cJ7_fill_53178 17 = .ok (.goto (-12), 3) := by decide +kernel
theorem dJ7_fill_53178_20 : decode cJ7_fill_53178 20 = .ok (.return_, 1) := by decide +kernel
set_option maxRecDepth 20000 in
theorem ggL_column_X6_column : GoodIn wsL_column wsX6_column := goodIn_ca (goodIn_ca (goodIn_r _ [7, 8, 9, 10, 11, 12, 13, 14, 15, 16, 6, 17, 18, 19, 20, 21, 22, 23, 24, 25, 26, 27, 28, 29, 30, 31, 32, 33, 34, 35, 36, 37, 38, 39, 40, 41, 42, 43, 44, 45] (by decide +kernel) (by decide +kernel)) (goodIn_sub (fun _ h => List.mem_cons_of_mem _ (List.mem_append_left _ (List.mem_append_right _ h))) (by decide +kernel))) (goodIn_sub (fun _ h => List.mem_cons_of_mem _ (List.mem_append_right _ h)) (by decide +kernel))
set_option maxRecDepth 20000 in
theorem gL_column_X6_column : GoodIn wsL_column (wsV RL 7 RX6 yX6_column wsX6_column) := goodIn_app (goodIn_of _ (by decide +kernel)) ggL_column_X6_column
theorem dL_column_0 : decode cL_column 0 = .ok (.aload 4, 2) := by decide +kernel
theorem dL_column_2 : decode cL_column 2 = .ok (.iconst 0, 1) := by decide +kernel
theorem dL_column_3 : decode cL_column 3 = .ok (.aload_n 0, 1) := by decide +kernel
theorem dL_column_4 : decode cL_column 4 = .ok (.iload_n 1, 1) := by decide +kernel
theorem dL_column_5 : decode cL_column 5 = .ok (.iload_n 2, 1) := by decide +kernel
theorem dL_column_6 : decode cL_column 6 = .ok (.iload_n 3, 1) := by decide +kernel
theorem dL_column_7 : decode cL_column 7 = .ok (.invokevirtual 7, 3) := by decide +kernel
theorem dL_column_10 : decode cL_column 10 = .ok (.i2l, 1) := by decide +kernel
theorem dL_column_11 : decode cL_column 11 = .ok (.lastore, 1) := by decide +kernel
theorem dL_column_12 : decode cL_column 12 = .ok (.goto 11, 3) := by decide +kernel
theorem dL_column_15 : decode cL_column 15 = .ok (.astore 5, 2) := by decide +kernel
theorem dL_column_17 : decode cL_column 17 = .ok (.iconst 1, 1) := by decide +kernel
theorem dL_column_18 : decode cL_column 18 = .ok (.ireturn, 1) := by decide +kernel
theorem dL_column_19 : decode cL_column 19 = .ok (.astore 5, 2) := by decide +kernel
theorem dL_column_21 : decode cL_column 21 = .ok (.iconst 2, 1) := by decide +kernel
