/-! the words of what the law calls, among the tables' (wip/gen/mklawin.py) -/
theorem zgx_68 : GoodIn lw_tbl ((vx_atS RX6 68 "java/lang/IllegalStateException" ["java/lang/RuntimeException", "java/lang/Exception"]).filter goodWord) := goodIn_sub (by decide +kernel) (by decide +kernel)
theorem zgx_82 : GoodIn lw_tbl ((vx_atS RX6 82 "java/lang/IllegalArgumentException" ["java/lang/RuntimeException", "java/lang/Exception"]).filter goodWord) := goodIn_sub (by decide +kernel) (by decide +kernel)
theorem zgx_215 : GoodIn lw_tbl ((vx_atS RX6 215 "java/lang/IndexOutOfBoundsException" ["java/lang/RuntimeException", "java/lang/Exception"]).filter goodWord) := goodIn_sub (by decide +kernel) (by decide +kernel)
set_option maxRecDepth 100000 in
theorem zgp_wsX6_init_r1 : GoodIn lw_tbl wsX6_init_r1 := goodIn_r _ [101, 102, 103, 104, 105, 79, 293, 173, 174, 80, 294, 197, 198, 81, 295, 249, 250, 82, 296, 267, 268, 83, 297, 282] rfl (by decide +kernel)
set_option maxRecDepth 100000 in
theorem zgp_wsX6_init_r2 : GoodIn lw_tbl wsX6_init_r2 := goodIn_r _ [283, 84, 298, 172, 299, 300, 107, 108, 109, 123, 128, 134, 139, 143, 110, 149, 175, 176, 177, 178, 180, 182, 184, 185] rfl (by decide +kernel)
set_option maxRecDepth 100000 in
theorem zgp_wsX6_init_r3 : GoodIn lw_tbl wsX6_init_r3 := goodIn_r _ [179, 200, 201, 202, 205, 207, 209, 211, 213, 215, 218, 219, 220, 221, 248, 222, 252, 253, 254, 256, 258, 255, 259, 270] rfl (by decide +kernel)
set_option maxRecDepth 100000 in
theorem zgp_wsX6_init_r4 : GoodIn lw_tbl wsX6_init_r4 := goodIn_r _ [271, 272, 285, 286, 287, 288, 289] rfl (by decide +kernel)
set_option maxRecDepth 100000 in
theorem zgp_wsX50 : GoodIn lw_tbl wsX50 := goodIn_r _ [155, 157, 159, 161, 163, 165, 167, 169] rfl (by decide +kernel)
set_option maxRecDepth 100000 in
theorem zgp_wsX60 : GoodIn lw_tbl wsX60 := goodIn_r _ [301, 303, 305, 307, 309, 311, 313, 315] rfl (by decide +kernel)
set_option maxRecDepth 100000 in
theorem zgp_wsX40 : GoodIn lw_tbl wsX40 := goodIn_r _ [186, 188, 190, 192, 194] rfl (by decide +kernel)
set_option maxRecDepth 100000 in
theorem zgp_wsX10 : GoodIn lw_tbl wsX10 := goodIn_r _ [223, 225, 227, 229, 231, 233, 235, 237, 239, 241, 243, 245] rfl (by decide +kernel)
set_option maxRecDepth 100000 in
theorem zgp_wsX20 : GoodIn lw_tbl wsX20 := goodIn_r _ [260, 262, 264] rfl (by decide +kernel)
set_option maxRecDepth 100000 in
theorem zgp_wsX30 : GoodIn lw_tbl wsX30 := goodIn_r _ [277, 279] rfl (by decide +kernel)
set_option maxRecDepth 100000 in
theorem zgp_wsX00 : GoodIn lw_tbl wsX00 := goodIn_r _ [290] rfl (by decide +kernel)
set_option maxRecDepth 100000 in
theorem zgg_X6_init : GoodIn lw_tbl wsX6_init := fun w hw => (List.mem_cons.mp hw).elim (fun e => by rw [e]; exact ⟨(List.mem_of_getElem? (i := 100) rfl), good_of_word (by decide +kernel)⟩) ((goodIn_app (goodIn_app (goodIn_app (goodIn_app (goodIn_app (goodIn_app (goodIn_app (goodIn_app zgp_wsX6_init_r1 (goodIn_app zgp_wsX6_init_r2 (goodIn_app zgp_wsX6_init_r3 zgp_wsX6_init_r4))) zgp_wsX50) zgp_wsX60) zgp_wsX40) zgp_wsX10) zgp_wsX20) zgp_wsX30) zgp_wsX00) w)
set_option maxRecDepth 100000 in
theorem zgp_wsX7_init_r1 : GoodIn lw_tbl wsX7_init_r1 := goodIn_r _ [860, 102, 103, 172, 864, 865, 866, 867, 868, 869, 870, 872, 946, 873, 876, 877, 878, 879, 880, 882, 883, 884, 885, 886] rfl (by decide +kernel)
set_option maxRecDepth 100000 in
theorem zgp_wsX7_init_r2 : GoodIn lw_tbl wsX7_init_r2 := goodIn_r _ [887, 888] rfl (by decide +kernel)
set_option maxRecDepth 100000 in
theorem zgp_wsX70 : GoodIn lw_tbl wsX70 := goodIn_r _ [889, 891, 893, 895, 897, 899, 901, 903, 905, 907, 909, 911, 913, 915, 917, 919, 921, 923, 925, 927, 929, 931, 933, 935, 937, 939, 941, 943] rfl (by decide +kernel)
set_option maxRecDepth 100000 in
theorem zgg_X7_init : GoodIn lw_tbl wsX7_init := fun w hw => (List.mem_cons.mp hw).elim (fun e => by rw [e]; exact ⟨(List.mem_of_getElem? (i := 859) rfl), good_of_word (by decide +kernel)⟩) ((goodIn_app (goodIn_app zgp_wsX7_init_r1 zgp_wsX7_init_r2) zgp_wsX70) w)
set_option maxRecDepth 100000 in
theorem zgp_wsL_column_r1 : GoodIn lw_tbl wsL_column_r1 := goodIn_r _ [606, 607, 608, 609, 610, 78, 611, 612, 89, 684, 90, 293, 113, 300, 680, 681, 682, 683, 372, 373, 700, 701, 702, 79] rfl (by decide +kernel)
set_option maxRecDepth 100000 in
theorem zgp_wsL_column_r2 : GoodIn lw_tbl wsL_column_r2 := goodIn_r _ [703, 112, 123, 128, 134] rfl (by decide +kernel)
set_option maxRecDepth 100000 in
theorem zgg_L_column : GoodIn lw_tbl wsL_column := fun w hw => (List.mem_cons.mp hw).elim (fun e => by rw [e]; exact ⟨(List.mem_of_getElem? (i := 605) rfl), good_of_word (by decide +kernel)⟩) ((goodIn_app (goodIn_app (goodIn_app (goodIn_app (goodIn_app zgp_wsL_column_r1 zgp_wsL_column_r2) zgp_wsX60) zgp_wsX50) zgx_68) zgx_82) w)
set_option maxRecDepth 100000 in
theorem zg_L_column : GoodIn lw_tbl (va_wsS RL 69 yL_column wsL_column) := goodIn_app (goodIn_r _ [603, 604, 77] rfl (by decide +kernel)) zgg_L_column
set_option maxRecDepth 100000 in
theorem zgp_16 : GoodIn lw_tbl ([.fieldLink RX7 78 "FlowPartsModel" "columns" "I", .constantLong RX7 88 (-1000), .constantLong RX7 90 (1000), .fieldLink RX7 7 "FlowPartsModel" "lows" "[I", .fieldLink RX7 13 "FlowPartsModel" "highs" "[I", .fieldLink RX7 16 "FlowPartsModel" "costs" "[I", .fieldLink RX7 25 "FlowPartsModel" "coefs" "[I", .fieldLink RX7 28 "FlowPartsModel" "solved" "I", .methodLink RX7 92 yX7_areBounds, .static yX7_areBounds, .initialized RX7, .code yX7_areBounds cX7_areBounds 2 (some .boolean), .methodLink RX7 81 yX7_within, .static yX7_within, .code yX7_within cX7_within 6 (some .boolean), .methodLink RX7 96 yX7_passes, .instanceMethod yX7_passes, .selects RX7 yX7_passes yX7_passes, .code yX7_passes cX7_passes 3 (some .boolean), .fieldLink RX7 75 "FlowPartsModel" "thrown" "I"] : List Cond) := goodIn_r _ [862, 958, 959, 864, 865, 866, 869, 870, 955, 956, 85, 957, 960, 961, 962, 963, 965, 44, 966, 861] rfl (by decide +kernel)
set_option maxRecDepth 100000 in
theorem zgg_X7_column : GoodIn lw_tbl wsX7_column := fun w hw => (List.mem_cons.mp hw).elim (fun e => by rw [e]; exact ⟨(List.mem_of_getElem? (i := 954) rfl), good_of_word (by decide +kernel)⟩) ((goodIn_app zgp_16 zgp_wsX70) w)
set_option maxRecDepth 100000 in
theorem zg_X7_column : GoodIn lw_tbl (wsV RL 74 RX7 yX7_column wsX7_column) := goodIn_app (goodIn_r _ [951, 952, 953, 85] rfl (by decide +kernel)) zgg_X7_column
set_option maxRecDepth 100000 in
theorem zgp_17 : GoodIn lw_tbl ([.fieldLink RX7 75 "FlowPartsModel" "thrown" "I"] : List Cond) := goodIn_r _ [861] rfl (by decide +kernel)
set_option maxRecDepth 100000 in
theorem zgg_X7_thrown : GoodIn lw_tbl wsX7_thrown := fun w hw => (List.mem_cons.mp hw).elim (fun e => by rw [e]; exact ⟨(List.mem_of_getElem? (i := 950) rfl), good_of_word (by decide +kernel)⟩) ((goodIn_app zgp_17 zgp_wsX70) w)
set_option maxRecDepth 100000 in
theorem zg_X7_thrown : GoodIn lw_tbl (wsV RL 75 RX7 yX7_thrown wsX7_thrown) := goodIn_app (goodIn_r _ [947, 948, 949, 85] rfl (by decide +kernel)) zgg_X7_thrown
set_option maxRecDepth 100000 in
theorem zgp_wsL_row_r1 : GoodIn lw_tbl wsL_row_r1 := goodIn_r _ [606, 607, 707, 708, 709, 78, 710, 612, 89, 684, 90, 293, 122, 712, 300, 683, 372, 373, 714, 715, 716, 79, 717, 121] rfl (by decide +kernel)
set_option maxRecDepth 100000 in
theorem zgp_wsL_row_r2 : GoodIn lw_tbl wsL_row_r2 := goodIn_r _ [139, 143] rfl (by decide +kernel)
set_option maxRecDepth 100000 in
theorem zgg_L_row : GoodIn lw_tbl wsL_row := fun w hw => (List.mem_cons.mp hw).elim (fun e => by rw [e]; exact ⟨(List.mem_of_getElem? (i := 706) rfl), good_of_word (by decide +kernel)⟩) ((goodIn_app (goodIn_app (goodIn_app (goodIn_app (goodIn_app zgp_wsL_row_r1 zgp_wsL_row_r2) zgp_wsX60) zgp_wsX50) zgx_68) zgx_82) w)
set_option maxRecDepth 100000 in
theorem zg_L_row : GoodIn lw_tbl (va_wsS RL 78 yL_row wsL_row) := goodIn_app (goodIn_r _ [704, 705, 77] rfl (by decide +kernel)) zgg_L_row
set_option maxRecDepth 100000 in
theorem zgp_20 : GoodIn lw_tbl ([.fieldLink RX7 85 "FlowPartsModel" "rows" "I", .constantLong RX7 100 (-100000), .constantLong RX7 102 (100000), .fieldLink RX7 19 "FlowPartsModel" "kinds" "[I", .fieldLink RX7 22 "FlowPartsModel" "rights" "[I", .fieldLink RX7 25 "FlowPartsModel" "coefs" "[I", .fieldLink RX7 28 "FlowPartsModel" "solved" "I", .methodLink RX7 81 yX7_within, .static yX7_within, .initialized RX7, .code yX7_within cX7_within 6 (some .boolean), .methodLink RX7 96 yX7_passes, .instanceMethod yX7_passes, .selects RX7 yX7_passes yX7_passes, .code yX7_passes cX7_passes 3 (some .boolean), .fieldLink RX7 75 "FlowPartsModel" "thrown" "I"] : List Cond) := goodIn_r _ [863, 971, 972, 867, 868, 869, 870, 960, 961, 85, 962, 963, 965, 44, 966, 861] rfl (by decide +kernel)
set_option maxRecDepth 100000 in
theorem zgg_X7_row : GoodIn lw_tbl wsX7_row := fun w hw => (List.mem_cons.mp hw).elim (fun e => by rw [e]; exact ⟨(List.mem_of_getElem? (i := 970) rfl), good_of_word (by decide +kernel)⟩) ((goodIn_app zgp_20 zgp_wsX70) w)
set_option maxRecDepth 100000 in
theorem zg_X7_row : GoodIn lw_tbl (wsV RL 81 RX7 yX7_row wsX7_row) := goodIn_app (goodIn_r _ [967, 968, 969, 85] rfl (by decide +kernel)) zgg_X7_row
set_option maxRecDepth 100000 in
theorem zgp_wsL_term_r1 : GoodIn lw_tbl wsL_term_r1 := goodIn_r _ [721, 607, 722, 723, 724, 78, 725, 684, 90, 300, 293, 153, 726, 728, 39, 729, 730, 91, 122, 746, 748, 40, 749, 113] rfl (by decide +kernel)
set_option maxRecDepth 100000 in
theorem zgp_wsL_term_r2 : GoodIn lw_tbl wsL_term_r2 := goodIn_r _ [683, 372, 373] rfl (by decide +kernel)
set_option maxRecDepth 100000 in
theorem zgg_L_term : GoodIn lw_tbl wsL_term := fun w hw => (List.mem_cons.mp hw).elim (fun e => by rw [e]; exact ⟨(List.mem_of_getElem? (i := 720) rfl), good_of_word (by decide +kernel)⟩) ((goodIn_app (goodIn_app (goodIn_app (goodIn_app (goodIn_app zgp_wsL_term_r1 zgp_wsL_term_r2) zgp_wsX60) zgp_wsX50) zgx_82) zgx_215) w)
set_option maxRecDepth 100000 in
theorem zg_L_term : GoodIn lw_tbl (va_wsS RL 82 yL_term wsL_term) := goodIn_app (goodIn_r _ [718, 719, 77] rfl (by decide +kernel)) zgg_L_term
set_option maxRecDepth 100000 in
theorem zgp_23 : GoodIn lw_tbl ([.constantLong RX7 111 (-100), .constantLong RX7 113 (100), .fieldLink RX7 25 "FlowPartsModel" "coefs" "[I", .fieldLink RX7 28 "FlowPartsModel" "solved" "I", .methodLink RX7 104 yX7_isRow, .instanceMethod yX7_isRow, .selects RX7 yX7_isRow yX7_isRow, .initialized RX7, .code yX7_isRow cX7_isRow 2 (some .boolean), .fieldLink RX7 85 "FlowPartsModel" "rows" "I", .methodLink RX7 81 yX7_within, .static yX7_within, .code yX7_within cX7_within 6 (some .boolean), .methodLink RX7 108 yX7_isColumn, .instanceMethod yX7_isColumn, .selects RX7 yX7_isColumn yX7_isColumn, .code yX7_isColumn cX7_isColumn 2 (some .boolean), .fieldLink RX7 78 "FlowPartsModel" "columns" "I", .methodLink RX7 96 yX7_passes, .instanceMethod yX7_passes, .selects RX7 yX7_passes yX7_passes, .code yX7_passes cX7_passes 3 (some .boolean), .fieldLink RX7 75 "FlowPartsModel" "thrown" "I"] : List Cond) := goodIn_r _ [985, 986, 869, 870, 977, 979, 45, 85, 980, 863, 960, 961, 962, 981, 983, 46, 984, 862, 963, 965, 44, 966, 861] rfl (by decide +kernel)
set_option maxRecDepth 100000 in
theorem zgg_X7_term : GoodIn lw_tbl wsX7_term := fun w hw => (List.mem_cons.mp hw).elim (fun e => by rw [e]; exact ⟨(List.mem_of_getElem? (i := 976) rfl), good_of_word (by decide +kernel)⟩) ((goodIn_app zgp_23 zgp_wsX70) w)
set_option maxRecDepth 100000 in
theorem zg_X7_term : GoodIn lw_tbl (wsV RL 85 RX7 yX7_term wsX7_term) := goodIn_app (goodIn_r _ [973, 974, 975, 85] rfl (by decide +kernel)) zgg_X7_term
set_option maxRecDepth 100000 in
theorem zgp_wsL_bounds_r1 : GoodIn lw_tbl wsL_bounds_r1 := goodIn_r _ [721, 607, 755, 756, 757, 78, 758, 684, 90, 300, 293, 126, 132, 746, 748, 40, 749, 730, 91, 113, 680, 681, 682, 683] rfl (by decide +kernel)
