/-! the words of what the law calls, among the tables' (wip/gen/mklawin.py) -/
theorem zgx_66 : GoodIn lw_tbl ((vx_atS RX6 66 "java/lang/IllegalStateException" ["java/lang/RuntimeException", "java/lang/Exception"]).filter goodWord) := goodIn_sub (by decide +kernel) (by decide +kernel)
theorem zgx_80 : GoodIn lw_tbl ((vx_atS RX6 80 "java/lang/IllegalArgumentException" ["java/lang/RuntimeException", "java/lang/Exception"]).filter goodWord) := goodIn_sub (by decide +kernel) (by decide +kernel)
theorem zgx_213 : GoodIn lw_tbl ((vx_atS RX6 213 "java/lang/IndexOutOfBoundsException" ["java/lang/RuntimeException", "java/lang/Exception"]).filter goodWord) := goodIn_sub (by decide +kernel) (by decide +kernel)
set_option maxRecDepth 100000 in
theorem zgp_wsX6_init_r1 : GoodIn lw_tbl wsX6_init_r1 := goodIn_r _ [101, 102, 103, 104, 105, 79, 294, 180, 295, 198, 199, 81, 296, 250, 251, 82, 297, 268, 269, 83, 298, 283, 284, 84] rfl (by decide +kernel)
set_option maxRecDepth 100000 in
theorem zgp_wsX6_init_r2 : GoodIn lw_tbl wsX6_init_r2 := goodIn_r _ [299, 178, 300, 301, 107, 108, 109, 110, 111, 80, 179, 181, 183, 185, 186, 113, 114, 115, 129, 134, 140, 145, 149, 116] rfl (by decide +kernel)
set_option maxRecDepth 100000 in
theorem zgp_wsX6_init_r3 : GoodIn lw_tbl wsX6_init_r3 := goodIn_r _ [155, 201, 202, 203, 206, 208, 210, 212, 214, 216, 219, 220, 221, 222, 249, 223, 253, 254, 255, 257, 259, 256, 260, 271] rfl (by decide +kernel)
set_option maxRecDepth 100000 in
theorem zgp_wsX6_init_r4 : GoodIn lw_tbl wsX6_init_r4 := goodIn_r _ [272, 273, 286, 287, 288, 289, 290] rfl (by decide +kernel)
set_option maxRecDepth 100000 in
theorem zgp_wsX40 : GoodIn lw_tbl wsX40 := goodIn_r _ [187, 189, 191, 193, 195] rfl (by decide +kernel)
set_option maxRecDepth 100000 in
theorem zgp_wsX60 : GoodIn lw_tbl wsX60 := goodIn_r _ [302, 304, 306, 308, 310, 312, 314, 316] rfl (by decide +kernel)
set_option maxRecDepth 100000 in
theorem zgp_wsX10 : GoodIn lw_tbl wsX10 := goodIn_r _ [224, 226, 228, 230, 232, 234, 236, 238, 240, 242, 244, 246] rfl (by decide +kernel)
set_option maxRecDepth 100000 in
theorem zgp_wsX20 : GoodIn lw_tbl wsX20 := goodIn_r _ [261, 263, 265] rfl (by decide +kernel)
set_option maxRecDepth 100000 in
theorem zgp_wsX30 : GoodIn lw_tbl wsX30 := goodIn_r _ [278, 280] rfl (by decide +kernel)
set_option maxRecDepth 100000 in
theorem zgp_wsX00 : GoodIn lw_tbl wsX00 := goodIn_r _ [291] rfl (by decide +kernel)
set_option maxRecDepth 100000 in
theorem zgp_wsX50 : GoodIn lw_tbl wsX50 := goodIn_r _ [161, 163, 165, 167, 169, 171, 173, 175] rfl (by decide +kernel)
set_option maxRecDepth 100000 in
theorem zgg_X6_init : GoodIn lw_tbl wsX6_init := fun w hw => (List.mem_cons.mp hw).elim (fun e => by rw [e]; exact ⟨(List.mem_of_getElem? (i := 100) rfl), good_of_word (by decide +kernel)⟩) ((goodIn_app (goodIn_app (goodIn_app (goodIn_app (goodIn_app (goodIn_app (goodIn_app (goodIn_app zgp_wsX6_init_r1 (goodIn_app zgp_wsX6_init_r2 (goodIn_app zgp_wsX6_init_r3 zgp_wsX6_init_r4))) zgp_wsX40) zgp_wsX60) zgp_wsX10) zgp_wsX20) zgp_wsX30) zgp_wsX00) zgp_wsX50) w)
set_option maxRecDepth 100000 in
theorem zgp_wsX7_init_r1 : GoodIn lw_tbl wsX7_init_r1 := goodIn_r _ [861, 102, 103, 178, 865, 866, 867, 868, 869, 870, 871, 873, 947, 874, 877, 878, 879, 880, 881, 883, 884, 885, 886, 887] rfl (by decide +kernel)
set_option maxRecDepth 100000 in
theorem zgp_wsX7_init_r2 : GoodIn lw_tbl wsX7_init_r2 := goodIn_r _ [888, 889] rfl (by decide +kernel)
set_option maxRecDepth 100000 in
theorem zgp_wsX70 : GoodIn lw_tbl wsX70 := goodIn_r _ [890, 892, 894, 896, 898, 900, 902, 904, 906, 908, 910, 912, 914, 916, 918, 920, 922, 924, 926, 928, 930, 932, 934, 936, 938, 940, 942, 944] rfl (by decide +kernel)
set_option maxRecDepth 100000 in
theorem zgg_X7_init : GoodIn lw_tbl wsX7_init := fun w hw => (List.mem_cons.mp hw).elim (fun e => by rw [e]; exact ⟨(List.mem_of_getElem? (i := 860) rfl), good_of_word (by decide +kernel)⟩) ((goodIn_app (goodIn_app zgp_wsX7_init_r1 zgp_wsX7_init_r2) zgp_wsX70) w)
set_option maxRecDepth 100000 in
theorem zgp_wsL_column_r1 : GoodIn lw_tbl wsL_column_r1 := goodIn_r _ [607, 608, 609, 610, 611, 78, 612, 613, 89, 685, 90, 295, 119, 301, 681, 682, 683, 684, 373, 374, 701, 702, 703, 80] rfl (by decide +kernel)
set_option maxRecDepth 100000 in
theorem zgp_wsL_column_r2 : GoodIn lw_tbl wsL_column_r2 := goodIn_r _ [704, 118, 129, 134, 140] rfl (by decide +kernel)
set_option maxRecDepth 100000 in
theorem zgg_L_column : GoodIn lw_tbl wsL_column := fun w hw => (List.mem_cons.mp hw).elim (fun e => by rw [e]; exact ⟨(List.mem_of_getElem? (i := 606) rfl), good_of_word (by decide +kernel)⟩) ((goodIn_app (goodIn_app (goodIn_app (goodIn_app (goodIn_app zgp_wsL_column_r1 zgp_wsL_column_r2) zgp_wsX60) zgp_wsX50) zgx_66) zgx_80) w)
set_option maxRecDepth 100000 in
theorem zg_L_column : GoodIn lw_tbl (va_wsS RL 69 yL_column wsL_column) := goodIn_app (goodIn_r _ [604, 605, 77] rfl (by decide +kernel)) zgg_L_column
set_option maxRecDepth 100000 in
theorem zgp_16 : GoodIn lw_tbl ([.fieldLink RX7 78 "FlowPartsModel" "columns" "I", .constantLong RX7 88 (-1000), .constantLong RX7 90 (1000), .fieldLink RX7 7 "FlowPartsModel" "lows" "[I", .fieldLink RX7 13 "FlowPartsModel" "highs" "[I", .fieldLink RX7 16 "FlowPartsModel" "costs" "[I", .fieldLink RX7 25 "FlowPartsModel" "coefs" "[I", .fieldLink RX7 28 "FlowPartsModel" "solved" "I", .methodLink RX7 92 yX7_areBounds, .static yX7_areBounds, .initialized RX7, .code yX7_areBounds cX7_areBounds 2 (some .boolean), .methodLink RX7 81 yX7_within, .static yX7_within, .code yX7_within cX7_within 6 (some .boolean), .methodLink RX7 96 yX7_passes, .instanceMethod yX7_passes, .selects RX7 yX7_passes yX7_passes, .code yX7_passes cX7_passes 3 (some .boolean), .fieldLink RX7 75 "FlowPartsModel" "thrown" "I"] : List Cond) := goodIn_r _ [863, 959, 960, 865, 866, 867, 870, 871, 956, 957, 85, 958, 961, 962, 963, 964, 966, 44, 967, 862] rfl (by decide +kernel)
set_option maxRecDepth 100000 in
theorem zgg_X7_column : GoodIn lw_tbl wsX7_column := fun w hw => (List.mem_cons.mp hw).elim (fun e => by rw [e]; exact ⟨(List.mem_of_getElem? (i := 955) rfl), good_of_word (by decide +kernel)⟩) ((goodIn_app zgp_16 zgp_wsX70) w)
set_option maxRecDepth 100000 in
theorem zg_X7_column : GoodIn lw_tbl (wsV RL 74 RX7 yX7_column wsX7_column) := goodIn_app (goodIn_r _ [952, 953, 954, 85] rfl (by decide +kernel)) zgg_X7_column
set_option maxRecDepth 100000 in
theorem zgp_17 : GoodIn lw_tbl ([.fieldLink RX7 75 "FlowPartsModel" "thrown" "I"] : List Cond) := goodIn_r _ [862] rfl (by decide +kernel)
set_option maxRecDepth 100000 in
theorem zgg_X7_thrown : GoodIn lw_tbl wsX7_thrown := fun w hw => (List.mem_cons.mp hw).elim (fun e => by rw [e]; exact ⟨(List.mem_of_getElem? (i := 951) rfl), good_of_word (by decide +kernel)⟩) ((goodIn_app zgp_17 zgp_wsX70) w)
set_option maxRecDepth 100000 in
theorem zg_X7_thrown : GoodIn lw_tbl (wsV RL 75 RX7 yX7_thrown wsX7_thrown) := goodIn_app (goodIn_r _ [948, 949, 950, 85] rfl (by decide +kernel)) zgg_X7_thrown
set_option maxRecDepth 100000 in
theorem zgp_wsL_row_r1 : GoodIn lw_tbl wsL_row_r1 := goodIn_r _ [607, 608, 708, 709, 710, 78, 711, 613, 89, 685, 90, 295, 128, 713, 301, 684, 373, 374, 715, 716, 717, 80, 718, 127] rfl (by decide +kernel)
set_option maxRecDepth 100000 in
theorem zgp_wsL_row_r2 : GoodIn lw_tbl wsL_row_r2 := goodIn_r _ [145, 149] rfl (by decide +kernel)
set_option maxRecDepth 100000 in
theorem zgg_L_row : GoodIn lw_tbl wsL_row := fun w hw => (List.mem_cons.mp hw).elim (fun e => by rw [e]; exact ⟨(List.mem_of_getElem? (i := 707) rfl), good_of_word (by decide +kernel)⟩) ((goodIn_app (goodIn_app (goodIn_app (goodIn_app (goodIn_app zgp_wsL_row_r1 zgp_wsL_row_r2) zgp_wsX60) zgp_wsX50) zgx_66) zgx_80) w)
set_option maxRecDepth 100000 in
theorem zg_L_row : GoodIn lw_tbl (va_wsS RL 78 yL_row wsL_row) := goodIn_app (goodIn_r _ [705, 706, 77] rfl (by decide +kernel)) zgg_L_row
set_option maxRecDepth 100000 in
theorem zgp_20 : GoodIn lw_tbl ([.fieldLink RX7 85 "FlowPartsModel" "rows" "I", .constantLong RX7 100 (-100000), .constantLong RX7 102 (100000), .fieldLink RX7 19 "FlowPartsModel" "kinds" "[I", .fieldLink RX7 22 "FlowPartsModel" "rights" "[I", .fieldLink RX7 25 "FlowPartsModel" "coefs" "[I", .fieldLink RX7 28 "FlowPartsModel" "solved" "I", .methodLink RX7 81 yX7_within, .static yX7_within, .initialized RX7, .code yX7_within cX7_within 6 (some .boolean), .methodLink RX7 96 yX7_passes, .instanceMethod yX7_passes, .selects RX7 yX7_passes yX7_passes, .code yX7_passes cX7_passes 3 (some .boolean), .fieldLink RX7 75 "FlowPartsModel" "thrown" "I"] : List Cond) := goodIn_r _ [864, 972, 973, 868, 869, 870, 871, 961, 962, 85, 963, 964, 966, 44, 967, 862] rfl (by decide +kernel)
set_option maxRecDepth 100000 in
theorem zgg_X7_row : GoodIn lw_tbl wsX7_row := fun w hw => (List.mem_cons.mp hw).elim (fun e => by rw [e]; exact ⟨(List.mem_of_getElem? (i := 971) rfl), good_of_word (by decide +kernel)⟩) ((goodIn_app zgp_20 zgp_wsX70) w)
set_option maxRecDepth 100000 in
theorem zg_X7_row : GoodIn lw_tbl (wsV RL 81 RX7 yX7_row wsX7_row) := goodIn_app (goodIn_r _ [968, 969, 970, 85] rfl (by decide +kernel)) zgg_X7_row
set_option maxRecDepth 100000 in
theorem zgp_wsL_term_r1 : GoodIn lw_tbl wsL_term_r1 := goodIn_r _ [722, 608, 723, 724, 725, 78, 726, 685, 90, 301, 295, 159, 727, 729, 39, 730, 731, 91, 128, 747, 749, 40, 750, 119] rfl (by decide +kernel)
set_option maxRecDepth 100000 in
theorem zgp_wsL_term_r2 : GoodIn lw_tbl wsL_term_r2 := goodIn_r _ [684, 373, 374] rfl (by decide +kernel)
set_option maxRecDepth 100000 in
theorem zgg_L_term : GoodIn lw_tbl wsL_term := fun w hw => (List.mem_cons.mp hw).elim (fun e => by rw [e]; exact ⟨(List.mem_of_getElem? (i := 721) rfl), good_of_word (by decide +kernel)⟩) ((goodIn_app (goodIn_app (goodIn_app (goodIn_app (goodIn_app zgp_wsL_term_r1 zgp_wsL_term_r2) zgp_wsX60) zgp_wsX50) zgx_80) zgx_213) w)
set_option maxRecDepth 100000 in
theorem zg_L_term : GoodIn lw_tbl (va_wsS RL 82 yL_term wsL_term) := goodIn_app (goodIn_r _ [719, 720, 77] rfl (by decide +kernel)) zgg_L_term
set_option maxRecDepth 100000 in
theorem zgp_23 : GoodIn lw_tbl ([.constantLong RX7 111 (-100), .constantLong RX7 113 (100), .fieldLink RX7 25 "FlowPartsModel" "coefs" "[I", .fieldLink RX7 28 "FlowPartsModel" "solved" "I", .methodLink RX7 104 yX7_isRow, .instanceMethod yX7_isRow, .selects RX7 yX7_isRow yX7_isRow, .initialized RX7, .code yX7_isRow cX7_isRow 2 (some .boolean), .fieldLink RX7 85 "FlowPartsModel" "rows" "I", .methodLink RX7 81 yX7_within, .static yX7_within, .code yX7_within cX7_within 6 (some .boolean), .methodLink RX7 108 yX7_isColumn, .instanceMethod yX7_isColumn, .selects RX7 yX7_isColumn yX7_isColumn, .code yX7_isColumn cX7_isColumn 2 (some .boolean), .fieldLink RX7 78 "FlowPartsModel" "columns" "I", .methodLink RX7 96 yX7_passes, .instanceMethod yX7_passes, .selects RX7 yX7_passes yX7_passes, .code yX7_passes cX7_passes 3 (some .boolean), .fieldLink RX7 75 "FlowPartsModel" "thrown" "I"] : List Cond) := goodIn_r _ [986, 987, 870, 871, 978, 980, 45, 85, 981, 864, 961, 962, 963, 982, 984, 46, 985, 863, 964, 966, 44, 967, 862] rfl (by decide +kernel)
set_option maxRecDepth 100000 in
theorem zgg_X7_term : GoodIn lw_tbl wsX7_term := fun w hw => (List.mem_cons.mp hw).elim (fun e => by rw [e]; exact ⟨(List.mem_of_getElem? (i := 977) rfl), good_of_word (by decide +kernel)⟩) ((goodIn_app zgp_23 zgp_wsX70) w)
set_option maxRecDepth 100000 in
theorem zg_X7_term : GoodIn lw_tbl (wsV RL 85 RX7 yX7_term wsX7_term) := goodIn_app (goodIn_r _ [974, 975, 976, 85] rfl (by decide +kernel)) zgg_X7_term
set_option maxRecDepth 100000 in
theorem zgp_wsL_bounds_r1 : GoodIn lw_tbl wsL_bounds_r1 := goodIn_r _ [722, 608, 756, 757, 758, 78, 759, 685, 90, 301, 295, 132, 138, 747, 749, 40, 750, 731, 91, 119, 681, 682, 683, 684] rfl (by decide +kernel)
