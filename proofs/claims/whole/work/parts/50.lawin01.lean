set_option maxRecDepth 100000 in
theorem zgp_wsL_bounds_r2 : GoodIn lw_tbl wsL_bounds_r2 := goodIn_r _ [373, 374] rfl (by decide +kernel)
set_option maxRecDepth 100000 in
theorem zgg_L_bounds : GoodIn lw_tbl wsL_bounds := fun w hw => (List.mem_cons.mp hw).elim (fun e => by rw [e]; exact ⟨(List.mem_of_getElem? (i := 755) rfl), good_of_word (by decide +kernel)⟩) ((goodIn_app (goodIn_app (goodIn_app (goodIn_app (goodIn_app zgp_wsL_bounds_r1 zgp_wsL_bounds_r2) zgp_wsX60) zgp_wsX50) zgx_80) zgx_213) w)
set_option maxRecDepth 100000 in
theorem zg_L_bounds : GoodIn lw_tbl (va_wsS RL 86 yL_bounds wsL_bounds) := goodIn_app (goodIn_r _ [753, 754, 77] rfl (by decide +kernel)) zgg_L_bounds
set_option maxRecDepth 100000 in
theorem zgp_26 : GoodIn lw_tbl ([.fieldLink RX7 7 "FlowPartsModel" "lows" "[I", .fieldLink RX7 13 "FlowPartsModel" "highs" "[I", .fieldLink RX7 28 "FlowPartsModel" "solved" "I", .methodLink RX7 108 yX7_isColumn, .instanceMethod yX7_isColumn, .selects RX7 yX7_isColumn yX7_isColumn, .initialized RX7, .code yX7_isColumn cX7_isColumn 2 (some .boolean), .fieldLink RX7 78 "FlowPartsModel" "columns" "I", .methodLink RX7 81 yX7_within, .static yX7_within, .code yX7_within cX7_within 6 (some .boolean), .methodLink RX7 92 yX7_areBounds, .static yX7_areBounds, .code yX7_areBounds cX7_areBounds 2 (some .boolean), .constantLong RX7 88 (-1000), .constantLong RX7 90 (1000), .methodLink RX7 96 yX7_passes, .instanceMethod yX7_passes, .selects RX7 yX7_passes yX7_passes, .code yX7_passes cX7_passes 3 (some .boolean), .fieldLink RX7 75 "FlowPartsModel" "thrown" "I"] : List Cond) := goodIn_r _ [865, 866, 871, 982, 984, 46, 85, 985, 863, 961, 962, 963, 956, 957, 958, 959, 960, 964, 966, 44, 967, 862] rfl (by decide +kernel)
set_option maxRecDepth 100000 in
theorem zgg_X7_bounds : GoodIn lw_tbl wsX7_bounds := fun w hw => (List.mem_cons.mp hw).elim (fun e => by rw [e]; exact ⟨(List.mem_of_getElem? (i := 991) rfl), good_of_word (by decide +kernel)⟩) ((goodIn_app zgp_26 zgp_wsX70) w)
set_option maxRecDepth 100000 in
theorem zg_X7_bounds : GoodIn lw_tbl (wsV RL 88 RX7 yX7_bounds wsX7_bounds) := goodIn_app (goodIn_r _ [988, 989, 990, 85] rfl (by decide +kernel)) zgg_X7_bounds
set_option maxRecDepth 100000 in
theorem zgp_27 : GoodIn lw_tbl ([.classLink RL 25 "java/lang/IndexOutOfBoundsException", .classLink RL 15 "java/lang/IllegalArgumentException", .methodLink RL 30 yX6_cost, .instanceMethod yX6_cost, .selects RX6 yX6_cost yX6_cost, .initialized RX6, .code yX6_cost cX6_cost 4 (some .int), .classLink RX6 76 "java/lang/IllegalArgumentException", .initialized "java/lang/IllegalArgumentException", .fieldLink RX6 53 "FlowParts" "solved" "I", .fieldLink RX6 20 "FlowParts" "whole" "LFlowParts$Whole;", .fieldLink RX6 120 "FlowParts$Whole" "cost" "[I", .methodLink RX6 101 yX6_needColumn, .instanceMethod yX6_needColumn, .selects RX6 yX6_needColumn yX6_needColumn, .code yX6_needColumn cX6_needColumn 2 none, .classLink RX6 209 "java/lang/IndexOutOfBoundsException", .initialized "java/lang/IndexOutOfBoundsException", .fieldLink RX6 57 "FlowParts$Whole" "columns" "I", .methodLink RX6 73 yX6_isWithin, .static yX6_isWithin, .code yX6_isWithin cX6_isWithin 2 (some .boolean)] : List Cond) := goodIn_r _ [722, 608, 764, 765, 766, 78, 767, 685, 90, 301, 295, 143, 747, 749, 40, 750, 731, 91, 119, 684, 373, 374] rfl (by decide +kernel)
set_option maxRecDepth 100000 in
theorem zgg_L_cost : GoodIn lw_tbl wsL_cost := fun w hw => (List.mem_cons.mp hw).elim (fun e => by rw [e]; exact ⟨(List.mem_of_getElem? (i := 763) rfl), good_of_word (by decide +kernel)⟩) ((goodIn_app (goodIn_app (goodIn_app (goodIn_app zgp_27 zgp_wsX60) zgp_wsX50) zgx_80) zgx_213) w)
set_option maxRecDepth 100000 in
theorem zg_L_cost : GoodIn lw_tbl (va_wsS RL 89 yL_cost wsL_cost) := goodIn_app (goodIn_r _ [761, 762, 77] rfl (by decide +kernel)) zgg_L_cost
set_option maxRecDepth 100000 in
theorem zgp_28 : GoodIn lw_tbl ([.constantLong RX7 88 (-1000), .constantLong RX7 90 (1000), .fieldLink RX7 16 "FlowPartsModel" "costs" "[I", .fieldLink RX7 28 "FlowPartsModel" "solved" "I", .methodLink RX7 108 yX7_isColumn, .instanceMethod yX7_isColumn, .selects RX7 yX7_isColumn yX7_isColumn, .initialized RX7, .code yX7_isColumn cX7_isColumn 2 (some .boolean), .fieldLink RX7 78 "FlowPartsModel" "columns" "I", .methodLink RX7 81 yX7_within, .static yX7_within, .code yX7_within cX7_within 6 (some .boolean), .methodLink RX7 96 yX7_passes, .instanceMethod yX7_passes, .selects RX7 yX7_passes yX7_passes, .code yX7_passes cX7_passes 3 (some .boolean), .fieldLink RX7 75 "FlowPartsModel" "thrown" "I"] : List Cond) := goodIn_r _ [959, 960, 867, 871, 982, 984, 46, 85, 985, 863, 961, 962, 963, 964, 966, 44, 967, 862] rfl (by decide +kernel)
set_option maxRecDepth 100000 in
theorem zgg_X7_cost : GoodIn lw_tbl wsX7_cost := fun w hw => (List.mem_cons.mp hw).elim (fun e => by rw [e]; exact ⟨(List.mem_of_getElem? (i := 995) rfl), good_of_word (by decide +kernel)⟩) ((goodIn_app zgp_28 zgp_wsX70) w)
set_option maxRecDepth 100000 in
theorem zg_X7_cost : GoodIn lw_tbl (wsV RL 91 RX7 yX7_cost wsX7_cost) := goodIn_app (goodIn_r _ [992, 993, 994, 85] rfl (by decide +kernel)) zgg_X7_cost
set_option maxRecDepth 100000 in
theorem zgp_29 : GoodIn lw_tbl ([.classLink RL 25 "java/lang/IndexOutOfBoundsException", .classLink RL 15 "java/lang/IllegalArgumentException", .methodLink RL 33 yX6_right, .instanceMethod yX6_right, .selects RX6 yX6_right yX6_right, .initialized RX6, .code yX6_right cX6_right 4 (some .int), .classLink RX6 76 "java/lang/IllegalArgumentException", .initialized "java/lang/IllegalArgumentException", .constant RX6 90 (100000), .fieldLink RX6 53 "FlowParts" "solved" "I", .fieldLink RX6 20 "FlowParts" "whole" "LFlowParts$Whole;", .fieldLink RX6 125 "FlowParts$Whole" "right" "[I", .methodLink RX6 97 yX6_needRow, .instanceMethod yX6_needRow, .selects RX6 yX6_needRow yX6_needRow, .code yX6_needRow cX6_needRow 2 none, .classLink RX6 209 "java/lang/IndexOutOfBoundsException", .initialized "java/lang/IndexOutOfBoundsException", .fieldLink RX6 85 "FlowParts$Whole" "rows" "I", .methodLink RX6 73 yX6_isWithin, .static yX6_isWithin, .code yX6_isWithin cX6_isWithin 2 (some .boolean)] : List Cond) := goodIn_r _ [722, 608, 772, 773, 774, 78, 775, 685, 90, 713, 301, 295, 154, 727, 729, 39, 730, 731, 91, 128, 684, 373, 374] rfl (by decide +kernel)
set_option maxRecDepth 100000 in
theorem zgg_L_right : GoodIn lw_tbl wsL_right := fun w hw => (List.mem_cons.mp hw).elim (fun e => by rw [e]; exact ⟨(List.mem_of_getElem? (i := 771) rfl), good_of_word (by decide +kernel)⟩) ((goodIn_app (goodIn_app (goodIn_app (goodIn_app zgp_29 zgp_wsX60) zgp_wsX50) zgx_80) zgx_213) w)
set_option maxRecDepth 100000 in
theorem zg_L_right : GoodIn lw_tbl (va_wsS RL 92 yL_right wsL_right) := goodIn_app (goodIn_r _ [769, 770, 77] rfl (by decide +kernel)) zgg_L_right
set_option maxRecDepth 100000 in
theorem zgp_30 : GoodIn lw_tbl ([.constantLong RX7 100 (-100000), .constantLong RX7 102 (100000), .fieldLink RX7 22 "FlowPartsModel" "rights" "[I", .fieldLink RX7 28 "FlowPartsModel" "solved" "I", .methodLink RX7 104 yX7_isRow, .instanceMethod yX7_isRow, .selects RX7 yX7_isRow yX7_isRow, .initialized RX7, .code yX7_isRow cX7_isRow 2 (some .boolean), .fieldLink RX7 85 "FlowPartsModel" "rows" "I", .methodLink RX7 81 yX7_within, .static yX7_within, .code yX7_within cX7_within 6 (some .boolean), .methodLink RX7 96 yX7_passes, .instanceMethod yX7_passes, .selects RX7 yX7_passes yX7_passes, .code yX7_passes cX7_passes 3 (some .boolean), .fieldLink RX7 75 "FlowPartsModel" "thrown" "I"] : List Cond) := goodIn_r _ [972, 973, 869, 871, 978, 980, 45, 85, 981, 864, 961, 962, 963, 964, 966, 44, 967, 862] rfl (by decide +kernel)
set_option maxRecDepth 100000 in
theorem zgg_X7_right : GoodIn lw_tbl wsX7_right := fun w hw => (List.mem_cons.mp hw).elim (fun e => by rw [e]; exact ⟨(List.mem_of_getElem? (i := 999) rfl), good_of_word (by decide +kernel)⟩) ((goodIn_app zgp_30 zgp_wsX70) w)
set_option maxRecDepth 100000 in
theorem zg_X7_right : GoodIn lw_tbl (wsV RL 94 RX7 yX7_right wsX7_right) := goodIn_app (goodIn_r _ [996, 997, 998, 85] rfl (by decide +kernel)) zgg_X7_right
set_option maxRecDepth 100000 in
theorem zgp_31 : GoodIn lw_tbl ([.fieldLink RX6 53 "FlowParts" "solved" "I", .fieldLink RX6 20 "FlowParts" "whole" "LFlowParts$Whole;", .fieldLink RX6 57 "FlowParts$Whole" "columns" "I", .methodLink RX6 128 yX5_wipe, .instanceMethod yX5_wipe, .selects RX5 yX5_wipe yX5_wipe, .initialized RX5, .code yX5_wipe cX5_wipe 2 none, .fieldLink RX5 29 "FlowParts$Whole" "a" "[[I", .fieldLink RX5 32 "FlowParts$Whole" "columns" "I", .fieldLink RX5 36 "FlowParts$Whole" "rows" "I", .methodLink RX5 39 yJ7_fill_53178, .static yJ7_fill_53178, .initialized RJ7, .code yJ7_fill_53178 cJ7_fill_53178 4 none] : List Cond) := goodIn_r _ [301, 295, 119, 323, 324, 325, 80, 326, 155, 118, 127, 327, 328, 92, 329] rfl (by decide +kernel)
set_option maxRecDepth 100000 in
theorem zgg_X6_clear : GoodIn lw_tbl wsX6_clear := fun w hw => (List.mem_cons.mp hw).elim (fun e => by rw [e]; exact ⟨(List.mem_of_getElem? (i := 322) rfl), good_of_word (by decide +kernel)⟩) ((goodIn_app (goodIn_app zgp_31 zgp_wsX60) zgp_wsX50) w)
set_option maxRecDepth 100000 in
theorem zg_X6_clear : GoodIn lw_tbl (wsV RL 95 RX6 yX6_clear wsX6_clear) := goodIn_app (goodIn_r _ [319, 320, 321, 78] rfl (by decide +kernel)) zgg_X6_clear
set_option maxRecDepth 100000 in
theorem zgp_32 : GoodIn lw_tbl ([.fieldLink RX7 75 "FlowPartsModel" "thrown" "I", .fieldLink RX7 78 "FlowPartsModel" "columns" "I", .fieldLink RX7 85 "FlowPartsModel" "rows" "I", .fieldLink RX7 28 "FlowPartsModel" "solved" "I"] : List Cond) := goodIn_r _ [862, 863, 864, 871] rfl (by decide +kernel)
set_option maxRecDepth 100000 in
theorem zgg_X7_clear : GoodIn lw_tbl wsX7_clear := fun w hw => (List.mem_cons.mp hw).elim (fun e => by rw [e]; exact ⟨(List.mem_of_getElem? (i := 1003) rfl), good_of_word (by decide +kernel)⟩) ((goodIn_app zgp_32 zgp_wsX70) w)
set_option maxRecDepth 100000 in
theorem zg_X7_clear : GoodIn lw_tbl (wsV RL 98 RX7 yX7_clear wsX7_clear) := goodIn_app (goodIn_r _ [1000, 1001, 1002, 85] rfl (by decide +kernel)) zgg_X7_clear
set_option maxRecDepth 100000 in
theorem zgp_wsX6_parts_r1 : GoodIn lw_tbl wsX6_parts_r1 := goodIn_r _ [294, 334, 335, 336, 79, 337, 179, 120, 126, 181, 338, 340, 0, 341, 183, 342, 344, 1, 345, 160, 346, 347, 348, 80] rfl (by decide +kernel)
set_option maxRecDepth 100000 in
theorem zgp_wsX6_parts_r2 : GoodIn lw_tbl wsX6_parts_r2 := goodIn_r _ [349, 127, 155, 350, 352, 2, 353, 354, 355, 93, 356, 357, 358, 359] rfl (by decide +kernel)
set_option maxRecDepth 100000 in
theorem zgg_X6_parts : GoodIn lw_tbl wsX6_parts := fun w hw => (List.mem_cons.mp hw).elim (fun e => by rw [e]; exact ⟨(List.mem_of_getElem? (i := 333) rfl), good_of_word (by decide +kernel)⟩) ((goodIn_app (goodIn_app (goodIn_app (goodIn_app zgp_wsX6_parts_r1 zgp_wsX6_parts_r2) zgp_wsX60) zgp_wsX40) zgp_wsX50) w)
set_option maxRecDepth 100000 in
theorem zg_X6_parts : GoodIn lw_tbl (wsV RL 99 RX6 yX6_parts wsX6_parts) := goodIn_app (goodIn_r _ [330, 331, 332, 78] rfl (by decide +kernel)) zgg_X6_parts
set_option maxRecDepth 100000 in
theorem zgp_35 : GoodIn lw_tbl ([.fieldLink RX7 75 "FlowPartsModel" "thrown" "I", .fieldLink RX7 85 "FlowPartsModel" "rows" "I", .fieldLink RX7 39 "FlowPartsModel" "least" "[I", .methodLink RX7 123 yX7_findParts, .instanceMethod yX7_findParts, .selects RX7 yX7_findParts yX7_findParts, .initialized RX7, .code yX7_findParts cX7_findParts 3 none, .fieldLink RX7 78 "FlowPartsModel" "columns" "I", .methodLink RX7 115 yX7_joinRows, .instanceMethod yX7_joinRows, .selects RX7 yX7_joinRows yX7_joinRows, .code yX7_joinRows cX7_joinRows 4 none, .methodLink RX7 119 yX7_coef, .instanceMethod yX7_coef, .selects RX7 yX7_coef yX7_coef, .code yX7_coef cX7_coef 3 (some .int), .fieldLink RX7 25 "FlowPartsModel" "coefs" "[I"] : List Cond) := goodIn_r _ [862, 864, 877, 1008, 1010, 47, 85, 1011, 863, 1012, 1014, 48, 1015, 1016, 1018, 49, 1019, 870] rfl (by decide +kernel)
set_option maxRecDepth 100000 in
theorem zgg_X7_parts : GoodIn lw_tbl wsX7_parts := fun w hw => (List.mem_cons.mp hw).elim (fun e => by rw [e]; exact ⟨(List.mem_of_getElem? (i := 1007) rfl), good_of_word (by decide +kernel)⟩) ((goodIn_app zgp_35 zgp_wsX70) w)
set_option maxRecDepth 100000 in
theorem zg_X7_parts : GoodIn lw_tbl (wsV RL 102 RX7 yX7_parts wsX7_parts) := goodIn_app (goodIn_r _ [1004, 1005, 1006, 85] rfl (by decide +kernel)) zgg_X7_parts
set_option maxRecDepth 100000 in
theorem zgp_wsL_part_r1 : GoodIn lw_tbl wsL_part_r1 := goodIn_r _ [722, 780, 781, 782, 78, 783, 294, 182, 727, 729, 39, 730, 731, 91, 295, 128, 334, 335, 336, 79, 337, 179, 120, 126] rfl (by decide +kernel)
set_option maxRecDepth 100000 in
theorem zgp_wsL_part_r2 : GoodIn lw_tbl wsL_part_r2 := goodIn_r _ [181, 338, 340, 0, 341, 183, 342, 344, 1, 345, 160, 346, 347, 348, 80, 349, 127, 155, 350, 352, 2, 353, 354, 355] rfl (by decide +kernel)
set_option maxRecDepth 100000 in
theorem zgp_wsL_part_r3 : GoodIn lw_tbl wsL_part_r3 := goodIn_r _ [93, 356, 357, 358, 359] rfl (by decide +kernel)
set_option maxRecDepth 100000 in
theorem zgg_L_part : GoodIn lw_tbl wsL_part := fun w hw => (List.mem_cons.mp hw).elim (fun e => by rw [e]; exact ⟨(List.mem_of_getElem? (i := 779) rfl), good_of_word (by decide +kernel)⟩) ((goodIn_app (goodIn_app (goodIn_app (goodIn_app (goodIn_app zgp_wsL_part_r1 (goodIn_app zgp_wsL_part_r2 zgp_wsL_part_r3)) zgp_wsX60) zgp_wsX40) zgp_wsX50) zgx_213) w)
set_option maxRecDepth 100000 in
theorem zg_L_part : GoodIn lw_tbl (va_wsS RL 103 yL_part wsL_part) := goodIn_app (goodIn_r _ [777, 778, 77] rfl (by decide +kernel)) zgg_L_part
set_option maxRecDepth 100000 in
theorem zgp_wsX7_part_r1 : GoodIn lw_tbl wsX7_part_r1 := goodIn_r _ [877, 978, 980, 45, 85, 981, 864, 961, 962, 963, 964, 966, 44, 967, 862, 1008, 1010, 47, 1011, 863, 1012, 1014, 48, 1015] rfl (by decide +kernel)
set_option maxRecDepth 100000 in
theorem zgp_wsX7_part_r2 : GoodIn lw_tbl wsX7_part_r2 := goodIn_r _ [1016, 1018, 49, 1019, 870] rfl (by decide +kernel)
set_option maxRecDepth 100000 in
theorem zgg_X7_part : GoodIn lw_tbl wsX7_part := fun w hw => (List.mem_cons.mp hw).elim (fun e => by rw [e]; exact ⟨(List.mem_of_getElem? (i := 1023) rfl), good_of_word (by decide +kernel)⟩) ((goodIn_app (goodIn_app zgp_wsX7_part_r1 zgp_wsX7_part_r2) zgp_wsX70) w)
set_option maxRecDepth 100000 in
theorem zg_X7_part : GoodIn lw_tbl (wsV RL 106 RX7 yX7_part wsX7_part) := goodIn_app (goodIn_r _ [1020, 1021, 1022, 85] rfl (by decide +kernel)) zgg_X7_part
set_option maxRecDepth 100000 in
theorem zgp_wsX6_flow_r1 : GoodIn lw_tbl wsX6_flow_r1 := goodIn_r _ [294, 364, 365, 366, 79, 367, 179, 120, 368, 370, 3, 371, 126, 160, 373, 78, 374, 375, 376, 377, 80, 378, 127, 155] rfl (by decide +kernel)
set_option maxRecDepth 100000 in
theorem zgp_wsX6_flow_r2 : GoodIn lw_tbl wsX6_flow_r2 := goodIn_r _ [338, 340, 0, 341, 181, 183, 379, 381, 4, 382, 346, 347, 348, 349, 350, 352, 2, 353, 354, 355, 93, 356, 357, 358] rfl (by decide +kernel)
set_option maxRecDepth 100000 in
theorem zgp_wsX6_flow_r3 : GoodIn lw_tbl wsX6_flow_r3 := goodIn_r _ [359] rfl (by decide +kernel)
set_option maxRecDepth 100000 in
theorem zgg_X6_flow : GoodIn lw_tbl wsX6_flow := fun w hw => (List.mem_cons.mp hw).elim (fun e => by rw [e]; exact ⟨(List.mem_of_getElem? (i := 363) rfl), good_of_word (by decide +kernel)⟩) ((goodIn_app (goodIn_app (goodIn_app (goodIn_app zgp_wsX6_flow_r1 (goodIn_app zgp_wsX6_flow_r2 zgp_wsX6_flow_r3)) zgp_wsX60) zgp_wsX40) zgp_wsX50) w)
set_option maxRecDepth 100000 in
theorem zg_X6_flow : GoodIn lw_tbl (wsV RL 107 RX6 yX6_flow wsX6_flow) := goodIn_app (goodIn_r _ [360, 361, 362, 78] rfl (by decide +kernel)) zgg_X6_flow
