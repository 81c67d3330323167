set_option maxRecDepth 100000 in
theorem zgp_wsL_bounds_r2 : GoodIn lw_tbl wsL_bounds_r2 := goodIn_r _ [372, 373] rfl (by decide +kernel)
set_option maxRecDepth 100000 in
theorem zgg_L_bounds : GoodIn lw_tbl wsL_bounds := fun w hw => (List.mem_cons.mp hw).elim (fun e => by rw [e]; exact ⟨(List.mem_of_getElem? (i := 754) rfl), good_of_word (by decide +kernel)⟩) ((goodIn_app (goodIn_app (goodIn_app (goodIn_app (goodIn_app zgp_wsL_bounds_r1 zgp_wsL_bounds_r2) zgp_wsX60) zgp_wsX50) zgx_82) zgx_215) w)
set_option maxRecDepth 100000 in
theorem zg_L_bounds : GoodIn lw_tbl (va_wsS RL 86 yL_bounds wsL_bounds) := goodIn_app (goodIn_r _ [752, 753, 77] rfl (by decide +kernel)) zgg_L_bounds
set_option maxRecDepth 100000 in
theorem zgp_26 : GoodIn lw_tbl ([.fieldLink RX7 7 "FlowPartsModel" "lows" "[I", .fieldLink RX7 13 "FlowPartsModel" "highs" "[I", .fieldLink RX7 28 "FlowPartsModel" "solved" "I", .methodLink RX7 108 yX7_isColumn, .instanceMethod yX7_isColumn, .selects RX7 yX7_isColumn yX7_isColumn, .initialized RX7, .code yX7_isColumn cX7_isColumn 2 (some .boolean), .fieldLink RX7 78 "FlowPartsModel" "columns" "I", .methodLink RX7 81 yX7_within, .static yX7_within, .code yX7_within cX7_within 6 (some .boolean), .methodLink RX7 92 yX7_areBounds, .static yX7_areBounds, .code yX7_areBounds cX7_areBounds 2 (some .boolean), .constantLong RX7 88 (-1000), .constantLong RX7 90 (1000), .methodLink RX7 96 yX7_passes, .instanceMethod yX7_passes, .selects RX7 yX7_passes yX7_passes, .code yX7_passes cX7_passes 3 (some .boolean), .fieldLink RX7 75 "FlowPartsModel" "thrown" "I"] : List Cond) := goodIn_r _ [864, 865, 870, 981, 983, 46, 85, 984, 862, 960, 961, 962, 955, 956, 957, 958, 959, 963, 965, 44, 966, 861] rfl (by decide +kernel)
set_option maxRecDepth 100000 in
theorem zgg_X7_bounds : GoodIn lw_tbl wsX7_bounds := fun w hw => (List.mem_cons.mp hw).elim (fun e => by rw [e]; exact ⟨(List.mem_of_getElem? (i := 990) rfl), good_of_word (by decide +kernel)⟩) ((goodIn_app zgp_26 zgp_wsX70) w)
set_option maxRecDepth 100000 in
theorem zg_X7_bounds : GoodIn lw_tbl (wsV RL 88 RX7 yX7_bounds wsX7_bounds) := goodIn_app (goodIn_r _ [987, 988, 989, 85] rfl (by decide +kernel)) zgg_X7_bounds
set_option maxRecDepth 100000 in
theorem zgp_27 : GoodIn lw_tbl ([.classLink RL 25 "java/lang/IndexOutOfBoundsException", .classLink RL 15 "java/lang/IllegalArgumentException", .methodLink RL 30 yX6_cost, .instanceMethod yX6_cost, .selects RX6 yX6_cost yX6_cost, .initialized RX6, .code yX6_cost cX6_cost 4 (some .int), .classLink RX6 78 "java/lang/IllegalArgumentException", .initialized "java/lang/IllegalArgumentException", .fieldLink RX6 57 "FlowParts" "solved" "I", .fieldLink RX6 12 "FlowParts" "whole" "LFlowParts$Whole;", .fieldLink RX6 122 "FlowParts$Whole" "cost" "[I", .methodLink RX6 103 yX6_needColumn, .instanceMethod yX6_needColumn, .selects RX6 yX6_needColumn yX6_needColumn, .code yX6_needColumn cX6_needColumn 2 none, .classLink RX6 211 "java/lang/IndexOutOfBoundsException", .initialized "java/lang/IndexOutOfBoundsException", .fieldLink RX6 61 "FlowParts$Whole" "columns" "I", .methodLink RX6 75 yX6_isWithin, .static yX6_isWithin, .code yX6_isWithin cX6_isWithin 2 (some .boolean)] : List Cond) := goodIn_r _ [721, 607, 763, 764, 765, 78, 766, 684, 90, 300, 293, 137, 746, 748, 40, 749, 730, 91, 113, 683, 372, 373] rfl (by decide +kernel)
set_option maxRecDepth 100000 in
theorem zgg_L_cost : GoodIn lw_tbl wsL_cost := fun w hw => (List.mem_cons.mp hw).elim (fun e => by rw [e]; exact ⟨(List.mem_of_getElem? (i := 762) rfl), good_of_word (by decide +kernel)⟩) ((goodIn_app (goodIn_app (goodIn_app (goodIn_app zgp_27 zgp_wsX60) zgp_wsX50) zgx_82) zgx_215) w)
set_option maxRecDepth 100000 in
theorem zg_L_cost : GoodIn lw_tbl (va_wsS RL 89 yL_cost wsL_cost) := goodIn_app (goodIn_r _ [760, 761, 77] rfl (by decide +kernel)) zgg_L_cost
set_option maxRecDepth 100000 in
theorem zgp_28 : GoodIn lw_tbl ([.constantLong RX7 88 (-1000), .constantLong RX7 90 (1000), .fieldLink RX7 16 "FlowPartsModel" "costs" "[I", .fieldLink RX7 28 "FlowPartsModel" "solved" "I", .methodLink RX7 108 yX7_isColumn, .instanceMethod yX7_isColumn, .selects RX7 yX7_isColumn yX7_isColumn, .initialized RX7, .code yX7_isColumn cX7_isColumn 2 (some .boolean), .fieldLink RX7 78 "FlowPartsModel" "columns" "I", .methodLink RX7 81 yX7_within, .static yX7_within, .code yX7_within cX7_within 6 (some .boolean), .methodLink RX7 96 yX7_passes, .instanceMethod yX7_passes, .selects RX7 yX7_passes yX7_passes, .code yX7_passes cX7_passes 3 (some .boolean), .fieldLink RX7 75 "FlowPartsModel" "thrown" "I"] : List Cond) := goodIn_r _ [958, 959, 866, 870, 981, 983, 46, 85, 984, 862, 960, 961, 962, 963, 965, 44, 966, 861] rfl (by decide +kernel)
set_option maxRecDepth 100000 in
theorem zgg_X7_cost : GoodIn lw_tbl wsX7_cost := fun w hw => (List.mem_cons.mp hw).elim (fun e => by rw [e]; exact ⟨(List.mem_of_getElem? (i := 994) rfl), good_of_word (by decide +kernel)⟩) ((goodIn_app zgp_28 zgp_wsX70) w)
set_option maxRecDepth 100000 in
theorem zg_X7_cost : GoodIn lw_tbl (wsV RL 91 RX7 yX7_cost wsX7_cost) := goodIn_app (goodIn_r _ [991, 992, 993, 85] rfl (by decide +kernel)) zgg_X7_cost
set_option maxRecDepth 100000 in
theorem zgp_29 : GoodIn lw_tbl ([.classLink RL 25 "java/lang/IndexOutOfBoundsException", .classLink RL 15 "java/lang/IllegalArgumentException", .methodLink RL 33 yX6_right, .instanceMethod yX6_right, .selects RX6 yX6_right yX6_right, .initialized RX6, .code yX6_right cX6_right 4 (some .int), .classLink RX6 78 "java/lang/IllegalArgumentException", .initialized "java/lang/IllegalArgumentException", .constant RX6 92 (100000), .fieldLink RX6 57 "FlowParts" "solved" "I", .fieldLink RX6 12 "FlowParts" "whole" "LFlowParts$Whole;", .fieldLink RX6 127 "FlowParts$Whole" "right" "[I", .methodLink RX6 99 yX6_needRow, .instanceMethod yX6_needRow, .selects RX6 yX6_needRow yX6_needRow, .code yX6_needRow cX6_needRow 2 none, .classLink RX6 211 "java/lang/IndexOutOfBoundsException", .initialized "java/lang/IndexOutOfBoundsException", .fieldLink RX6 87 "FlowParts$Whole" "rows" "I", .methodLink RX6 75 yX6_isWithin, .static yX6_isWithin, .code yX6_isWithin cX6_isWithin 2 (some .boolean)] : List Cond) := goodIn_r _ [721, 607, 771, 772, 773, 78, 774, 684, 90, 712, 300, 293, 148, 726, 728, 39, 729, 730, 91, 122, 683, 372, 373] rfl (by decide +kernel)
set_option maxRecDepth 100000 in
theorem zgg_L_right : GoodIn lw_tbl wsL_right := fun w hw => (List.mem_cons.mp hw).elim (fun e => by rw [e]; exact ⟨(List.mem_of_getElem? (i := 770) rfl), good_of_word (by decide +kernel)⟩) ((goodIn_app (goodIn_app (goodIn_app (goodIn_app zgp_29 zgp_wsX60) zgp_wsX50) zgx_82) zgx_215) w)
set_option maxRecDepth 100000 in
theorem zg_L_right : GoodIn lw_tbl (va_wsS RL 92 yL_right wsL_right) := goodIn_app (goodIn_r _ [768, 769, 77] rfl (by decide +kernel)) zgg_L_right
set_option maxRecDepth 100000 in
theorem zgp_30 : GoodIn lw_tbl ([.constantLong RX7 100 (-100000), .constantLong RX7 102 (100000), .fieldLink RX7 22 "FlowPartsModel" "rights" "[I", .fieldLink RX7 28 "FlowPartsModel" "solved" "I", .methodLink RX7 104 yX7_isRow, .instanceMethod yX7_isRow, .selects RX7 yX7_isRow yX7_isRow, .initialized RX7, .code yX7_isRow cX7_isRow 2 (some .boolean), .fieldLink RX7 85 "FlowPartsModel" "rows" "I", .methodLink RX7 81 yX7_within, .static yX7_within, .code yX7_within cX7_within 6 (some .boolean), .methodLink RX7 96 yX7_passes, .instanceMethod yX7_passes, .selects RX7 yX7_passes yX7_passes, .code yX7_passes cX7_passes 3 (some .boolean), .fieldLink RX7 75 "FlowPartsModel" "thrown" "I"] : List Cond) := goodIn_r _ [971, 972, 868, 870, 977, 979, 45, 85, 980, 863, 960, 961, 962, 963, 965, 44, 966, 861] rfl (by decide +kernel)
set_option maxRecDepth 100000 in
theorem zgg_X7_right : GoodIn lw_tbl wsX7_right := fun w hw => (List.mem_cons.mp hw).elim (fun e => by rw [e]; exact ⟨(List.mem_of_getElem? (i := 998) rfl), good_of_word (by decide +kernel)⟩) ((goodIn_app zgp_30 zgp_wsX70) w)
set_option maxRecDepth 100000 in
theorem zg_X7_right : GoodIn lw_tbl (wsV RL 94 RX7 yX7_right wsX7_right) := goodIn_app (goodIn_r _ [995, 996, 997, 85] rfl (by decide +kernel)) zgg_X7_right
set_option maxRecDepth 100000 in
theorem zgp_31 : GoodIn lw_tbl ([.fieldLink RX6 57 "FlowParts" "solved" "I", .fieldLink RX6 12 "FlowParts" "whole" "LFlowParts$Whole;", .fieldLink RX6 61 "FlowParts$Whole" "columns" "I", .methodLink RX6 130 yX5_wipe, .instanceMethod yX5_wipe, .selects RX5 yX5_wipe yX5_wipe, .initialized RX5, .code yX5_wipe cX5_wipe 2 none, .fieldLink RX5 29 "FlowParts$Whole" "a" "[[I", .fieldLink RX5 32 "FlowParts$Whole" "columns" "I", .fieldLink RX5 36 "FlowParts$Whole" "rows" "I", .methodLink RX5 39 yJ7_fill_53178, .static yJ7_fill_53178, .initialized RJ7, .code yJ7_fill_53178 cJ7_fill_53178 4 none] : List Cond) := goodIn_r _ [300, 293, 113, 322, 323, 324, 79, 325, 149, 112, 121, 326, 327, 92, 328] rfl (by decide +kernel)
set_option maxRecDepth 100000 in
theorem zgg_X6_clear : GoodIn lw_tbl wsX6_clear := fun w hw => (List.mem_cons.mp hw).elim (fun e => by rw [e]; exact ⟨(List.mem_of_getElem? (i := 321) rfl), good_of_word (by decide +kernel)⟩) ((goodIn_app (goodIn_app zgp_31 zgp_wsX60) zgp_wsX50) w)
set_option maxRecDepth 100000 in
theorem zg_X6_clear : GoodIn lw_tbl (wsV RL 95 RX6 yX6_clear wsX6_clear) := goodIn_app (goodIn_r _ [318, 319, 320, 78] rfl (by decide +kernel)) zgg_X6_clear
set_option maxRecDepth 100000 in
theorem zgp_32 : GoodIn lw_tbl ([.fieldLink RX7 75 "FlowPartsModel" "thrown" "I", .fieldLink RX7 78 "FlowPartsModel" "columns" "I", .fieldLink RX7 85 "FlowPartsModel" "rows" "I", .fieldLink RX7 28 "FlowPartsModel" "solved" "I"] : List Cond) := goodIn_r _ [861, 862, 863, 870] rfl (by decide +kernel)
set_option maxRecDepth 100000 in
theorem zgg_X7_clear : GoodIn lw_tbl wsX7_clear := fun w hw => (List.mem_cons.mp hw).elim (fun e => by rw [e]; exact ⟨(List.mem_of_getElem? (i := 1002) rfl), good_of_word (by decide +kernel)⟩) ((goodIn_app zgp_32 zgp_wsX70) w)
set_option maxRecDepth 100000 in
theorem zg_X7_clear : GoodIn lw_tbl (wsV RL 98 RX7 yX7_clear wsX7_clear) := goodIn_app (goodIn_r _ [999, 1000, 1001, 85] rfl (by decide +kernel)) zgg_X7_clear
set_option maxRecDepth 100000 in
theorem zgp_wsX6_parts_r1 : GoodIn lw_tbl wsX6_parts_r1 := goodIn_r _ [294, 333, 334, 335, 80, 336, 179, 114, 120, 180, 337, 339, 0, 340, 182, 341, 343, 1, 344, 154, 345, 346, 347, 79] rfl (by decide +kernel)
set_option maxRecDepth 100000 in
theorem zgp_wsX6_parts_r2 : GoodIn lw_tbl wsX6_parts_r2 := goodIn_r _ [348, 121, 149, 349, 351, 2, 352, 353, 354, 93, 355, 356, 357, 358] rfl (by decide +kernel)
set_option maxRecDepth 100000 in
theorem zgg_X6_parts : GoodIn lw_tbl wsX6_parts := fun w hw => (List.mem_cons.mp hw).elim (fun e => by rw [e]; exact ⟨(List.mem_of_getElem? (i := 332) rfl), good_of_word (by decide +kernel)⟩) ((goodIn_app (goodIn_app (goodIn_app (goodIn_app zgp_wsX6_parts_r1 zgp_wsX6_parts_r2) zgp_wsX60) zgp_wsX40) zgp_wsX50) w)
set_option maxRecDepth 100000 in
theorem zg_X6_parts : GoodIn lw_tbl (wsV RL 99 RX6 yX6_parts wsX6_parts) := goodIn_app (goodIn_r _ [329, 330, 331, 78] rfl (by decide +kernel)) zgg_X6_parts
set_option maxRecDepth 100000 in
theorem zgp_35 : GoodIn lw_tbl ([.fieldLink RX7 75 "FlowPartsModel" "thrown" "I", .fieldLink RX7 85 "FlowPartsModel" "rows" "I", .fieldLink RX7 39 "FlowPartsModel" "least" "[I", .methodLink RX7 123 yX7_findParts, .instanceMethod yX7_findParts, .selects RX7 yX7_findParts yX7_findParts, .initialized RX7, .code yX7_findParts cX7_findParts 3 none, .fieldLink RX7 78 "FlowPartsModel" "columns" "I", .methodLink RX7 115 yX7_joinRows, .instanceMethod yX7_joinRows, .selects RX7 yX7_joinRows yX7_joinRows, .code yX7_joinRows cX7_joinRows 4 none, .methodLink RX7 119 yX7_coef, .instanceMethod yX7_coef, .selects RX7 yX7_coef yX7_coef, .code yX7_coef cX7_coef 3 (some .int), .fieldLink RX7 25 "FlowPartsModel" "coefs" "[I"] : List Cond) := goodIn_r _ [861, 863, 876, 1007, 1009, 47, 85, 1010, 862, 1011, 1013, 48, 1014, 1015, 1017, 49, 1018, 869] rfl (by decide +kernel)
set_option maxRecDepth 100000 in
theorem zgg_X7_parts : GoodIn lw_tbl wsX7_parts := fun w hw => (List.mem_cons.mp hw).elim (fun e => by rw [e]; exact ⟨(List.mem_of_getElem? (i := 1006) rfl), good_of_word (by decide +kernel)⟩) ((goodIn_app zgp_35 zgp_wsX70) w)
set_option maxRecDepth 100000 in
theorem zg_X7_parts : GoodIn lw_tbl (wsV RL 102 RX7 yX7_parts wsX7_parts) := goodIn_app (goodIn_r _ [1003, 1004, 1005, 85] rfl (by decide +kernel)) zgg_X7_parts
set_option maxRecDepth 100000 in
theorem zgp_wsL_part_r1 : GoodIn lw_tbl wsL_part_r1 := goodIn_r _ [721, 779, 780, 781, 78, 782, 294, 181, 726, 728, 39, 729, 730, 91, 293, 122, 333, 334, 335, 80, 336, 179, 114, 120] rfl (by decide +kernel)
set_option maxRecDepth 100000 in
theorem zgp_wsL_part_r2 : GoodIn lw_tbl wsL_part_r2 := goodIn_r _ [180, 337, 339, 0, 340, 182, 341, 343, 1, 344, 154, 345, 346, 347, 79, 348, 121, 149, 349, 351, 2, 352, 353, 354] rfl (by decide +kernel)
set_option maxRecDepth 100000 in
theorem zgp_wsL_part_r3 : GoodIn lw_tbl wsL_part_r3 := goodIn_r _ [93, 355, 356, 357, 358] rfl (by decide +kernel)
set_option maxRecDepth 100000 in
theorem zgg_L_part : GoodIn lw_tbl wsL_part := fun w hw => (List.mem_cons.mp hw).elim (fun e => by rw [e]; exact ⟨(List.mem_of_getElem? (i := 778) rfl), good_of_word (by decide +kernel)⟩) ((goodIn_app (goodIn_app (goodIn_app (goodIn_app (goodIn_app zgp_wsL_part_r1 (goodIn_app zgp_wsL_part_r2 zgp_wsL_part_r3)) zgp_wsX60) zgp_wsX40) zgp_wsX50) zgx_215) w)
set_option maxRecDepth 100000 in
theorem zg_L_part : GoodIn lw_tbl (va_wsS RL 103 yL_part wsL_part) := goodIn_app (goodIn_r _ [776, 777, 77] rfl (by decide +kernel)) zgg_L_part
set_option maxRecDepth 100000 in
theorem zgp_wsX7_part_r1 : GoodIn lw_tbl wsX7_part_r1 := goodIn_r _ [876, 977, 979, 45, 85, 980, 863, 960, 961, 962, 963, 965, 44, 966, 861, 1007, 1009, 47, 1010, 862, 1011, 1013, 48, 1014] rfl (by decide +kernel)
set_option maxRecDepth 100000 in
theorem zgp_wsX7_part_r2 : GoodIn lw_tbl wsX7_part_r2 := goodIn_r _ [1015, 1017, 49, 1018, 869] rfl (by decide +kernel)
set_option maxRecDepth 100000 in
theorem zgg_X7_part : GoodIn lw_tbl wsX7_part := fun w hw => (List.mem_cons.mp hw).elim (fun e => by rw [e]; exact ⟨(List.mem_of_getElem? (i := 1022) rfl), good_of_word (by decide +kernel)⟩) ((goodIn_app (goodIn_app zgp_wsX7_part_r1 zgp_wsX7_part_r2) zgp_wsX70) w)
set_option maxRecDepth 100000 in
theorem zg_X7_part : GoodIn lw_tbl (wsV RL 106 RX7 yX7_part wsX7_part) := goodIn_app (goodIn_r _ [1019, 1020, 1021, 85] rfl (by decide +kernel)) zgg_X7_part
set_option maxRecDepth 100000 in
theorem zgp_wsX6_flow_r1 : GoodIn lw_tbl wsX6_flow_r1 := goodIn_r _ [294, 363, 364, 365, 80, 366, 179, 114, 367, 369, 3, 370, 120, 154, 372, 78, 373, 374, 375, 376, 79, 377, 121, 149] rfl (by decide +kernel)
set_option maxRecDepth 100000 in
theorem zgp_wsX6_flow_r2 : GoodIn lw_tbl wsX6_flow_r2 := goodIn_r _ [337, 339, 0, 340, 180, 182, 378, 380, 4, 381, 345, 346, 347, 348, 349, 351, 2, 352, 353, 354, 93, 355, 356, 357] rfl (by decide +kernel)
set_option maxRecDepth 100000 in
theorem zgp_wsX6_flow_r3 : GoodIn lw_tbl wsX6_flow_r3 := goodIn_r _ [358] rfl (by decide +kernel)
set_option maxRecDepth 100000 in
theorem zgg_X6_flow : GoodIn lw_tbl wsX6_flow := fun w hw => (List.mem_cons.mp hw).elim (fun e => by rw [e]; exact ⟨(List.mem_of_getElem? (i := 362) rfl), good_of_word (by decide +kernel)⟩) ((goodIn_app (goodIn_app (goodIn_app (goodIn_app zgp_wsX6_flow_r1 (goodIn_app zgp_wsX6_flow_r2 zgp_wsX6_flow_r3)) zgp_wsX60) zgp_wsX40) zgp_wsX50) w)
set_option maxRecDepth 100000 in
theorem zg_X6_flow : GoodIn lw_tbl (wsV RL 107 RX6 yX6_flow wsX6_flow) := goodIn_app (goodIn_r _ [359, 360, 361, 78] rfl (by decide +kernel)) zgg_X6_flow
