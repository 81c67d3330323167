set_option maxRecDepth 100000 in
theorem zgp_wsX7_flow_r1 : GoodIn lw_tbl wsX7_flow_r1 := goodIn_r _ [862, 1028, 1030, 50, 85, 1031, 863, 1032, 1034, 51, 1035, 864, 1036, 1016, 1018, 49, 1019, 870, 961, 962, 963, 1037, 1039, 52] rfl (by decide +kernel)
set_option maxRecDepth 100000 in
theorem zgp_wsX7_flow_r2 : GoodIn lw_tbl wsX7_flow_r2 := goodIn_r _ [1040, 1041, 1043, 53, 1044] rfl (by decide +kernel)
set_option maxRecDepth 100000 in
theorem zgg_X7_flow : GoodIn lw_tbl wsX7_flow := fun w hw => (List.mem_cons.mp hw).elim (fun e => by rw [e]; exact ⟨(List.mem_of_getElem? (i := 1027) rfl), good_of_word (by decide +kernel)⟩) ((goodIn_app (goodIn_app zgp_wsX7_flow_r1 zgp_wsX7_flow_r2) zgp_wsX70) w)
set_option maxRecDepth 100000 in
theorem zg_X7_flow : GoodIn lw_tbl (wsV RL 110 RX7 yX7_flow wsX7_flow) := goodIn_app (goodIn_r _ [1024, 1025, 1026, 85] rfl (by decide +kernel)) zgg_X7_flow
set_option maxRecDepth 100000 in
theorem zgp_wsL_sign_r1 : GoodIn lw_tbl wsL_sign_r1 := goodIn_r _ [607, 722, 787, 788, 789, 78, 790, 613, 89, 294, 184, 364, 365, 366, 79, 367, 179, 120, 368, 370, 3, 371, 126, 160] rfl (by decide +kernel)
set_option maxRecDepth 100000 in
theorem zgp_wsL_sign_r2 : GoodIn lw_tbl wsL_sign_r2 := goodIn_r _ [373, 374, 375, 376, 377, 80, 378, 127, 155, 338, 340, 0, 341, 181, 183, 379, 381, 4, 382, 346, 347, 348, 349, 350] rfl (by decide +kernel)
set_option maxRecDepth 100000 in
theorem zgp_wsL_sign_r3 : GoodIn lw_tbl wsL_sign_r3 := goodIn_r _ [352, 2, 353, 354, 355, 93, 356, 357, 358, 359, 727, 729, 39, 730, 731, 91, 295, 128] rfl (by decide +kernel)
set_option maxRecDepth 100000 in
theorem zgg_L_sign : GoodIn lw_tbl wsL_sign := fun w hw => (List.mem_cons.mp hw).elim (fun e => by rw [e]; exact ⟨(List.mem_of_getElem? (i := 786) rfl), good_of_word (by decide +kernel)⟩) ((goodIn_app (goodIn_app (goodIn_app (goodIn_app (goodIn_app (goodIn_app zgp_wsL_sign_r1 (goodIn_app zgp_wsL_sign_r2 zgp_wsL_sign_r3)) zgp_wsX60) zgp_wsX40) zgp_wsX50) zgx_66) zgx_213) w)
set_option maxRecDepth 100000 in
theorem zg_L_sign : GoodIn lw_tbl (va_wsS RL 111 yL_sign wsL_sign) := goodIn_app (goodIn_r _ [784, 785, 77] rfl (by decide +kernel)) zgg_L_sign
set_option maxRecDepth 100000 in
theorem zgp_wsX7_sign_r1 : GoodIn lw_tbl wsX7_sign_r1 := goodIn_r _ [878, 1028, 1030, 50, 85, 1031, 863, 1032, 1034, 51, 1035, 864, 1036, 1016, 1018, 49, 1019, 870, 961, 962, 963, 1037, 1039, 52] rfl (by decide +kernel)
set_option maxRecDepth 100000 in
theorem zgp_wsX7_sign_r2 : GoodIn lw_tbl wsX7_sign_r2 := goodIn_r _ [1040, 1041, 1043, 53, 1044, 978, 980, 45, 981, 964, 966, 44, 967, 862, 1049, 1051, 54, 1052, 877, 1008, 1010, 47, 1011, 1012] rfl (by decide +kernel)
set_option maxRecDepth 100000 in
theorem zgp_wsX7_sign_r3 : GoodIn lw_tbl wsX7_sign_r3 := goodIn_r _ [1014, 48, 1015] rfl (by decide +kernel)
set_option maxRecDepth 100000 in
theorem zgg_X7_sign : GoodIn lw_tbl wsX7_sign := fun w hw => (List.mem_cons.mp hw).elim (fun e => by rw [e]; exact ⟨(List.mem_of_getElem? (i := 1048) rfl), good_of_word (by decide +kernel)⟩) ((goodIn_app (goodIn_app zgp_wsX7_sign_r1 (goodIn_app zgp_wsX7_sign_r2 zgp_wsX7_sign_r3)) zgp_wsX70) w)
set_option maxRecDepth 100000 in
theorem zg_X7_sign : GoodIn lw_tbl (wsV RL 113 RX7 yX7_sign wsX7_sign) := goodIn_app (goodIn_r _ [1045, 1046, 1047, 85] rfl (by decide +kernel)) zgg_X7_sign
set_option maxRecDepth 100000 in
theorem zgp_52 : GoodIn lw_tbl ([.fieldLink RX6 12 "FlowParts" "shape" "LFlowParts$Shape;", .methodLink RX6 146 yX4_firstColumnNoInterval, .instanceMethod yX4_firstColumnNoInterval, .selects RX4 yX4_firstColumnNoInterval yX4_firstColumnNoInterval, .initialized RX4, .code yX4_firstColumnNoInterval cX4_firstColumnNoInterval 2 (some .int), .fieldLink RX4 12 "FlowParts$Shape" "whole" "LFlowParts$Whole;", .fieldLink RX4 34 "FlowParts$Whole" "columns" "I", .methodLink RX4 52 yX4_isInterval, .instanceMethod yX4_isInterval, .selects RX4 yX4_isInterval yX4_isInterval, .code yX4_isInterval cX4_isInterval 6 (some .boolean), .fieldLink RX4 42 "FlowParts$Whole" "rows" "I", .fieldLink RX4 71 "FlowParts$Whole" "a" "[[I"] : List Cond) := goodIn_r _ [294, 387, 388, 389, 79, 390, 179, 120, 391, 393, 5, 394, 126, 160] rfl (by decide +kernel)
set_option maxRecDepth 100000 in
theorem zgg_X6_intervals : GoodIn lw_tbl wsX6_intervals := fun w hw => (List.mem_cons.mp hw).elim (fun e => by rw [e]; exact ⟨(List.mem_of_getElem? (i := 386) rfl), good_of_word (by decide +kernel)⟩) ((goodIn_app (goodIn_app (goodIn_app zgp_52 zgp_wsX60) zgp_wsX40) zgp_wsX50) w)
set_option maxRecDepth 100000 in
theorem zg_X6_intervals : GoodIn lw_tbl (wsV RL 114 RX6 yX6_intervals wsX6_intervals) := goodIn_app (goodIn_r _ [383, 384, 385, 78] rfl (by decide +kernel)) zgg_X6_intervals
set_option maxRecDepth 100000 in
theorem zgp_53 : GoodIn lw_tbl ([.fieldLink RX7 75 "FlowPartsModel" "thrown" "I", .fieldLink RX7 78 "FlowPartsModel" "columns" "I", .methodLink RX7 144 yX7_isInterval, .instanceMethod yX7_isInterval, .selects RX7 yX7_isInterval yX7_isInterval, .initialized RX7, .code yX7_isInterval cX7_isInterval 6 (some .boolean), .fieldLink RX7 85 "FlowPartsModel" "rows" "I", .methodLink RX7 119 yX7_coef, .instanceMethod yX7_coef, .selects RX7 yX7_coef yX7_coef, .code yX7_coef cX7_coef 3 (some .int), .fieldLink RX7 25 "FlowPartsModel" "coefs" "[I", .methodLink RX7 81 yX7_within, .static yX7_within, .code yX7_within cX7_within 6 (some .boolean)] : List Cond) := goodIn_r _ [862, 863, 1057, 1059, 55, 85, 1060, 864, 1016, 1018, 49, 1019, 870, 961, 962, 963] rfl (by decide +kernel)
set_option maxRecDepth 100000 in
theorem zgg_X7_intervals : GoodIn lw_tbl wsX7_intervals := fun w hw => (List.mem_cons.mp hw).elim (fun e => by rw [e]; exact ⟨(List.mem_of_getElem? (i := 1056) rfl), good_of_word (by decide +kernel)⟩) ((goodIn_app zgp_53 zgp_wsX70) w)
set_option maxRecDepth 100000 in
theorem zg_X7_intervals : GoodIn lw_tbl (wsV RL 117 RX7 yX7_intervals wsX7_intervals) := goodIn_app (goodIn_r _ [1053, 1054, 1055, 85] rfl (by decide +kernel)) zgg_X7_intervals
set_option maxRecDepth 100000 in
theorem zgp_wsX6_nature_r1 : GoodIn lw_tbl wsX6_nature_r1 := goodIn_r _ [294, 399, 400, 401, 79, 402, 179, 126, 403, 405, 6, 406, 120, 160, 185, 186, 407, 409, 7, 410, 373, 78, 374, 411] rfl (by decide +kernel)
set_option maxRecDepth 100000 in
theorem zgp_wsX6_nature_r2 : GoodIn lw_tbl wsX6_nature_r2 := goodIn_r _ [413, 8, 414, 415, 417, 9, 418, 419, 420, 94, 421, 422, 423, 424] rfl (by decide +kernel)
set_option maxRecDepth 100000 in
theorem zgg_X6_nature : GoodIn lw_tbl wsX6_nature := fun w hw => (List.mem_cons.mp hw).elim (fun e => by rw [e]; exact ⟨(List.mem_of_getElem? (i := 398) rfl), good_of_word (by decide +kernel)⟩) ((goodIn_app (goodIn_app (goodIn_app (goodIn_app zgp_wsX6_nature_r1 zgp_wsX6_nature_r2) zgp_wsX60) zgp_wsX40) zgp_wsX50) w)
set_option maxRecDepth 100000 in
theorem zg_X6_nature : GoodIn lw_tbl (wsV RL 118 RX6 yX6_nature wsX6_nature) := goodIn_app (goodIn_r _ [395, 396, 397, 78] rfl (by decide +kernel)) zgg_X6_nature
set_option maxRecDepth 100000 in
theorem zgp_56 : GoodIn lw_tbl ([.fieldLink RX7 75 "FlowPartsModel" "thrown" "I", .fieldLink RX7 85 "FlowPartsModel" "rows" "I", .methodLink RX7 147 yX7_isEven, .instanceMethod yX7_isEven, .selects RX7 yX7_isEven yX7_isEven, .initialized RX7, .code yX7_isEven cX7_isEven 8 (some .boolean), .fieldLink RX7 78 "FlowPartsModel" "columns" "I", .constantLong RX7 129 (-1), .methodLink RX7 119 yX7_coef, .instanceMethod yX7_coef, .selects RX7 yX7_coef yX7_coef, .code yX7_coef cX7_coef 3 (some .int), .fieldLink RX7 25 "FlowPartsModel" "coefs" "[I", .methodLink RX7 81 yX7_within, .static yX7_within, .code yX7_within cX7_within 6 (some .boolean)] : List Cond) := goodIn_r _ [862, 864, 1065, 1067, 56, 85, 1068, 863, 1036, 1016, 1018, 49, 1019, 870, 961, 962, 963] rfl (by decide +kernel)
set_option maxRecDepth 100000 in
theorem zgg_X7_nature : GoodIn lw_tbl wsX7_nature := fun w hw => (List.mem_cons.mp hw).elim (fun e => by rw [e]; exact ⟨(List.mem_of_getElem? (i := 1064) rfl), good_of_word (by decide +kernel)⟩) ((goodIn_app zgp_56 zgp_wsX70) w)
set_option maxRecDepth 100000 in
theorem zg_X7_nature : GoodIn lw_tbl (wsV RL 121 RX7 yX7_nature wsX7_nature) := goodIn_app (goodIn_r _ [1061, 1062, 1063, 85] rfl (by decide +kernel)) zgg_X7_nature
set_option maxRecDepth 100000 in
theorem zgp_57 : GoodIn lw_tbl ([.fieldLink RX6 12 "FlowParts" "shape" "LFlowParts$Shape;", .methodLink RX6 152 yX4_isKnapsack, .instanceMethod yX4_isKnapsack, .selects RX4 yX4_isKnapsack yX4_isKnapsack, .initialized RX4, .code yX4_isKnapsack cX4_isKnapsack 2 (some .boolean), .fieldLink RX4 12 "FlowParts$Shape" "whole" "LFlowParts$Whole;", .fieldLink RX4 42 "FlowParts$Whole" "rows" "I", .fieldLink RX4 65 "FlowParts$Whole" "kind" "[I", .fieldLink RX4 68 "FlowParts$Whole" "right" "[I", .fieldLink RX4 34 "FlowParts$Whole" "columns" "I", .fieldLink RX4 71 "FlowParts$Whole" "a" "[[I", .fieldLink RX4 75 "FlowParts$Whole" "low" "[I"] : List Cond) := goodIn_r _ [294, 429, 430, 431, 79, 432, 179, 126, 148, 153, 120, 160, 133] rfl (by decide +kernel)
set_option maxRecDepth 100000 in
theorem zgg_X6_knapsack : GoodIn lw_tbl wsX6_knapsack := fun w hw => (List.mem_cons.mp hw).elim (fun e => by rw [e]; exact ⟨(List.mem_of_getElem? (i := 428) rfl), good_of_word (by decide +kernel)⟩) ((goodIn_app (goodIn_app (goodIn_app zgp_57 zgp_wsX60) zgp_wsX40) zgp_wsX50) w)
set_option maxRecDepth 100000 in
theorem zg_X6_knapsack : GoodIn lw_tbl (wsV RL 122 RX6 yX6_knapsack wsX6_knapsack) := goodIn_app (goodIn_r _ [425, 426, 427, 78] rfl (by decide +kernel)) zgg_X6_knapsack
set_option maxRecDepth 100000 in
theorem zgp_58 : GoodIn lw_tbl ([.fieldLink RX7 75 "FlowPartsModel" "thrown" "I", .methodLink RX7 152 yX7_isKnapsack, .instanceMethod yX7_isKnapsack, .selects RX7 yX7_isKnapsack yX7_isKnapsack, .initialized RX7, .code yX7_isKnapsack cX7_isKnapsack 3 (some .boolean), .fieldLink RX7 85 "FlowPartsModel" "rows" "I", .fieldLink RX7 19 "FlowPartsModel" "kinds" "[I", .fieldLink RX7 22 "FlowPartsModel" "rights" "[I", .constantLong RX7 150 (300), .fieldLink RX7 78 "FlowPartsModel" "columns" "I", .fieldLink RX7 7 "FlowPartsModel" "lows" "[I", .methodLink RX7 81 yX7_within, .static yX7_within, .code yX7_within cX7_within 6 (some .boolean), .methodLink RX7 119 yX7_coef, .instanceMethod yX7_coef, .selects RX7 yX7_coef yX7_coef, .code yX7_coef cX7_coef 3 (some .int), .fieldLink RX7 25 "FlowPartsModel" "coefs" "[I"] : List Cond) := goodIn_r _ [862, 1073, 1075, 57, 85, 1076, 864, 868, 869, 1077, 863, 865, 961, 962, 963, 1016, 1018, 49, 1019, 870] rfl (by decide +kernel)
set_option maxRecDepth 100000 in
theorem zgg_X7_knapsack : GoodIn lw_tbl wsX7_knapsack := fun w hw => (List.mem_cons.mp hw).elim (fun e => by rw [e]; exact ⟨(List.mem_of_getElem? (i := 1072) rfl), good_of_word (by decide +kernel)⟩) ((goodIn_app zgp_58 zgp_wsX70) w)
set_option maxRecDepth 100000 in
theorem zg_X7_knapsack : GoodIn lw_tbl (wsV RL 126 RX7 yX7_knapsack wsX7_knapsack) := goodIn_app (goodIn_r _ [1069, 1070, 1071, 85] rfl (by decide +kernel)) zgg_X7_knapsack
set_option maxRecDepth 100000 in
theorem zgp_wsX6_matching_r1 : GoodIn lw_tbl wsX6_matching_r1 := goodIn_r _ [294, 437, 438, 439, 79, 440, 179, 120, 133, 139, 126, 153, 441, 365, 366, 367, 368, 370, 3, 371, 160, 373, 78, 374] rfl (by decide +kernel)
set_option maxRecDepth 100000 in
theorem zgp_wsX6_matching_r2 : GoodIn lw_tbl wsX6_matching_r2 := goodIn_r _ [375, 376, 377, 80, 378, 127, 155, 338, 340, 0, 341, 181, 183, 379, 381, 4, 382, 346, 347, 348, 349, 350, 352, 2] rfl (by decide +kernel)
set_option maxRecDepth 100000 in
theorem zgp_wsX6_matching_r3 : GoodIn lw_tbl wsX6_matching_r3 := goodIn_r _ [353, 354, 355, 93, 356, 357, 358, 359, 442, 444, 10, 445] rfl (by decide +kernel)
set_option maxRecDepth 100000 in
theorem zgg_X6_matching : GoodIn lw_tbl wsX6_matching := fun w hw => (List.mem_cons.mp hw).elim (fun e => by rw [e]; exact ⟨(List.mem_of_getElem? (i := 436) rfl), good_of_word (by decide +kernel)⟩) ((goodIn_app (goodIn_app (goodIn_app (goodIn_app zgp_wsX6_matching_r1 (goodIn_app zgp_wsX6_matching_r2 zgp_wsX6_matching_r3)) zgp_wsX60) zgp_wsX40) zgp_wsX50) w)
set_option maxRecDepth 100000 in
theorem zg_X6_matching : GoodIn lw_tbl (wsV RL 127 RX6 yX6_matching wsX6_matching) := goodIn_app (goodIn_r _ [433, 434, 435, 78] rfl (by decide +kernel)) zgg_X6_matching
set_option maxRecDepth 100000 in
theorem zgp_wsX7_matching_r1 : GoodIn lw_tbl wsX7_matching_r1 := goodIn_r _ [862, 864, 869, 863, 865, 866, 1028, 1030, 50, 85, 1031, 1032, 1034, 51, 1035, 1036, 1016, 1018, 49, 1019, 870, 961, 962, 963] rfl (by decide +kernel)
set_option maxRecDepth 100000 in
theorem zgp_wsX7_matching_r2 : GoodIn lw_tbl wsX7_matching_r2 := goodIn_r _ [1037, 1039, 52, 1040, 1041, 1043, 53, 1044] rfl (by decide +kernel)
set_option maxRecDepth 100000 in
theorem zgg_X7_matching : GoodIn lw_tbl wsX7_matching := fun w hw => (List.mem_cons.mp hw).elim (fun e => by rw [e]; exact ⟨(List.mem_of_getElem? (i := 1081) rfl), good_of_word (by decide +kernel)⟩) ((goodIn_app (goodIn_app zgp_wsX7_matching_r1 zgp_wsX7_matching_r2) zgp_wsX70) w)
set_option maxRecDepth 100000 in
theorem zg_X7_matching : GoodIn lw_tbl (wsV RL 130 RX7 yX7_matching wsX7_matching) := goodIn_app (goodIn_r _ [1078, 1079, 1080, 85] rfl (by decide +kernel)) zgg_X7_matching
set_option maxRecDepth 100000 in
theorem zgp_wsX6_way_r1 : GoodIn lw_tbl wsX6_way_r1 := goodIn_r _ [294, 450, 451, 452, 79, 453, 179, 120, 126, 148, 441, 365, 366, 367, 368, 370, 3, 371, 160, 373, 78, 374, 375, 376] rfl (by decide +kernel)
set_option maxRecDepth 100000 in
theorem zgp_wsX6_way_r2 : GoodIn lw_tbl wsX6_way_r2 := goodIn_r _ [377, 80, 378, 127, 155, 338, 340, 0, 341, 181, 183, 379, 381, 4, 382, 346, 347, 348, 349, 350, 352, 2, 353, 354] rfl (by decide +kernel)
set_option maxRecDepth 100000 in
theorem zgp_wsX6_way_r3 : GoodIn lw_tbl wsX6_way_r3 := goodIn_r _ [355, 93, 356, 357, 358, 359, 454, 456, 11, 457, 133, 139, 144, 458, 460, 12, 461, 153] rfl (by decide +kernel)
