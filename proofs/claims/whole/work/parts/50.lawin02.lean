set_option maxRecDepth 100000 in
theorem zgp_wsX7_flow_r1 : GoodIn lw_tbl wsX7_flow_r1 := goodIn_r _ [861, 1027, 1029, 50, 85, 1030, 862, 1031, 1033, 51, 1034, 863, 1035, 1015, 1017, 49, 1018, 869, 960, 961, 962, 1036, 1038, 52] rfl (by decide +kernel)
set_option maxRecDepth 100000 in
theorem zgp_wsX7_flow_r2 : GoodIn lw_tbl wsX7_flow_r2 := goodIn_r _ [1039, 1040, 1042, 53, 1043] rfl (by decide +kernel)
set_option maxRecDepth 100000 in
theorem zgg_X7_flow : GoodIn lw_tbl wsX7_flow := fun w hw => (List.mem_cons.mp hw).elim (fun e => by rw [e]; exact ⟨(List.mem_of_getElem? (i := 1026) rfl), good_of_word (by decide +kernel)⟩) ((goodIn_app (goodIn_app zgp_wsX7_flow_r1 zgp_wsX7_flow_r2) zgp_wsX70) w)
set_option maxRecDepth 100000 in
theorem zg_X7_flow : GoodIn lw_tbl (wsV RL 110 RX7 yX7_flow wsX7_flow) := goodIn_app (goodIn_r _ [1023, 1024, 1025, 85] rfl (by decide +kernel)) zgg_X7_flow
set_option maxRecDepth 100000 in
theorem zgp_wsL_sign_r1 : GoodIn lw_tbl wsL_sign_r1 := goodIn_r _ [606, 721, 786, 787, 788, 78, 789, 612, 89, 294, 183, 363, 364, 365, 80, 366, 179, 114, 367, 369, 3, 370, 120, 154] rfl (by decide +kernel)
set_option maxRecDepth 100000 in
theorem zgp_wsL_sign_r2 : GoodIn lw_tbl wsL_sign_r2 := goodIn_r _ [372, 373, 374, 375, 376, 79, 377, 121, 149, 337, 339, 0, 340, 180, 182, 378, 380, 4, 381, 345, 346, 347, 348, 349] rfl (by decide +kernel)
set_option maxRecDepth 100000 in
theorem zgp_wsL_sign_r3 : GoodIn lw_tbl wsL_sign_r3 := goodIn_r _ [351, 2, 352, 353, 354, 93, 355, 356, 357, 358, 726, 728, 39, 729, 730, 91, 293, 122] rfl (by decide +kernel)
set_option maxRecDepth 100000 in
theorem zgg_L_sign : GoodIn lw_tbl wsL_sign := fun w hw => (List.mem_cons.mp hw).elim (fun e => by rw [e]; exact ⟨(List.mem_of_getElem? (i := 785) rfl), good_of_word (by decide +kernel)⟩) ((goodIn_app (goodIn_app (goodIn_app (goodIn_app (goodIn_app (goodIn_app zgp_wsL_sign_r1 (goodIn_app zgp_wsL_sign_r2 zgp_wsL_sign_r3)) zgp_wsX60) zgp_wsX40) zgp_wsX50) zgx_68) zgx_215) w)
set_option maxRecDepth 100000 in
theorem zg_L_sign : GoodIn lw_tbl (va_wsS RL 111 yL_sign wsL_sign) := goodIn_app (goodIn_r _ [783, 784, 77] rfl (by decide +kernel)) zgg_L_sign
set_option maxRecDepth 100000 in
theorem zgp_wsX7_sign_r1 : GoodIn lw_tbl wsX7_sign_r1 := goodIn_r _ [877, 1027, 1029, 50, 85, 1030, 862, 1031, 1033, 51, 1034, 863, 1035, 1015, 1017, 49, 1018, 869, 960, 961, 962, 1036, 1038, 52] rfl (by decide +kernel)
set_option maxRecDepth 100000 in
theorem zgp_wsX7_sign_r2 : GoodIn lw_tbl wsX7_sign_r2 := goodIn_r _ [1039, 1040, 1042, 53, 1043, 977, 979, 45, 980, 963, 965, 44, 966, 861, 1048, 1050, 54, 1051, 876, 1007, 1009, 47, 1010, 1011] rfl (by decide +kernel)
set_option maxRecDepth 100000 in
theorem zgp_wsX7_sign_r3 : GoodIn lw_tbl wsX7_sign_r3 := goodIn_r _ [1013, 48, 1014] rfl (by decide +kernel)
set_option maxRecDepth 100000 in
theorem zgg_X7_sign : GoodIn lw_tbl wsX7_sign := fun w hw => (List.mem_cons.mp hw).elim (fun e => by rw [e]; exact ⟨(List.mem_of_getElem? (i := 1047) rfl), good_of_word (by decide +kernel)⟩) ((goodIn_app (goodIn_app zgp_wsX7_sign_r1 (goodIn_app zgp_wsX7_sign_r2 zgp_wsX7_sign_r3)) zgp_wsX70) w)
set_option maxRecDepth 100000 in
theorem zg_X7_sign : GoodIn lw_tbl (wsV RL 113 RX7 yX7_sign wsX7_sign) := goodIn_app (goodIn_r _ [1044, 1045, 1046, 85] rfl (by decide +kernel)) zgg_X7_sign
set_option maxRecDepth 100000 in
theorem zgp_52 : GoodIn lw_tbl ([.fieldLink RX6 21 "FlowParts" "shape" "LFlowParts$Shape;", .methodLink RX6 148 yX4_firstColumnNoInterval, .instanceMethod yX4_firstColumnNoInterval, .selects RX4 yX4_firstColumnNoInterval yX4_firstColumnNoInterval, .initialized RX4, .code yX4_firstColumnNoInterval cX4_firstColumnNoInterval 2 (some .int), .fieldLink RX4 24 "FlowParts$Shape" "whole" "LFlowParts$Whole;", .fieldLink RX4 31 "FlowParts$Whole" "columns" "I", .methodLink RX4 51 yX4_isInterval, .instanceMethod yX4_isInterval, .selects RX4 yX4_isInterval yX4_isInterval, .code yX4_isInterval cX4_isInterval 6 (some .boolean), .fieldLink RX4 41 "FlowParts$Whole" "rows" "I", .fieldLink RX4 70 "FlowParts$Whole" "a" "[[I"] : List Cond) := goodIn_r _ [294, 386, 387, 388, 80, 389, 179, 114, 390, 392, 5, 393, 120, 154] rfl (by decide +kernel)
set_option maxRecDepth 100000 in
theorem zgg_X6_intervals : GoodIn lw_tbl wsX6_intervals := fun w hw => (List.mem_cons.mp hw).elim (fun e => by rw [e]; exact ⟨(List.mem_of_getElem? (i := 385) rfl), good_of_word (by decide +kernel)⟩) ((goodIn_app (goodIn_app (goodIn_app zgp_52 zgp_wsX60) zgp_wsX40) zgp_wsX50) w)
set_option maxRecDepth 100000 in
theorem zg_X6_intervals : GoodIn lw_tbl (wsV RL 114 RX6 yX6_intervals wsX6_intervals) := goodIn_app (goodIn_r _ [382, 383, 384, 78] rfl (by decide +kernel)) zgg_X6_intervals
set_option maxRecDepth 100000 in
theorem zgp_53 : GoodIn lw_tbl ([.fieldLink RX7 75 "FlowPartsModel" "thrown" "I", .fieldLink RX7 78 "FlowPartsModel" "columns" "I", .methodLink RX7 144 yX7_isInterval, .instanceMethod yX7_isInterval, .selects RX7 yX7_isInterval yX7_isInterval, .initialized RX7, .code yX7_isInterval cX7_isInterval 6 (some .boolean), .fieldLink RX7 85 "FlowPartsModel" "rows" "I", .methodLink RX7 119 yX7_coef, .instanceMethod yX7_coef, .selects RX7 yX7_coef yX7_coef, .code yX7_coef cX7_coef 3 (some .int), .fieldLink RX7 25 "FlowPartsModel" "coefs" "[I", .methodLink RX7 81 yX7_within, .static yX7_within, .code yX7_within cX7_within 6 (some .boolean)] : List Cond) := goodIn_r _ [861, 862, 1056, 1058, 55, 85, 1059, 863, 1015, 1017, 49, 1018, 869, 960, 961, 962] rfl (by decide +kernel)
set_option maxRecDepth 100000 in
theorem zgg_X7_intervals : GoodIn lw_tbl wsX7_intervals := fun w hw => (List.mem_cons.mp hw).elim (fun e => by rw [e]; exact ⟨(List.mem_of_getElem? (i := 1055) rfl), good_of_word (by decide +kernel)⟩) ((goodIn_app zgp_53 zgp_wsX70) w)
set_option maxRecDepth 100000 in
theorem zg_X7_intervals : GoodIn lw_tbl (wsV RL 117 RX7 yX7_intervals wsX7_intervals) := goodIn_app (goodIn_r _ [1052, 1053, 1054, 85] rfl (by decide +kernel)) zgg_X7_intervals
set_option maxRecDepth 100000 in
theorem zgp_wsX6_nature_r1 : GoodIn lw_tbl wsX6_nature_r1 := goodIn_r _ [294, 398, 399, 400, 80, 401, 179, 120, 402, 404, 6, 405, 114, 154, 184, 185, 406, 408, 7, 409, 372, 78, 373, 410] rfl (by decide +kernel)
set_option maxRecDepth 100000 in
theorem zgp_wsX6_nature_r2 : GoodIn lw_tbl wsX6_nature_r2 := goodIn_r _ [412, 8, 413, 414, 416, 9, 417, 418, 419, 94, 420, 421, 422, 423] rfl (by decide +kernel)
set_option maxRecDepth 100000 in
theorem zgg_X6_nature : GoodIn lw_tbl wsX6_nature := fun w hw => (List.mem_cons.mp hw).elim (fun e => by rw [e]; exact ⟨(List.mem_of_getElem? (i := 397) rfl), good_of_word (by decide +kernel)⟩) ((goodIn_app (goodIn_app (goodIn_app (goodIn_app zgp_wsX6_nature_r1 zgp_wsX6_nature_r2) zgp_wsX60) zgp_wsX40) zgp_wsX50) w)
set_option maxRecDepth 100000 in
theorem zg_X6_nature : GoodIn lw_tbl (wsV RL 118 RX6 yX6_nature wsX6_nature) := goodIn_app (goodIn_r _ [394, 395, 396, 78] rfl (by decide +kernel)) zgg_X6_nature
set_option maxRecDepth 100000 in
theorem zgp_56 : GoodIn lw_tbl ([.fieldLink RX7 75 "FlowPartsModel" "thrown" "I", .fieldLink RX7 85 "FlowPartsModel" "rows" "I", .methodLink RX7 147 yX7_isEven, .instanceMethod yX7_isEven, .selects RX7 yX7_isEven yX7_isEven, .initialized RX7, .code yX7_isEven cX7_isEven 8 (some .boolean), .fieldLink RX7 78 "FlowPartsModel" "columns" "I", .constantLong RX7 129 (-1), .methodLink RX7 119 yX7_coef, .instanceMethod yX7_coef, .selects RX7 yX7_coef yX7_coef, .code yX7_coef cX7_coef 3 (some .int), .fieldLink RX7 25 "FlowPartsModel" "coefs" "[I", .methodLink RX7 81 yX7_within, .static yX7_within, .code yX7_within cX7_within 6 (some .boolean)] : List Cond) := goodIn_r _ [861, 863, 1064, 1066, 56, 85, 1067, 862, 1035, 1015, 1017, 49, 1018, 869, 960, 961, 962] rfl (by decide +kernel)
set_option maxRecDepth 100000 in
theorem zgg_X7_nature : GoodIn lw_tbl wsX7_nature := fun w hw => (List.mem_cons.mp hw).elim (fun e => by rw [e]; exact ⟨(List.mem_of_getElem? (i := 1063) rfl), good_of_word (by decide +kernel)⟩) ((goodIn_app zgp_56 zgp_wsX70) w)
set_option maxRecDepth 100000 in
theorem zg_X7_nature : GoodIn lw_tbl (wsV RL 121 RX7 yX7_nature wsX7_nature) := goodIn_app (goodIn_r _ [1060, 1061, 1062, 85] rfl (by decide +kernel)) zgg_X7_nature
set_option maxRecDepth 100000 in
theorem zgp_57 : GoodIn lw_tbl ([.fieldLink RX6 21 "FlowParts" "shape" "LFlowParts$Shape;", .methodLink RX6 154 yX4_isKnapsack, .instanceMethod yX4_isKnapsack, .selects RX4 yX4_isKnapsack yX4_isKnapsack, .initialized RX4, .code yX4_isKnapsack cX4_isKnapsack 2 (some .boolean), .fieldLink RX4 24 "FlowParts$Shape" "whole" "LFlowParts$Whole;", .fieldLink RX4 41 "FlowParts$Whole" "rows" "I", .fieldLink RX4 64 "FlowParts$Whole" "kind" "[I", .fieldLink RX4 67 "FlowParts$Whole" "right" "[I", .fieldLink RX4 31 "FlowParts$Whole" "columns" "I", .fieldLink RX4 70 "FlowParts$Whole" "a" "[[I", .fieldLink RX4 74 "FlowParts$Whole" "low" "[I"] : List Cond) := goodIn_r _ [294, 428, 429, 430, 80, 431, 179, 120, 142, 147, 114, 154, 127] rfl (by decide +kernel)
set_option maxRecDepth 100000 in
theorem zgg_X6_knapsack : GoodIn lw_tbl wsX6_knapsack := fun w hw => (List.mem_cons.mp hw).elim (fun e => by rw [e]; exact ⟨(List.mem_of_getElem? (i := 427) rfl), good_of_word (by decide +kernel)⟩) ((goodIn_app (goodIn_app (goodIn_app zgp_57 zgp_wsX60) zgp_wsX40) zgp_wsX50) w)
set_option maxRecDepth 100000 in
theorem zg_X6_knapsack : GoodIn lw_tbl (wsV RL 122 RX6 yX6_knapsack wsX6_knapsack) := goodIn_app (goodIn_r _ [424, 425, 426, 78] rfl (by decide +kernel)) zgg_X6_knapsack
set_option maxRecDepth 100000 in
theorem zgp_58 : GoodIn lw_tbl ([.fieldLink RX7 75 "FlowPartsModel" "thrown" "I", .methodLink RX7 152 yX7_isKnapsack, .instanceMethod yX7_isKnapsack, .selects RX7 yX7_isKnapsack yX7_isKnapsack, .initialized RX7, .code yX7_isKnapsack cX7_isKnapsack 3 (some .boolean), .fieldLink RX7 85 "FlowPartsModel" "rows" "I", .fieldLink RX7 19 "FlowPartsModel" "kinds" "[I", .fieldLink RX7 22 "FlowPartsModel" "rights" "[I", .constantLong RX7 150 (300), .fieldLink RX7 78 "FlowPartsModel" "columns" "I", .fieldLink RX7 7 "FlowPartsModel" "lows" "[I", .methodLink RX7 81 yX7_within, .static yX7_within, .code yX7_within cX7_within 6 (some .boolean), .methodLink RX7 119 yX7_coef, .instanceMethod yX7_coef, .selects RX7 yX7_coef yX7_coef, .code yX7_coef cX7_coef 3 (some .int), .fieldLink RX7 25 "FlowPartsModel" "coefs" "[I"] : List Cond) := goodIn_r _ [861, 1072, 1074, 57, 85, 1075, 863, 867, 868, 1076, 862, 864, 960, 961, 962, 1015, 1017, 49, 1018, 869] rfl (by decide +kernel)
set_option maxRecDepth 100000 in
theorem zgg_X7_knapsack : GoodIn lw_tbl wsX7_knapsack := fun w hw => (List.mem_cons.mp hw).elim (fun e => by rw [e]; exact ⟨(List.mem_of_getElem? (i := 1071) rfl), good_of_word (by decide +kernel)⟩) ((goodIn_app zgp_58 zgp_wsX70) w)
set_option maxRecDepth 100000 in
theorem zg_X7_knapsack : GoodIn lw_tbl (wsV RL 126 RX7 yX7_knapsack wsX7_knapsack) := goodIn_app (goodIn_r _ [1068, 1069, 1070, 85] rfl (by decide +kernel)) zgg_X7_knapsack
set_option maxRecDepth 100000 in
theorem zgp_wsX6_matching_r1 : GoodIn lw_tbl wsX6_matching_r1 := goodIn_r _ [294, 436, 437, 438, 80, 439, 179, 114, 127, 133, 120, 147, 440, 364, 365, 366, 367, 369, 3, 370, 154, 372, 78, 373] rfl (by decide +kernel)
set_option maxRecDepth 100000 in
theorem zgp_wsX6_matching_r2 : GoodIn lw_tbl wsX6_matching_r2 := goodIn_r _ [374, 375, 376, 79, 377, 121, 149, 337, 339, 0, 340, 180, 182, 378, 380, 4, 381, 345, 346, 347, 348, 349, 351, 2] rfl (by decide +kernel)
set_option maxRecDepth 100000 in
theorem zgp_wsX6_matching_r3 : GoodIn lw_tbl wsX6_matching_r3 := goodIn_r _ [352, 353, 354, 93, 355, 356, 357, 358, 441, 443, 10, 444] rfl (by decide +kernel)
set_option maxRecDepth 100000 in
theorem zgg_X6_matching : GoodIn lw_tbl wsX6_matching := fun w hw => (List.mem_cons.mp hw).elim (fun e => by rw [e]; exact ⟨(List.mem_of_getElem? (i := 435) rfl), good_of_word (by decide +kernel)⟩) ((goodIn_app (goodIn_app (goodIn_app (goodIn_app zgp_wsX6_matching_r1 (goodIn_app zgp_wsX6_matching_r2 zgp_wsX6_matching_r3)) zgp_wsX60) zgp_wsX40) zgp_wsX50) w)
set_option maxRecDepth 100000 in
theorem zg_X6_matching : GoodIn lw_tbl (wsV RL 127 RX6 yX6_matching wsX6_matching) := goodIn_app (goodIn_r _ [432, 433, 434, 78] rfl (by decide +kernel)) zgg_X6_matching
set_option maxRecDepth 100000 in
theorem zgp_wsX7_matching_r1 : GoodIn lw_tbl wsX7_matching_r1 := goodIn_r _ [861, 863, 868, 862, 864, 865, 1027, 1029, 50, 85, 1030, 1031, 1033, 51, 1034, 1035, 1015, 1017, 49, 1018, 869, 960, 961, 962] rfl (by decide +kernel)
set_option maxRecDepth 100000 in
theorem zgp_wsX7_matching_r2 : GoodIn lw_tbl wsX7_matching_r2 := goodIn_r _ [1036, 1038, 52, 1039, 1040, 1042, 53, 1043] rfl (by decide +kernel)
set_option maxRecDepth 100000 in
theorem zgg_X7_matching : GoodIn lw_tbl wsX7_matching := fun w hw => (List.mem_cons.mp hw).elim (fun e => by rw [e]; exact ⟨(List.mem_of_getElem? (i := 1080) rfl), good_of_word (by decide +kernel)⟩) ((goodIn_app (goodIn_app zgp_wsX7_matching_r1 zgp_wsX7_matching_r2) zgp_wsX70) w)
set_option maxRecDepth 100000 in
theorem zg_X7_matching : GoodIn lw_tbl (wsV RL 130 RX7 yX7_matching wsX7_matching) := goodIn_app (goodIn_r _ [1077, 1078, 1079, 85] rfl (by decide +kernel)) zgg_X7_matching
set_option maxRecDepth 100000 in
theorem zgp_wsX6_way_r1 : GoodIn lw_tbl wsX6_way_r1 := goodIn_r _ [294, 449, 450, 451, 80, 452, 179, 114, 120, 142, 440, 364, 365, 366, 367, 369, 3, 370, 154, 372, 78, 373, 374, 375] rfl (by decide +kernel)
set_option maxRecDepth 100000 in
theorem zgp_wsX6_way_r2 : GoodIn lw_tbl wsX6_way_r2 := goodIn_r _ [376, 79, 377, 121, 149, 337, 339, 0, 340, 180, 182, 378, 380, 4, 381, 345, 346, 347, 348, 349, 351, 2, 352, 353] rfl (by decide +kernel)
set_option maxRecDepth 100000 in
theorem zgp_wsX6_way_r3 : GoodIn lw_tbl wsX6_way_r3 := goodIn_r _ [354, 93, 355, 356, 357, 358, 453, 455, 11, 456, 127, 133, 138, 457, 459, 12, 460, 147] rfl (by decide +kernel)
