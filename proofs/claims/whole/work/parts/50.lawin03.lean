set_option maxRecDepth 100000 in
theorem zgg_X6_way : GoodIn lw_tbl wsX6_way := fun w hw => (List.mem_cons.mp hw).elim (fun e => by rw [e]; exact ⟨(List.mem_of_getElem? (i := 448) rfl), good_of_word (by decide +kernel)⟩) ((goodIn_app (goodIn_app (goodIn_app (goodIn_app zgp_wsX6_way_r1 (goodIn_app zgp_wsX6_way_r2 zgp_wsX6_way_r3)) zgp_wsX60) zgp_wsX40) zgp_wsX50) w)
set_option maxRecDepth 100000 in
theorem zg_X6_way : GoodIn lw_tbl (wsV RL 131 RX6 yX6_way wsX6_way) := goodIn_app (goodIn_r _ [445, 446, 447, 78] rfl (by decide +kernel)) zgg_X6_way
set_option maxRecDepth 100000 in
theorem zgp_wsX7_way_r1 : GoodIn lw_tbl wsX7_way_r1 := goodIn_r _ [861, 863, 868, 877, 867, 862, 864, 865, 866, 876, 1027, 1029, 50, 85, 1030, 1031, 1033, 51, 1034, 1035, 1015, 1017, 49, 1018] rfl (by decide +kernel)
set_option maxRecDepth 100000 in
theorem zgp_wsX7_way_r2 : GoodIn lw_tbl wsX7_way_r2 := goodIn_r _ [869, 960, 961, 962, 1036, 1038, 52, 1039, 1040, 1042, 53, 1043, 1048, 1050, 54, 1051, 1007, 1009, 47, 1010, 1011, 1013, 48, 1014] rfl (by decide +kernel)
set_option maxRecDepth 100000 in
theorem zgp_wsX7_way_r3 : GoodIn lw_tbl wsX7_way_r3 := goodIn_r _ [1085, 1087, 58, 1088] rfl (by decide +kernel)
set_option maxRecDepth 100000 in
theorem zgg_X7_way : GoodIn lw_tbl wsX7_way := fun w hw => (List.mem_cons.mp hw).elim (fun e => by rw [e]; exact ⟨(List.mem_of_getElem? (i := 1084) rfl), good_of_word (by decide +kernel)⟩) ((goodIn_app (goodIn_app zgp_wsX7_way_r1 (goodIn_app zgp_wsX7_way_r2 zgp_wsX7_way_r3)) zgp_wsX70) w)
set_option maxRecDepth 100000 in
theorem zg_X7_way : GoodIn lw_tbl (wsV RL 134 RX7 yX7_way wsX7_way) := goodIn_app (goodIn_r _ [1081, 1082, 1083, 85] rfl (by decide +kernel)) zgg_X7_way
set_option maxRecDepth 100000 in
theorem zgp_wsX6_solve_r1 : GoodIn lw_tbl wsX6_solve_r1 := goodIn_r _ [294, 300, 298, 293, 299, 363, 364, 365, 80, 366, 179, 114, 367, 369, 3, 370, 120, 154, 372, 78, 373, 374, 375, 376] rfl (by decide +kernel)
set_option maxRecDepth 100000 in
theorem zgp_wsX6_solve_r2 : GoodIn lw_tbl wsX6_solve_r2 := goodIn_r _ [79, 377, 121, 149, 337, 339, 0, 340, 180, 182, 378, 380, 4, 381, 345, 346, 347, 348, 349, 351, 2, 352, 353, 354] rfl (by decide +kernel)
set_option maxRecDepth 100000 in
theorem zgp_wsX6_solve_r3 : GoodIn lw_tbl wsX6_solve_r3 := goodIn_r _ [93, 355, 356, 357, 358, 465, 467, 13, 468, 295, 183, 297, 217, 113, 540, 542, 541, 95, 296, 122, 469, 470, 471, 81] rfl (by decide +kernel)
set_option maxRecDepth 100000 in
theorem zgp_wsX6_solve_r4 : GoodIn lw_tbl wsX6_solve_r4 := goodIn_r _ [472, 219, 118, 145, 203, 116, 140, 473, 327, 92, 328, 474, 476, 14, 477, 151, 209, 125, 211, 130, 213, 136, 218, 215] rfl (by decide +kernel)
set_option maxRecDepth 100000 in
theorem zgp_wsX6_solve_r5 : GoodIn lw_tbl wsX6_solve_r5 := goodIn_r _ [478, 480, 15, 481, 205, 207, 482, 484, 16, 485, 486, 487, 488, 489, 490, 491, 493, 17, 494, 495, 497, 18, 498, 220] rfl (by decide +kernel)
set_option maxRecDepth 100000 in
theorem zgp_wsX6_solve_r6 : GoodIn lw_tbl wsX6_solve_r6 := goodIn_r _ [499, 221, 500, 502, 19, 503, 222, 504, 506, 20, 507, 508, 510, 21, 511, 512, 513, 515, 22, 516, 517, 518, 519, 83] rfl (by decide +kernel)
set_option maxRecDepth 100000 in
theorem zgp_wsX6_solve_r7 : GoodIn lw_tbl wsX6_solve_r7 := goodIn_r _ [520, 273, 275, 119, 521, 523, 23, 524, 117, 124, 129, 525, 527, 24, 528, 152, 529, 530, 531, 532, 534, 25, 535, 146] rfl (by decide +kernel)
set_option maxRecDepth 100000 in
theorem zgp_wsX6_solve_r8 : GoodIn lw_tbl wsX6_solve_r8 := goodIn_r _ [536, 538, 26, 539, 141, 543, 544, 545, 82, 546, 258, 256, 547, 549, 27, 550, 259, 551, 204, 206, 208, 216, 212, 214] rfl (by decide +kernel)
set_option maxRecDepth 100000 in
theorem zgp_wsX6_solve_r9 : GoodIn lw_tbl wsX6_solve_r9 := goodIn_r _ [210, 552, 553, 555, 28, 556, 557, 558, 560, 29, 561, 562, 564, 30, 565, 566, 568, 31, 569, 579, 570, 572, 32, 573] rfl (by decide +kernel)
set_option maxRecDepth 100000 in
theorem zgp_wsX6_solve_r10 : GoodIn lw_tbl wsX6_solve_r10 := goodIn_r _ [574, 575, 577, 33, 578, 428, 429, 430, 431, 142, 147, 127, 580, 581, 582, 84, 583, 144, 289, 115, 585, 135, 150, 584] rfl (by decide +kernel)
set_option maxRecDepth 100000 in
theorem zgp_wsX6_solve_r11 : GoodIn lw_tbl wsX6_solve_r11 := goodIn_r _ [586, 588, 34, 589, 594, 590, 592, 35, 593, 131, 595, 597, 36, 598, 599, 601, 37, 602] rfl (by decide +kernel)
set_option maxRecDepth 100000 in
theorem zgg_X6_solve : GoodIn lw_tbl wsX6_solve := fun w hw => (List.mem_cons.mp hw).elim (fun e => by rw [e]; exact ⟨(List.mem_of_getElem? (i := 464) rfl), good_of_word (by decide +kernel)⟩) ((goodIn_app (goodIn_app (goodIn_app (goodIn_app (goodIn_app (goodIn_app (goodIn_app (goodIn_app zgp_wsX6_solve_r1 (goodIn_app zgp_wsX6_solve_r2 (goodIn_app zgp_wsX6_solve_r3 (goodIn_app zgp_wsX6_solve_r4 (goodIn_app zgp_wsX6_solve_r5 (goodIn_app zgp_wsX6_solve_r6 (goodIn_app zgp_wsX6_solve_r7 (goodIn_app zgp_wsX6_solve_r8 (goodIn_app zgp_wsX6_solve_r9 (goodIn_app zgp_wsX6_solve_r10 zgp_wsX6_solve_r11)))))))))) zgp_wsX60) zgp_wsX40) zgp_wsX50) zgp_wsX10) zgp_wsX30) zgp_wsX20) zgp_wsX00) w)
set_option maxRecDepth 100000 in
theorem zg_X6_solve : GoodIn lw_tbl (wsV RL 135 RX6 yX6_solve wsX6_solve) := goodIn_app (goodIn_r _ [461, 462, 463, 78] rfl (by decide +kernel)) zgg_X6_solve
set_option maxRecDepth 100000 in
theorem zgp_wsX7_solve_r1 : GoodIn lw_tbl wsX7_solve_r1 := goodIn_r _ [861, 870, 871, 1027, 1029, 50, 85, 1030, 862, 1031, 1033, 51, 1034, 863, 1035, 1015, 1017, 49, 1018, 869, 960, 961, 962, 1036] rfl (by decide +kernel)
set_option maxRecDepth 100000 in
theorem zgp_wsX7_solve_r2 : GoodIn lw_tbl wsX7_solve_r2 := goodIn_r _ [1038, 52, 1039, 1040, 1042, 53, 1043, 1093, 1095, 59, 1096, 874, 875, 1097, 1099, 60, 1100, 878, 864, 879, 865, 880, 867, 1048] rfl (by decide +kernel)
set_option maxRecDepth 100000 in
theorem zgp_wsX7_solve_r3 : GoodIn lw_tbl wsX7_solve_r3 := goodIn_r _ [1050, 54, 1051, 876, 877, 1007, 1009, 47, 1010, 1011, 1013, 48, 1014, 1101, 1103, 61, 1104, 1105, 1107, 62, 1108, 868, 1109, 1111] rfl (by decide +kernel)
set_option maxRecDepth 100000 in
theorem zgp_wsX7_solve_r4 : GoodIn lw_tbl wsX7_solve_r4 := goodIn_r _ [63, 1112, 872, 1113, 1115, 64, 1116, 1117, 1118, 1120, 65, 1121, 881, 866, 1122, 1124, 66, 1125, 1126, 1128, 67, 1129, 882, 883] rfl (by decide +kernel)
set_option maxRecDepth 100000 in
theorem zgp_wsX7_solve_r5 : GoodIn lw_tbl wsX7_solve_r5 := goodIn_r _ [884, 885, 1130, 1132, 68, 1133, 1134, 1136, 69, 1137, 886, 887, 1138, 1140, 70, 1141, 1142, 1143, 1145, 71, 1146, 1147, 1149, 72] rfl (by decide +kernel)
set_option maxRecDepth 100000 in
theorem zgp_wsX7_solve_r6 : GoodIn lw_tbl wsX7_solve_r6 := goodIn_r _ [1150, 1151, 1153, 73, 1154, 1155, 1157, 74, 1158, 873, 1159, 1161, 75, 1162, 1072, 1074, 57, 1075, 1076, 1163, 1165, 76, 1166, 888] rfl (by decide +kernel)
set_option maxRecDepth 100000 in
theorem zgg_X7_solve : GoodIn lw_tbl wsX7_solve := fun w hw => (List.mem_cons.mp hw).elim (fun e => by rw [e]; exact ⟨(List.mem_of_getElem? (i := 1092) rfl), good_of_word (by decide +kernel)⟩) ((goodIn_app (goodIn_app zgp_wsX7_solve_r1 (goodIn_app zgp_wsX7_solve_r2 (goodIn_app zgp_wsX7_solve_r3 (goodIn_app zgp_wsX7_solve_r4 (goodIn_app zgp_wsX7_solve_r5 zgp_wsX7_solve_r6))))) zgp_wsX70) w)
set_option maxRecDepth 100000 in
theorem zg_X7_solve : GoodIn lw_tbl (wsV RL 138 RX7 yX7_solve wsX7_solve) := goodIn_app (goodIn_r _ [1089, 1090, 1091, 85] rfl (by decide +kernel)) zgg_X7_solve
set_option maxRecDepth 100000 in
theorem zgp_87 : GoodIn lw_tbl ([.classLink RL 13 "java/lang/IllegalStateException", .classLink RL 25 "java/lang/IndexOutOfBoundsException", .methodLink RL 43 yX6_at, .instanceMethod yX6_at, .selects RX6 yX6_at yX6_at, .initialized RX6, .code yX6_at cX6_at 2 (some .int), .fieldLink RX6 53 "FlowParts" "best" "[I", .methodLink RX6 171 yX6_needBest, .instanceMethod yX6_needBest, .selects RX6 yX6_needBest yX6_needBest, .code yX6_needBest cX6_needBest 1 none, .classLink RX6 64 "java/lang/IllegalStateException", .initialized "java/lang/IllegalStateException", .fieldLink RX6 57 "FlowParts" "solved" "I", .methodLink RX6 103 yX6_needColumn, .instanceMethod yX6_needColumn, .selects RX6 yX6_needColumn yX6_needColumn, .code yX6_needColumn cX6_needColumn 2 none, .classLink RX6 211 "java/lang/IndexOutOfBoundsException", .initialized "java/lang/IndexOutOfBoundsException", .fieldLink RX6 12 "FlowParts" "whole" "LFlowParts$Whole;", .fieldLink RX6 61 "FlowParts$Whole" "columns" "I"] : List Cond) := goodIn_r _ [606, 721, 794, 795, 796, 78, 797, 299, 798, 800, 41, 801, 612, 89, 300, 746, 748, 40, 749, 730, 91, 293, 113] rfl (by decide +kernel)
set_option maxRecDepth 100000 in
theorem zgg_L_at : GoodIn lw_tbl wsL_at := fun w hw => (List.mem_cons.mp hw).elim (fun e => by rw [e]; exact ⟨(List.mem_of_getElem? (i := 793) rfl), good_of_word (by decide +kernel)⟩) ((goodIn_app (goodIn_app (goodIn_app (goodIn_app zgp_87 zgp_wsX60) zgp_wsX50) zgx_68) zgx_215) w)
set_option maxRecDepth 100000 in
theorem zg_L_at : GoodIn lw_tbl (va_wsS RL 139 yL_at wsL_at) := goodIn_app (goodIn_r _ [791, 792, 77] rfl (by decide +kernel)) zgg_L_at
set_option maxRecDepth 100000 in
theorem zgp_88 : GoodIn lw_tbl ([.fieldLink RX7 28 "FlowPartsModel" "solved" "I", .fieldLink RX7 32 "FlowPartsModel" "best" "[I", .methodLink RX7 108 yX7_isColumn, .instanceMethod yX7_isColumn, .selects RX7 yX7_isColumn yX7_isColumn, .initialized RX7, .code yX7_isColumn cX7_isColumn 2 (some .boolean), .fieldLink RX7 78 "FlowPartsModel" "columns" "I", .methodLink RX7 81 yX7_within, .static yX7_within, .code yX7_within cX7_within 6 (some .boolean), .methodLink RX7 96 yX7_passes, .instanceMethod yX7_passes, .selects RX7 yX7_passes yX7_passes, .code yX7_passes cX7_passes 3 (some .boolean), .fieldLink RX7 75 "FlowPartsModel" "thrown" "I"] : List Cond) := goodIn_r _ [870, 872, 981, 983, 46, 85, 984, 862, 960, 961, 962, 963, 965, 44, 966, 861] rfl (by decide +kernel)
set_option maxRecDepth 100000 in
theorem zgg_X7_at : GoodIn lw_tbl wsX7_at := fun w hw => (List.mem_cons.mp hw).elim (fun e => by rw [e]; exact ⟨(List.mem_of_getElem? (i := 1170) rfl), good_of_word (by decide +kernel)⟩) ((goodIn_app zgp_88 zgp_wsX70) w)
set_option maxRecDepth 100000 in
theorem zg_X7_at : GoodIn lw_tbl (wsV RL 141 RX7 yX7_at wsX7_at) := goodIn_app (goodIn_r _ [1167, 1168, 1169, 85] rfl (by decide +kernel)) zgg_X7_at
set_option maxRecDepth 100000 in
theorem zgp_89 : GoodIn lw_tbl ([.classLink RL 13 "java/lang/IllegalStateException", .methodLink RL 46 yX6_value, .instanceMethod yX6_value, .selects RX6 yX6_value yX6_value, .initialized RX6, .code yX6_value cX6_value 3 (some .int), .fieldLink RX6 12 "FlowParts" "whole" "LFlowParts$Whole;", .fieldLink RX6 61 "FlowParts$Whole" "columns" "I", .fieldLink RX6 122 "FlowParts$Whole" "cost" "[I", .fieldLink RX6 53 "FlowParts" "best" "[I", .methodLink RX6 171 yX6_needBest, .instanceMethod yX6_needBest, .selects RX6 yX6_needBest yX6_needBest, .code yX6_needBest cX6_needBest 1 none, .classLink RX6 64 "java/lang/IllegalStateException", .initialized "java/lang/IllegalStateException", .fieldLink RX6 57 "FlowParts" "solved" "I"] : List Cond) := goodIn_r _ [606, 806, 807, 808, 78, 809, 293, 113, 137, 299, 798, 800, 41, 801, 612, 89, 300] rfl (by decide +kernel)
set_option maxRecDepth 100000 in
theorem zgg_L_value : GoodIn lw_tbl wsL_value := fun w hw => (List.mem_cons.mp hw).elim (fun e => by rw [e]; exact ⟨(List.mem_of_getElem? (i := 805) rfl), good_of_word (by decide +kernel)⟩) ((goodIn_app (goodIn_app (goodIn_app zgp_89 zgp_wsX60) zgp_wsX50) zgx_68) w)
set_option maxRecDepth 100000 in
theorem zg_L_value : GoodIn lw_tbl (va_wsS RL 142 yL_value wsL_value) := goodIn_app (goodIn_r _ [803, 804, 77] rfl (by decide +kernel)) zgg_L_value
set_option maxRecDepth 100000 in
theorem zgp_90 : GoodIn lw_tbl ([.fieldLink RX7 28 "FlowPartsModel" "solved" "I", .fieldLink RX7 78 "FlowPartsModel" "columns" "I", .fieldLink RX7 16 "FlowPartsModel" "costs" "[I", .fieldLink RX7 32 "FlowPartsModel" "best" "[I", .methodLink RX7 96 yX7_passes, .instanceMethod yX7_passes, .selects RX7 yX7_passes yX7_passes, .initialized RX7, .code yX7_passes cX7_passes 3 (some .boolean), .fieldLink RX7 75 "FlowPartsModel" "thrown" "I"] : List Cond) := goodIn_r _ [870, 862, 866, 872, 963, 965, 44, 85, 966, 861] rfl (by decide +kernel)
set_option maxRecDepth 100000 in
theorem zgg_X7_value : GoodIn lw_tbl wsX7_value := fun w hw => (List.mem_cons.mp hw).elim (fun e => by rw [e]; exact ⟨(List.mem_of_getElem? (i := 1174) rfl), good_of_word (by decide +kernel)⟩) ((goodIn_app zgp_90 zgp_wsX70) w)
set_option maxRecDepth 100000 in
theorem zg_X7_value : GoodIn lw_tbl (wsV RL 145 RX7 yX7_value wsX7_value) := goodIn_app (goodIn_r _ [1171, 1172, 1173, 85] rfl (by decide +kernel)) zgg_X7_value
set_option maxRecDepth 100000 in
theorem zgp_wsL_sum_r1 : GoodIn lw_tbl wsL_sum_r1 := goodIn_r _ [606, 721, 813, 814, 815, 78, 816, 293, 113, 153, 299, 798, 800, 41, 801, 612, 89, 300, 726, 728, 39, 729, 730, 91] rfl (by decide +kernel)
set_option maxRecDepth 100000 in
theorem zgp_wsL_sum_r2 : GoodIn lw_tbl wsL_sum_r2 := goodIn_r _ [122] rfl (by decide +kernel)
set_option maxRecDepth 100000 in
theorem zgg_L_sum : GoodIn lw_tbl wsL_sum := fun w hw => (List.mem_cons.mp hw).elim (fun e => by rw [e]; exact ⟨(List.mem_of_getElem? (i := 812) rfl), good_of_word (by decide +kernel)⟩) ((goodIn_app (goodIn_app (goodIn_app (goodIn_app (goodIn_app zgp_wsL_sum_r1 zgp_wsL_sum_r2) zgp_wsX60) zgp_wsX50) zgx_68) zgx_215) w)
set_option maxRecDepth 100000 in
theorem zg_L_sum : GoodIn lw_tbl (va_wsS RL 146 yL_sum wsL_sum) := goodIn_app (goodIn_r _ [810, 811, 77] rfl (by decide +kernel)) zgg_L_sum
set_option maxRecDepth 100000 in
theorem zgp_wsX7_sum_r1 : GoodIn lw_tbl wsX7_sum_r1 := goodIn_r _ [870, 977, 979, 45, 85, 980, 863, 960, 961, 962, 963, 965, 44, 966, 861, 1130, 1132, 68, 1133, 862, 872, 1015, 1017, 49] rfl (by decide +kernel)
