set_option maxRecDepth 100000 in
theorem zgg_X6_way : GoodIn lw_tbl wsX6_way := fun w hw => (List.mem_cons.mp hw).elim (fun e => by rw [e]; exact ⟨(List.mem_of_getElem? (i := 449) rfl), good_of_word (by decide +kernel)⟩) ((goodIn_app (goodIn_app (goodIn_app (goodIn_app zgp_wsX6_way_r1 (goodIn_app zgp_wsX6_way_r2 zgp_wsX6_way_r3)) zgp_wsX60) zgp_wsX40) zgp_wsX50) w)
set_option maxRecDepth 100000 in
theorem zg_X6_way : GoodIn lw_tbl (wsV RL 131 RX6 yX6_way wsX6_way) := goodIn_app (goodIn_r _ [446, 447, 448, 78] rfl (by decide +kernel)) zgg_X6_way
set_option maxRecDepth 100000 in
theorem zgp_wsX7_way_r1 : GoodIn lw_tbl wsX7_way_r1 := goodIn_r _ [862, 864, 869, 878, 868, 863, 865, 866, 867, 877, 1028, 1030, 50, 85, 1031, 1032, 1034, 51, 1035, 1036, 1016, 1018, 49, 1019] rfl (by decide +kernel)
set_option maxRecDepth 100000 in
theorem zgp_wsX7_way_r2 : GoodIn lw_tbl wsX7_way_r2 := goodIn_r _ [870, 961, 962, 963, 1037, 1039, 52, 1040, 1041, 1043, 53, 1044, 1049, 1051, 54, 1052, 1008, 1010, 47, 1011, 1012, 1014, 48, 1015] rfl (by decide +kernel)
set_option maxRecDepth 100000 in
theorem zgp_wsX7_way_r3 : GoodIn lw_tbl wsX7_way_r3 := goodIn_r _ [1086, 1088, 58, 1089] rfl (by decide +kernel)
set_option maxRecDepth 100000 in
theorem zgg_X7_way : GoodIn lw_tbl wsX7_way := fun w hw => (List.mem_cons.mp hw).elim (fun e => by rw [e]; exact ⟨(List.mem_of_getElem? (i := 1085) rfl), good_of_word (by decide +kernel)⟩) ((goodIn_app (goodIn_app zgp_wsX7_way_r1 (goodIn_app zgp_wsX7_way_r2 zgp_wsX7_way_r3)) zgp_wsX70) w)
set_option maxRecDepth 100000 in
theorem zg_X7_way : GoodIn lw_tbl (wsV RL 134 RX7 yX7_way wsX7_way) := goodIn_app (goodIn_r _ [1082, 1083, 1084, 85] rfl (by decide +kernel)) zgg_X7_way
set_option maxRecDepth 100000 in
theorem zgp_wsX6_solve_r1 : GoodIn lw_tbl wsX6_solve_r1 := goodIn_r _ [294, 301, 299, 295, 300, 364, 365, 366, 79, 367, 179, 120, 368, 370, 3, 371, 126, 160, 373, 78, 374, 375, 376, 377] rfl (by decide +kernel)
set_option maxRecDepth 100000 in
theorem zgp_wsX6_solve_r2 : GoodIn lw_tbl wsX6_solve_r2 := goodIn_r _ [80, 378, 127, 155, 338, 340, 0, 341, 181, 183, 379, 381, 4, 382, 346, 347, 348, 349, 350, 352, 2, 353, 354, 355] rfl (by decide +kernel)
set_option maxRecDepth 100000 in
theorem zgp_wsX6_solve_r3 : GoodIn lw_tbl wsX6_solve_r3 := goodIn_r _ [93, 356, 357, 358, 359, 466, 468, 13, 469, 296, 184, 298, 218, 119, 541, 543, 542, 95, 297, 128, 470, 471, 472, 81] rfl (by decide +kernel)
set_option maxRecDepth 100000 in
theorem zgp_wsX6_solve_r4 : GoodIn lw_tbl wsX6_solve_r4 := goodIn_r _ [473, 220, 124, 151, 204, 122, 146, 474, 328, 92, 329, 475, 477, 14, 478, 157, 210, 131, 212, 136, 214, 142, 219, 216] rfl (by decide +kernel)
set_option maxRecDepth 100000 in
theorem zgp_wsX6_solve_r5 : GoodIn lw_tbl wsX6_solve_r5 := goodIn_r _ [479, 481, 15, 482, 206, 208, 483, 485, 16, 486, 487, 488, 489, 490, 491, 492, 494, 17, 495, 496, 498, 18, 499, 221] rfl (by decide +kernel)
set_option maxRecDepth 100000 in
theorem zgp_wsX6_solve_r6 : GoodIn lw_tbl wsX6_solve_r6 := goodIn_r _ [500, 222, 501, 503, 19, 504, 223, 505, 507, 20, 508, 509, 511, 21, 512, 513, 514, 516, 22, 517, 518, 519, 520, 83] rfl (by decide +kernel)
set_option maxRecDepth 100000 in
theorem zgp_wsX6_solve_r7 : GoodIn lw_tbl wsX6_solve_r7 := goodIn_r _ [521, 274, 276, 125, 522, 524, 23, 525, 123, 130, 135, 526, 528, 24, 529, 158, 530, 531, 532, 533, 535, 25, 536, 152] rfl (by decide +kernel)
set_option maxRecDepth 100000 in
theorem zgp_wsX6_solve_r8 : GoodIn lw_tbl wsX6_solve_r8 := goodIn_r _ [537, 539, 26, 540, 147, 544, 545, 546, 82, 547, 259, 257, 548, 550, 27, 551, 260, 552, 205, 207, 209, 217, 213, 215] rfl (by decide +kernel)
set_option maxRecDepth 100000 in
theorem zgp_wsX6_solve_r9 : GoodIn lw_tbl wsX6_solve_r9 := goodIn_r _ [211, 553, 554, 556, 28, 557, 558, 559, 561, 29, 562, 563, 565, 30, 566, 567, 569, 31, 570, 580, 571, 573, 32, 574] rfl (by decide +kernel)
set_option maxRecDepth 100000 in
theorem zgp_wsX6_solve_r10 : GoodIn lw_tbl wsX6_solve_r10 := goodIn_r _ [575, 576, 578, 33, 579, 429, 430, 431, 432, 148, 153, 133, 581, 582, 583, 84, 584, 150, 290, 121, 586, 141, 156, 585] rfl (by decide +kernel)
set_option maxRecDepth 100000 in
theorem zgp_wsX6_solve_r11 : GoodIn lw_tbl wsX6_solve_r11 := goodIn_r _ [587, 589, 34, 590, 595, 591, 593, 35, 594, 137, 596, 598, 36, 599, 600, 602, 37, 603] rfl (by decide +kernel)
set_option maxRecDepth 100000 in
theorem zgg_X6_solve : GoodIn lw_tbl wsX6_solve := fun w hw => (List.mem_cons.mp hw).elim (fun e => by rw [e]; exact ⟨(List.mem_of_getElem? (i := 465) rfl), good_of_word (by decide +kernel)⟩) ((goodIn_app (goodIn_app (goodIn_app (goodIn_app (goodIn_app (goodIn_app (goodIn_app (goodIn_app zgp_wsX6_solve_r1 (goodIn_app zgp_wsX6_solve_r2 (goodIn_app zgp_wsX6_solve_r3 (goodIn_app zgp_wsX6_solve_r4 (goodIn_app zgp_wsX6_solve_r5 (goodIn_app zgp_wsX6_solve_r6 (goodIn_app zgp_wsX6_solve_r7 (goodIn_app zgp_wsX6_solve_r8 (goodIn_app zgp_wsX6_solve_r9 (goodIn_app zgp_wsX6_solve_r10 zgp_wsX6_solve_r11)))))))))) zgp_wsX60) zgp_wsX40) zgp_wsX50) zgp_wsX10) zgp_wsX30) zgp_wsX20) zgp_wsX00) w)
set_option maxRecDepth 100000 in
theorem zg_X6_solve : GoodIn lw_tbl (wsV RL 135 RX6 yX6_solve wsX6_solve) := goodIn_app (goodIn_r _ [462, 463, 464, 78] rfl (by decide +kernel)) zgg_X6_solve
set_option maxRecDepth 100000 in
theorem zgp_wsX7_solve_r1 : GoodIn lw_tbl wsX7_solve_r1 := goodIn_r _ [862, 871, 872, 1028, 1030, 50, 85, 1031, 863, 1032, 1034, 51, 1035, 864, 1036, 1016, 1018, 49, 1019, 870, 961, 962, 963, 1037] rfl (by decide +kernel)
set_option maxRecDepth 100000 in
theorem zgp_wsX7_solve_r2 : GoodIn lw_tbl wsX7_solve_r2 := goodIn_r _ [1039, 52, 1040, 1041, 1043, 53, 1044, 1094, 1096, 59, 1097, 875, 876, 1098, 1100, 60, 1101, 879, 865, 880, 866, 881, 868, 1049] rfl (by decide +kernel)
set_option maxRecDepth 100000 in
theorem zgp_wsX7_solve_r3 : GoodIn lw_tbl wsX7_solve_r3 := goodIn_r _ [1051, 54, 1052, 877, 878, 1008, 1010, 47, 1011, 1012, 1014, 48, 1015, 1102, 1104, 61, 1105, 1106, 1108, 62, 1109, 869, 1110, 1112] rfl (by decide +kernel)
set_option maxRecDepth 100000 in
theorem zgp_wsX7_solve_r4 : GoodIn lw_tbl wsX7_solve_r4 := goodIn_r _ [63, 1113, 873, 1114, 1116, 64, 1117, 1118, 1119, 1121, 65, 1122, 882, 867, 1123, 1125, 66, 1126, 1127, 1129, 67, 1130, 883, 884] rfl (by decide +kernel)
set_option maxRecDepth 100000 in
theorem zgp_wsX7_solve_r5 : GoodIn lw_tbl wsX7_solve_r5 := goodIn_r _ [885, 886, 1131, 1133, 68, 1134, 1135, 1137, 69, 1138, 887, 888, 1139, 1141, 70, 1142, 1143, 1144, 1146, 71, 1147, 1148, 1150, 72] rfl (by decide +kernel)
set_option maxRecDepth 100000 in
theorem zgp_wsX7_solve_r6 : GoodIn lw_tbl wsX7_solve_r6 := goodIn_r _ [1151, 1152, 1154, 73, 1155, 1156, 1158, 74, 1159, 874, 1160, 1162, 75, 1163, 1073, 1075, 57, 1076, 1077, 1164, 1166, 76, 1167, 889] rfl (by decide +kernel)
set_option maxRecDepth 100000 in
theorem zgg_X7_solve : GoodIn lw_tbl wsX7_solve := fun w hw => (List.mem_cons.mp hw).elim (fun e => by rw [e]; exact ⟨(List.mem_of_getElem? (i := 1093) rfl), good_of_word (by decide +kernel)⟩) ((goodIn_app (goodIn_app zgp_wsX7_solve_r1 (goodIn_app zgp_wsX7_solve_r2 (goodIn_app zgp_wsX7_solve_r3 (goodIn_app zgp_wsX7_solve_r4 (goodIn_app zgp_wsX7_solve_r5 zgp_wsX7_solve_r6))))) zgp_wsX70) w)
set_option maxRecDepth 100000 in
theorem zg_X7_solve : GoodIn lw_tbl (wsV RL 138 RX7 yX7_solve wsX7_solve) := goodIn_app (goodIn_r _ [1090, 1091, 1092, 85] rfl (by decide +kernel)) zgg_X7_solve
set_option maxRecDepth 100000 in
theorem zgp_87 : GoodIn lw_tbl ([.classLink RL 13 "java/lang/IllegalStateException", .classLink RL 25 "java/lang/IndexOutOfBoundsException", .methodLink RL 43 yX6_at, .instanceMethod yX6_at, .selects RX6 yX6_at yX6_at, .initialized RX6, .code yX6_at cX6_at 2 (some .int), .fieldLink RX6 49 "FlowParts" "best" "[I", .methodLink RX6 169 yX6_needBest, .instanceMethod yX6_needBest, .selects RX6 yX6_needBest yX6_needBest, .code yX6_needBest cX6_needBest 1 none, .classLink RX6 62 "java/lang/IllegalStateException", .initialized "java/lang/IllegalStateException", .fieldLink RX6 53 "FlowParts" "solved" "I", .methodLink RX6 101 yX6_needColumn, .instanceMethod yX6_needColumn, .selects RX6 yX6_needColumn yX6_needColumn, .code yX6_needColumn cX6_needColumn 2 none, .classLink RX6 209 "java/lang/IndexOutOfBoundsException", .initialized "java/lang/IndexOutOfBoundsException", .fieldLink RX6 20 "FlowParts" "whole" "LFlowParts$Whole;", .fieldLink RX6 57 "FlowParts$Whole" "columns" "I"] : List Cond) := goodIn_r _ [607, 722, 795, 796, 797, 78, 798, 300, 799, 801, 41, 802, 613, 89, 301, 747, 749, 40, 750, 731, 91, 295, 119] rfl (by decide +kernel)
set_option maxRecDepth 100000 in
theorem zgg_L_at : GoodIn lw_tbl wsL_at := fun w hw => (List.mem_cons.mp hw).elim (fun e => by rw [e]; exact ⟨(List.mem_of_getElem? (i := 794) rfl), good_of_word (by decide +kernel)⟩) ((goodIn_app (goodIn_app (goodIn_app (goodIn_app zgp_87 zgp_wsX60) zgp_wsX50) zgx_66) zgx_213) w)
set_option maxRecDepth 100000 in
theorem zg_L_at : GoodIn lw_tbl (va_wsS RL 139 yL_at wsL_at) := goodIn_app (goodIn_r _ [792, 793, 77] rfl (by decide +kernel)) zgg_L_at
set_option maxRecDepth 100000 in
theorem zgp_88 : GoodIn lw_tbl ([.fieldLink RX7 28 "FlowPartsModel" "solved" "I", .fieldLink RX7 32 "FlowPartsModel" "best" "[I", .methodLink RX7 108 yX7_isColumn, .instanceMethod yX7_isColumn, .selects RX7 yX7_isColumn yX7_isColumn, .initialized RX7, .code yX7_isColumn cX7_isColumn 2 (some .boolean), .fieldLink RX7 78 "FlowPartsModel" "columns" "I", .methodLink RX7 81 yX7_within, .static yX7_within, .code yX7_within cX7_within 6 (some .boolean), .methodLink RX7 96 yX7_passes, .instanceMethod yX7_passes, .selects RX7 yX7_passes yX7_passes, .code yX7_passes cX7_passes 3 (some .boolean), .fieldLink RX7 75 "FlowPartsModel" "thrown" "I"] : List Cond) := goodIn_r _ [871, 873, 982, 984, 46, 85, 985, 863, 961, 962, 963, 964, 966, 44, 967, 862] rfl (by decide +kernel)
set_option maxRecDepth 100000 in
theorem zgg_X7_at : GoodIn lw_tbl wsX7_at := fun w hw => (List.mem_cons.mp hw).elim (fun e => by rw [e]; exact ⟨(List.mem_of_getElem? (i := 1171) rfl), good_of_word (by decide +kernel)⟩) ((goodIn_app zgp_88 zgp_wsX70) w)
set_option maxRecDepth 100000 in
theorem zg_X7_at : GoodIn lw_tbl (wsV RL 141 RX7 yX7_at wsX7_at) := goodIn_app (goodIn_r _ [1168, 1169, 1170, 85] rfl (by decide +kernel)) zgg_X7_at
set_option maxRecDepth 100000 in
theorem zgp_89 : GoodIn lw_tbl ([.classLink RL 13 "java/lang/IllegalStateException", .methodLink RL 46 yX6_value, .instanceMethod yX6_value, .selects RX6 yX6_value yX6_value, .initialized RX6, .code yX6_value cX6_value 3 (some .int), .fieldLink RX6 20 "FlowParts" "whole" "LFlowParts$Whole;", .fieldLink RX6 57 "FlowParts$Whole" "columns" "I", .fieldLink RX6 120 "FlowParts$Whole" "cost" "[I", .fieldLink RX6 49 "FlowParts" "best" "[I", .methodLink RX6 169 yX6_needBest, .instanceMethod yX6_needBest, .selects RX6 yX6_needBest yX6_needBest, .code yX6_needBest cX6_needBest 1 none, .classLink RX6 62 "java/lang/IllegalStateException", .initialized "java/lang/IllegalStateException", .fieldLink RX6 53 "FlowParts" "solved" "I"] : List Cond) := goodIn_r _ [607, 807, 808, 809, 78, 810, 295, 119, 143, 300, 799, 801, 41, 802, 613, 89, 301] rfl (by decide +kernel)
set_option maxRecDepth 100000 in
theorem zgg_L_value : GoodIn lw_tbl wsL_value := fun w hw => (List.mem_cons.mp hw).elim (fun e => by rw [e]; exact ⟨(List.mem_of_getElem? (i := 806) rfl), good_of_word (by decide +kernel)⟩) ((goodIn_app (goodIn_app (goodIn_app zgp_89 zgp_wsX60) zgp_wsX50) zgx_66) w)
set_option maxRecDepth 100000 in
theorem zg_L_value : GoodIn lw_tbl (va_wsS RL 142 yL_value wsL_value) := goodIn_app (goodIn_r _ [804, 805, 77] rfl (by decide +kernel)) zgg_L_value
set_option maxRecDepth 100000 in
theorem zgp_90 : GoodIn lw_tbl ([.fieldLink RX7 28 "FlowPartsModel" "solved" "I", .fieldLink RX7 78 "FlowPartsModel" "columns" "I", .fieldLink RX7 16 "FlowPartsModel" "costs" "[I", .fieldLink RX7 32 "FlowPartsModel" "best" "[I", .methodLink RX7 96 yX7_passes, .instanceMethod yX7_passes, .selects RX7 yX7_passes yX7_passes, .initialized RX7, .code yX7_passes cX7_passes 3 (some .boolean), .fieldLink RX7 75 "FlowPartsModel" "thrown" "I"] : List Cond) := goodIn_r _ [871, 863, 867, 873, 964, 966, 44, 85, 967, 862] rfl (by decide +kernel)
set_option maxRecDepth 100000 in
theorem zgg_X7_value : GoodIn lw_tbl wsX7_value := fun w hw => (List.mem_cons.mp hw).elim (fun e => by rw [e]; exact ⟨(List.mem_of_getElem? (i := 1175) rfl), good_of_word (by decide +kernel)⟩) ((goodIn_app zgp_90 zgp_wsX70) w)
set_option maxRecDepth 100000 in
theorem zg_X7_value : GoodIn lw_tbl (wsV RL 145 RX7 yX7_value wsX7_value) := goodIn_app (goodIn_r _ [1172, 1173, 1174, 85] rfl (by decide +kernel)) zgg_X7_value
set_option maxRecDepth 100000 in
theorem zgp_wsL_sum_r1 : GoodIn lw_tbl wsL_sum_r1 := goodIn_r _ [607, 722, 814, 815, 816, 78, 817, 295, 119, 159, 300, 799, 801, 41, 802, 613, 89, 301, 727, 729, 39, 730, 731, 91] rfl (by decide +kernel)
set_option maxRecDepth 100000 in
theorem zgp_wsL_sum_r2 : GoodIn lw_tbl wsL_sum_r2 := goodIn_r _ [128] rfl (by decide +kernel)
set_option maxRecDepth 100000 in
theorem zgg_L_sum : GoodIn lw_tbl wsL_sum := fun w hw => (List.mem_cons.mp hw).elim (fun e => by rw [e]; exact ⟨(List.mem_of_getElem? (i := 813) rfl), good_of_word (by decide +kernel)⟩) ((goodIn_app (goodIn_app (goodIn_app (goodIn_app (goodIn_app zgp_wsL_sum_r1 zgp_wsL_sum_r2) zgp_wsX60) zgp_wsX50) zgx_66) zgx_213) w)
set_option maxRecDepth 100000 in
theorem zg_L_sum : GoodIn lw_tbl (va_wsS RL 146 yL_sum wsL_sum) := goodIn_app (goodIn_r _ [811, 812, 77] rfl (by decide +kernel)) zgg_L_sum
set_option maxRecDepth 100000 in
theorem zgp_wsX7_sum_r1 : GoodIn lw_tbl wsX7_sum_r1 := goodIn_r _ [871, 978, 980, 45, 85, 981, 864, 961, 962, 963, 964, 966, 44, 967, 862, 1131, 1133, 68, 1134, 863, 873, 1016, 1018, 49] rfl (by decide +kernel)
