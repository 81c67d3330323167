set_option maxRecDepth 100000 in
theorem zgp_wsX7_sum_r2 : GoodIn lw_tbl wsX7_sum_r2 := goodIn_r _ [1019, 870] rfl (by decide +kernel)
set_option maxRecDepth 100000 in
theorem zgg_X7_sum : GoodIn lw_tbl wsX7_sum := fun w hw => (List.mem_cons.mp hw).elim (fun e => by rw [e]; exact ⟨(List.mem_of_getElem? (i := 1179) rfl), good_of_word (by decide +kernel)⟩) ((goodIn_app (goodIn_app zgp_wsX7_sum_r1 zgp_wsX7_sum_r2) zgp_wsX70) w)
set_option maxRecDepth 100000 in
theorem zg_X7_sum : GoodIn lw_tbl (wsV RL 148 RX7 yX7_sum wsX7_sum) := goodIn_app (goodIn_r _ [1176, 1177, 1178, 85] rfl (by decide +kernel)) zgg_X7_sum
set_option maxRecDepth 100000 in
theorem zgp_95 : GoodIn lw_tbl ([.classLink RL 13 "java/lang/IllegalStateException", .classLink RL 25 "java/lang/IndexOutOfBoundsException", .methodLink RL 53 yX6_price, .instanceMethod yX6_price, .selects RX6 yX6_price yX6_price, .initialized RX6, .code yX6_price cX6_price 2 (some .int), .fieldLink RX6 31 "FlowParts" "prices" "LFlowParts$Prices;", .fieldLink RX6 175 "FlowParts$Prices" "ofRow" "[I", .methodLink RX6 172 yX6_needPrices, .instanceMethod yX6_needPrices, .selects RX6 yX6_needPrices yX6_needPrices, .code yX6_needPrices cX6_needPrices 1 none, .classLink RX6 62 "java/lang/IllegalStateException", .initialized "java/lang/IllegalStateException", .fieldLink RX6 53 "FlowParts" "solved" "I", .methodLink RX6 97 yX6_needRow, .instanceMethod yX6_needRow, .selects RX6 yX6_needRow yX6_needRow, .code yX6_needRow cX6_needRow 2 none, .classLink RX6 209 "java/lang/IndexOutOfBoundsException", .initialized "java/lang/IndexOutOfBoundsException", .fieldLink RX6 20 "FlowParts" "whole" "LFlowParts$Whole;", .fieldLink RX6 85 "FlowParts$Whole" "rows" "I"] : List Cond) := goodIn_r _ [607, 722, 821, 822, 823, 78, 824, 297, 258, 825, 827, 42, 828, 613, 89, 301, 727, 729, 39, 730, 731, 91, 295, 128] rfl (by decide +kernel)
set_option maxRecDepth 100000 in
theorem zgg_L_price : GoodIn lw_tbl wsL_price := fun w hw => (List.mem_cons.mp hw).elim (fun e => by rw [e]; exact ⟨(List.mem_of_getElem? (i := 820) rfl), good_of_word (by decide +kernel)⟩) ((goodIn_app (goodIn_app (goodIn_app (goodIn_app (goodIn_app zgp_95 zgp_wsX60) zgp_wsX20) zgp_wsX50) zgx_66) zgx_213) w)
set_option maxRecDepth 100000 in
theorem zg_L_price : GoodIn lw_tbl (va_wsS RL 149 yL_price wsL_price) := goodIn_app (goodIn_r _ [818, 819, 77] rfl (by decide +kernel)) zgg_L_price
set_option maxRecDepth 100000 in
theorem zgp_96 : GoodIn lw_tbl ([.fieldLink RX7 28 "FlowPartsModel" "solved" "I", .fieldLink RX7 223 "FlowPartsModel" "byFlow" "Z", .fieldLink RX7 35 "FlowPartsModel" "prices" "[J", .methodLink RX7 104 yX7_isRow, .instanceMethod yX7_isRow, .selects RX7 yX7_isRow yX7_isRow, .initialized RX7, .code yX7_isRow cX7_isRow 2 (some .boolean), .fieldLink RX7 85 "FlowPartsModel" "rows" "I", .methodLink RX7 81 yX7_within, .static yX7_within, .code yX7_within cX7_within 6 (some .boolean), .methodLink RX7 96 yX7_passes, .instanceMethod yX7_passes, .selects RX7 yX7_passes yX7_passes, .code yX7_passes cX7_passes 3 (some .boolean), .fieldLink RX7 75 "FlowPartsModel" "thrown" "I"] : List Cond) := goodIn_r _ [871, 872, 874, 978, 980, 45, 85, 981, 864, 961, 962, 963, 964, 966, 44, 967, 862] rfl (by decide +kernel)
set_option maxRecDepth 100000 in
theorem zgg_X7_price : GoodIn lw_tbl wsX7_price := fun w hw => (List.mem_cons.mp hw).elim (fun e => by rw [e]; exact ⟨(List.mem_of_getElem? (i := 1183) rfl), good_of_word (by decide +kernel)⟩) ((goodIn_app zgp_96 zgp_wsX70) w)
set_option maxRecDepth 100000 in
theorem zg_X7_price : GoodIn lw_tbl (wsV RL 151 RX7 yX7_price wsX7_price) := goodIn_app (goodIn_r _ [1180, 1181, 1182, 85] rfl (by decide +kernel)) zgg_X7_price
set_option maxRecDepth 100000 in
theorem zgp_wsL_reduced_r1 : GoodIn lw_tbl wsL_reduced_r1 := goodIn_r _ [607, 722, 833, 834, 835, 78, 836, 295, 143, 128, 159, 297, 258, 825, 827, 42, 828, 613, 89, 301, 747, 749, 40, 750] rfl (by decide +kernel)
set_option maxRecDepth 100000 in
theorem zgp_wsL_reduced_r2 : GoodIn lw_tbl wsL_reduced_r2 := goodIn_r _ [731, 91, 119] rfl (by decide +kernel)
set_option maxRecDepth 100000 in
theorem zgg_L_reduced : GoodIn lw_tbl wsL_reduced := fun w hw => (List.mem_cons.mp hw).elim (fun e => by rw [e]; exact ⟨(List.mem_of_getElem? (i := 832) rfl), good_of_word (by decide +kernel)⟩) ((goodIn_app (goodIn_app (goodIn_app (goodIn_app (goodIn_app (goodIn_app zgp_wsL_reduced_r1 zgp_wsL_reduced_r2) zgp_wsX60) zgp_wsX50) zgp_wsX20) zgx_66) zgx_213) w)
set_option maxRecDepth 100000 in
theorem zg_L_reduced : GoodIn lw_tbl (va_wsS RL 152 yL_reduced wsL_reduced) := goodIn_app (goodIn_r _ [830, 831, 77] rfl (by decide +kernel)) zgg_L_reduced
set_option maxRecDepth 100000 in
theorem zgp_99 : GoodIn lw_tbl ([.fieldLink RX7 28 "FlowPartsModel" "solved" "I", .fieldLink RX7 223 "FlowPartsModel" "byFlow" "Z", .fieldLink RX7 16 "FlowPartsModel" "costs" "[I", .fieldLink RX7 85 "FlowPartsModel" "rows" "I", .fieldLink RX7 35 "FlowPartsModel" "prices" "[J", .methodLink RX7 108 yX7_isColumn, .instanceMethod yX7_isColumn, .selects RX7 yX7_isColumn yX7_isColumn, .initialized RX7, .code yX7_isColumn cX7_isColumn 2 (some .boolean), .fieldLink RX7 78 "FlowPartsModel" "columns" "I", .methodLink RX7 81 yX7_within, .static yX7_within, .code yX7_within cX7_within 6 (some .boolean), .methodLink RX7 96 yX7_passes, .instanceMethod yX7_passes, .selects RX7 yX7_passes yX7_passes, .code yX7_passes cX7_passes 3 (some .boolean), .fieldLink RX7 75 "FlowPartsModel" "thrown" "I", .methodLink RX7 119 yX7_coef, .instanceMethod yX7_coef, .selects RX7 yX7_coef yX7_coef, .code yX7_coef cX7_coef 3 (some .int), .fieldLink RX7 25 "FlowPartsModel" "coefs" "[I"] : List Cond) := goodIn_r _ [871, 872, 867, 864, 874, 982, 984, 46, 85, 985, 863, 961, 962, 963, 964, 966, 44, 967, 862, 1016, 1018, 49, 1019, 870] rfl (by decide +kernel)
set_option maxRecDepth 100000 in
theorem zgg_X7_reduced : GoodIn lw_tbl wsX7_reduced := fun w hw => (List.mem_cons.mp hw).elim (fun e => by rw [e]; exact ⟨(List.mem_of_getElem? (i := 1187) rfl), good_of_word (by decide +kernel)⟩) ((goodIn_app zgp_99 zgp_wsX70) w)
set_option maxRecDepth 100000 in
theorem zg_X7_reduced : GoodIn lw_tbl (wsV RL 154 RX7 yX7_reduced wsX7_reduced) := goodIn_app (goodIn_r _ [1184, 1185, 1186, 85] rfl (by decide +kernel)) zgg_X7_reduced
set_option maxRecDepth 100000 in
theorem zgp_100 : GoodIn lw_tbl ([.classLink RL 13 "java/lang/IllegalStateException", .methodLink RL 59 yX6_proof, .instanceMethod yX6_proof, .selects RX6 yX6_proof yX6_proof, .initialized RX6, .code yX6_proof cX6_proof 1 (some .int), .fieldLink RX6 38 "FlowParts" "noPoint" "LFlowParts$Proof;", .fieldLink RX6 181 "FlowParts$Proof" "rowSet" "I", .methodLink RX6 178 yX6_needNoPoint, .instanceMethod yX6_needNoPoint, .selects RX6 yX6_needNoPoint yX6_needNoPoint, .code yX6_needNoPoint cX6_needNoPoint 1 none, .classLink RX6 62 "java/lang/IllegalStateException", .initialized "java/lang/IllegalStateException", .fieldLink RX6 53 "FlowParts" "solved" "I"] : List Cond) := goodIn_r _ [607, 840, 841, 842, 78, 843, 298, 275, 844, 846, 43, 847, 613, 89, 301] rfl (by decide +kernel)
set_option maxRecDepth 100000 in
theorem zgg_L_proof : GoodIn lw_tbl wsL_proof := fun w hw => (List.mem_cons.mp hw).elim (fun e => by rw [e]; exact ⟨(List.mem_of_getElem? (i := 839) rfl), good_of_word (by decide +kernel)⟩) ((goodIn_app (goodIn_app (goodIn_app zgp_100 zgp_wsX60) zgp_wsX30) zgx_66) w)
set_option maxRecDepth 100000 in
theorem zg_L_proof : GoodIn lw_tbl (va_wsS RL 155 yL_proof wsL_proof) := goodIn_app (goodIn_r _ [837, 838, 77] rfl (by decide +kernel)) zgg_L_proof
set_option maxRecDepth 100000 in
theorem zgp_101 : GoodIn lw_tbl ([.fieldLink RX7 28 "FlowPartsModel" "solved" "I", .fieldLink RX7 205 "FlowPartsModel" "proofSet" "I", .methodLink RX7 96 yX7_passes, .instanceMethod yX7_passes, .selects RX7 yX7_passes yX7_passes, .initialized RX7, .code yX7_passes cX7_passes 3 (some .boolean), .fieldLink RX7 75 "FlowPartsModel" "thrown" "I"] : List Cond) := goodIn_r _ [871, 875, 964, 966, 44, 85, 967, 862] rfl (by decide +kernel)
set_option maxRecDepth 100000 in
theorem zgg_X7_proof : GoodIn lw_tbl wsX7_proof := fun w hw => (List.mem_cons.mp hw).elim (fun e => by rw [e]; exact ⟨(List.mem_of_getElem? (i := 1191) rfl), good_of_word (by decide +kernel)⟩) ((goodIn_app zgp_101 zgp_wsX70) w)
set_option maxRecDepth 100000 in
theorem zg_X7_proof : GoodIn lw_tbl (wsV RL 157 RX7 yX7_proof wsX7_proof) := goodIn_app (goodIn_r _ [1188, 1189, 1190, 85] rfl (by decide +kernel)) zgg_X7_proof
set_option maxRecDepth 100000 in
theorem zgp_102 : GoodIn lw_tbl ([.classLink RL 13 "java/lang/IllegalStateException", .methodLink RL 62 yX6_side, .instanceMethod yX6_side, .selects RX6 yX6_side yX6_side, .initialized RX6, .code yX6_side cX6_side 1 (some .int), .fieldLink RX6 38 "FlowParts" "noPoint" "LFlowParts$Proof;", .fieldLink RX6 184 "FlowParts$Proof" "ofSide" "I", .methodLink RX6 178 yX6_needNoPoint, .instanceMethod yX6_needNoPoint, .selects RX6 yX6_needNoPoint yX6_needNoPoint, .code yX6_needNoPoint cX6_needNoPoint 1 none, .classLink RX6 62 "java/lang/IllegalStateException", .initialized "java/lang/IllegalStateException", .fieldLink RX6 53 "FlowParts" "solved" "I"] : List Cond) := goodIn_r _ [607, 852, 853, 854, 78, 855, 298, 277, 844, 846, 43, 847, 613, 89, 301] rfl (by decide +kernel)
set_option maxRecDepth 100000 in
theorem zgg_L_side : GoodIn lw_tbl wsL_side := fun w hw => (List.mem_cons.mp hw).elim (fun e => by rw [e]; exact ⟨(List.mem_of_getElem? (i := 851) rfl), good_of_word (by decide +kernel)⟩) ((goodIn_app (goodIn_app (goodIn_app zgp_102 zgp_wsX60) zgp_wsX30) zgx_66) w)
set_option maxRecDepth 100000 in
theorem zg_L_side : GoodIn lw_tbl (va_wsS RL 158 yL_side wsL_side) := goodIn_app (goodIn_r _ [849, 850, 77] rfl (by decide +kernel)) zgg_L_side
set_option maxRecDepth 100000 in
theorem zgp_103 : GoodIn lw_tbl ([.fieldLink RX7 28 "FlowPartsModel" "solved" "I", .fieldLink RX7 208 "FlowPartsModel" "proofSide" "I", .methodLink RX7 96 yX7_passes, .instanceMethod yX7_passes, .selects RX7 yX7_passes yX7_passes, .initialized RX7, .code yX7_passes cX7_passes 3 (some .boolean), .fieldLink RX7 75 "FlowPartsModel" "thrown" "I"] : List Cond) := goodIn_r _ [871, 876, 964, 966, 44, 85, 967, 862] rfl (by decide +kernel)
set_option maxRecDepth 100000 in
theorem zgg_X7_side : GoodIn lw_tbl wsX7_side := fun w hw => (List.mem_cons.mp hw).elim (fun e => by rw [e]; exact ⟨(List.mem_of_getElem? (i := 1195) rfl), good_of_word (by decide +kernel)⟩) ((goodIn_app zgp_103 zgp_wsX70) w)
set_option maxRecDepth 100000 in
theorem zg_X7_side : GoodIn lw_tbl (wsV RL 160 RX7 yX7_side wsX7_side) := goodIn_app (goodIn_r _ [1192, 1193, 1194, 85] rfl (by decide +kernel)) zgg_X7_side
theorem zin_0 : ∀ w ∈ wsX00, w ∈ lw_tbl := fun w h => (zgp_wsX00 w h).1
theorem zin_1 : ∀ w ∈ wsX10, w ∈ lw_tbl := fun w h => (zgp_wsX10 w h).1
theorem zin_2 : ∀ w ∈ wsX20, w ∈ lw_tbl := fun w h => (zgp_wsX20 w h).1
theorem zin_3 : ∀ w ∈ wsX30, w ∈ lw_tbl := fun w h => (zgp_wsX30 w h).1
theorem zin_4 : ∀ w ∈ wsX40, w ∈ lw_tbl := fun w h => (zgp_wsX40 w h).1
theorem zin_5 : ∀ w ∈ wsX50, w ∈ lw_tbl := fun w h => (zgp_wsX50 w h).1
theorem zin_6 : ∀ w ∈ wsX60, w ∈ lw_tbl := fun w h => (zgp_wsX60 w h).1
theorem zin_7 : ∀ w ∈ wsX70, w ∈ lw_tbl := fun w h => (zgp_wsX70 w h).1
