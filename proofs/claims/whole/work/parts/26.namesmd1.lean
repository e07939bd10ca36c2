set_option maxRecDepth 20000 in
theorem ggL_law_X7_oldest : GoodIn wsL_law wsX7_oldest := goodIn_r _ [796, 178, 797, 798, 799, 5, 800, 194, 195, 196, 197, 198, 199, 200, 201, 96, 696, 697, 698, 1042, 1043, 1044, 1045, 1046, 1047, 1048, 1049, 1050, 1051, 1052, 1053, 1054, 1055, 1056, 1057] (by decide +kernel) (by decide +kernel)
set_option maxRecDepth 20000 in
theorem gL_law_X7_oldest : GoodIn wsL_law (wsV RL 135 RX7 yX7_oldest wsX7_oldest) := goodIn_app (goodIn_of _ (by decide +kernel)) ggL_law_X7_oldest
set_option maxRecDepth 20000 in
theorem ggL_law_X6_greatestGap : GoodIn wsL_law wsX6_greatestGap := goodIn_r _ [804, 16, 805, 806, 807, 15, 808, 38, 298, 299, 148, 300, 158, 159, 160, 35, 161, 59, 649, 260, 261, 262, 46, 45, 39, 41, 40, 653, 654, 265, 655, 656, 267, 268, 269, 1038, 1039, 1040, 1041, 1058, 1059, 1060, 1061, 1062, 1063, 1064, 1065, 1066, 1067, 1068, 1069, 1070, 1071, 1072, 1073, 1074, 1075, 1090] (by decide +kernel) (by decide +kernel)
set_option maxRecDepth 20000 in
theorem gL_law_X6_greatestGap : GoodIn wsL_law (wsV RL 136 RX6 yX6_greatestGap wsX6_greatestGap) := goodIn_app (goodIn_of _ (by decide +kernel)) ggL_law_X6_greatestGap
set_option maxRecDepth 20000 in
theorem ggL_law_X7_greatestGap : GoodIn wsL_law wsX7_greatestGap := goodIn_r _ [812, 178, 813, 814, 815, 5, 816, 96, 667, 668, 669, 670, 379, 380, 381, 382, 99, 383, 384, 385, 386, 387, 388, 389, 390, 198, 199, 200, 201, 391, 392, 393, 394, 371, 372, 373, 374, 1042, 1043, 1044, 1045, 1046, 1047, 1048, 1049, 1050, 1051, 1052, 1053, 1054, 1055, 1056, 1057] (by decide +kernel) (by decide +kernel)
set_option maxRecDepth 20000 in
theorem gL_law_X7_greatestGap : GoodIn wsL_law (wsV RL 139 RX7 yX7_greatestGap wsX7_greatestGap) := goodIn_app (goodIn_of _ (by decide +kernel)) ggL_law_X7_greatestGap
set_option maxRecDepth 20000 in
theorem ggL_law_L_type : GoodIn wsL_law wsL_type := goodIn_ca (goodIn_ca (goodIn_ca (goodIn_r _ [819, 107, 213, 820, 821, 822, 2, 823, 24, 118, 119, 120, 121, 122, 123, 124, 125, 126, 127, 128, 129, 824, 825, 826, 23, 827, 77, 78, 828, 163, 164, 35, 165, 59, 1038, 1039, 1040, 1041, 1079, 1080, 1081, 1082, 1083, 1084, 1090] (by decide +kernel) (by decide +kernel)) (goodIn_sub (fun _ h => List.mem_append_left _ (List.mem_append_left _ (List.mem_append_right _ h))) (by decide +kernel))) (goodIn_sub (fun _ h => List.mem_append_left _ (List.mem_append_right _ h)) (by decide +kernel))) (goodIn_sub (fun _ h => List.mem_append_right _ h) (by decide +kernel))
set_option maxRecDepth 20000 in
theorem gL_law_L_type : GoodIn wsL_law (va_wsS RL 140 yL_type wsL_type) := goodIn_app (goodIn_of _ (by decide +kernel)) ggL_law_L_type
set_option maxRecDepth 20000 in
theorem ggL_law_X7_type : GoodIn wsL_law wsX7_type := goodIn_r _ [832, 746, 178, 100, 182, 183, 5, 184, 1042, 1043, 1044, 1045, 1046, 1047, 1048, 1049, 1050, 1051, 1052, 1053, 1054, 1055, 1056, 1057] (by decide +kernel) (by decide +kernel)
set_option maxRecDepth 20000 in
theorem gL_law_X7_type : GoodIn wsL_law (wsV RL 142 RX7 yX7_type wsX7_type) := goodIn_app (goodIn_of _ (by decide +kernel)) ggL_law_X7_type
set_option maxRecDepth 20000 in
theorem ggL_law_X6_clearCommands : GoodIn wsL_law wsX6_clearCommands := goodIn_r _ [836, 24, 837, 838, 839, 23, 840, 78, 1038, 1039, 1040, 1041, 1079, 1080, 1081, 1082, 1083, 1084] (by decide +kernel) (by decide +kernel)
set_option maxRecDepth 20000 in
theorem gL_law_X6_clearCommands : GoodIn wsL_law (wsV RL 143 RX6 yX6_clearCommands wsX6_clearCommands) := goodIn_app (goodIn_of _ (by decide +kernel)) ggL_law_X6_clearCommands
theorem last_26d1 : True := trivial
