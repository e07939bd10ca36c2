set_option maxRecDepth 20000 in
theorem ggL_law_X7_clearCommands : GoodIn wsL_law wsX7_clearCommands := goodIn_r _ [844, 178, 746, 1042, 1043, 1044, 1045, 1046, 1047, 1048, 1049, 1050, 1051, 1052, 1053, 1054, 1055, 1056, 1057] (by decide +kernel) (by decide +kernel)
set_option maxRecDepth 20000 in
theorem gL_law_X7_clearCommands : GoodIn wsL_law (wsV RL 146 RX7 yX7_clearCommands wsX7_clearCommands) := goodIn_app (goodIn_of _ (by decide +kernel)) ggL_law_X7_clearCommands
set_option maxRecDepth 20000 in
theorem ggL_law_X6_runCommands_p0 : GoodIn wsL_law (.code yX6_runCommands cX6_runCommands 2 (some .int) :: wsX6_runCommands_r1) := goodIn_r _ [848, 24, 20, 16, 849, 850, 851, 23, 852, 79, 82, 78, 853, 854, 855, 856, 857, 858, 859, 860, 77, 861, 159, 160, 35] (by decide +kernel) (by decide +kernel)
set_option maxRecDepth 20000 in
theorem ggL_law_X6_runCommands_p1 : GoodIn wsL_law wsX6_runCommands_r2 := goodIn_r _ [161, 59, 862, 863, 864, 865, 80, 866, 867, 868, 869, 870, 871, 872, 873, 874, 875, 876, 877, 878, 879, 880, 881, 882] (by decide +kernel) (by decide +kernel)
set_option maxRecDepth 20000 in
theorem ggL_law_X6_runCommands_p2 : GoodIn wsL_law wsX6_runCommands_r3 := goodIn_r _ [883, 884, 885, 886, 887, 888, 889, 890, 891, 892, 893, 894, 895, 896, 897, 898, 899, 900, 901, 902, 903, 904, 905, 906] (by decide +kernel) (by decide +kernel)
set_option maxRecDepth 20000 in
theorem ggL_law_X6_runCommands_p3 : GoodIn wsL_law wsX6_runCommands_r4 := goodIn_r _ [907, 908, 909, 910, 911, 912, 913, 914, 915, 916, 917, 918, 919, 920, 921, 922, 923, 924, 925, 926, 927, 928, 929, 930] (by decide +kernel) (by decide +kernel)
set_option maxRecDepth 20000 in
theorem ggL_law_X6_runCommands_p4 : GoodIn wsL_law wsX6_runCommands_r5 := goodIn_r _ [931, 932, 828, 163, 164, 165, 933, 934, 935, 936, 937, 938, 939, 81, 940, 941, 942, 130, 131, 132, 19, 133, 70, 71] (by decide +kernel) (by decide +kernel)
set_option maxRecDepth 20000 in
theorem ggL_law_X6_runCommands_p5 : GoodIn wsL_law wsX6_runCommands_r6 := goodIn_r _ [134, 135, 136, 137, 69, 138, 139, 140, 15, 141, 36, 37, 38, 39, 40, 41, 42, 43, 44, 45, 46, 47, 48, 49] (by decide +kernel) (by decide +kernel)
set_option maxRecDepth 20000 in
theorem ggL_law_X6_runCommands_p6 : GoodIn wsL_law wsX6_runCommands_r7 := goodIn_r _ [50, 51, 52, 53, 142, 143, 144, 145, 146, 147, 148, 149, 150, 151, 152, 153, 943, 944, 945, 2, 946, 28, 947, 948] (by decide +kernel) (by decide +kernel)
set_option maxRecDepth 20000 in
theorem ggL_law_X6_runCommands_p7 : GoodIn wsL_law wsX6_runCommands_r8 := goodIn_r _ [949, 950, 951, 952, 953, 954, 112, 113, 114, 115, 116, 117, 118, 119, 120, 154, 155, 156, 157, 158, 162, 166, 167, 168] (by decide +kernel) (by decide +kernel)
set_option maxRecDepth 20000 in
theorem ggL_law_X6_runCommands_p8 : GoodIn wsL_law wsX6_runCommands_r9 := goodIn_r _ [169, 170, 171, 172, 173, 218, 219, 220, 221, 222, 223, 224, 225, 226, 227, 228, 229, 230, 27, 231, 90, 91, 87, 232] (by decide +kernel) (by decide +kernel)
set_option maxRecDepth 20000 in
theorem ggL_law_X6_runCommands_p9 : GoodIn wsL_law wsX6_runCommands_r10 := goodIn_r _ [233, 234, 235, 88, 89, 236, 237, 238, 239, 240, 241, 242, 243, 244, 245, 246, 247, 248, 249, 250, 251, 252, 253, 254] (by decide +kernel) (by decide +kernel)
set_option maxRecDepth 20000 in
theorem ggL_law_X6_runCommands_p10 : GoodIn wsL_law wsX6_runCommands_r11 := goodIn_r _ [255, 256, 257, 258, 259, 260, 261, 262, 263, 264, 265, 266, 267, 268, 269, 270, 271, 272, 273, 274, 275, 276, 277, 278] (by decide +kernel) (by decide +kernel)
set_option maxRecDepth 20000 in
theorem ggL_law_X6_runCommands_p11 : GoodIn wsL_law wsX6_runCommands_r12 := goodIn_r _ [279, 280, 281, 282, 283, 284, 285, 286, 287, 288, 289, 290, 291, 292, 293, 294, 295, 296, 297, 298, 299, 300, 301, 302] (by decide +kernel) (by decide +kernel)
set_option maxRecDepth 20000 in
theorem ggL_law_X6_runCommands_p12 : GoodIn wsL_law wsX6_runCommands_r13 := goodIn_r _ [303, 304, 305, 306, 307, 308, 309, 310, 311, 312, 313, 314, 315, 316, 317, 318, 319, 320, 321, 322, 323, 324, 325, 326] (by decide +kernel) (by decide +kernel)
set_option maxRecDepth 20000 in
theorem ggL_law_X6_runCommands_p13 : GoodIn wsL_law wsX6_runCommands_r14 := goodIn_r _ [327, 328, 329, 330, 331, 332, 333, 334, 335, 336, 337, 338, 339, 340, 341, 342, 343, 344, 345, 346, 450, 451, 452, 453] (by decide +kernel) (by decide +kernel)
set_option maxRecDepth 20000 in
theorem ggL_law_X6_runCommands_p14 : GoodIn wsL_law wsX6_runCommands_r15 := goodIn_r _ [454, 455, 456, 457, 458, 467, 468, 469, 470, 471, 472, 473, 474, 490, 491, 492, 493, 494, 495, 496, 497, 510, 511, 512] (by decide +kernel) (by decide +kernel)
set_option maxRecDepth 20000 in
theorem ggL_law_X6_runCommands_p15 : GoodIn wsL_law wsX6_runCommands_r16 := goodIn_r _ [513, 514, 515, 516, 517, 518] (by decide +kernel) (by decide +kernel)
set_option maxRecDepth 20000 in
theorem ggL_law_X6_runCommands_t0 : GoodIn wsL_law wsX60 := goodIn_r _ [1038, 1039, 1040, 1041] (by decide +kernel) (by decide +kernel)
set_option maxRecDepth 20000 in
theorem ggL_law_X6_runCommands_t1 : GoodIn wsL_law wsX00 := goodIn_r _ [1079, 1080, 1081, 1082, 1083, 1084] (by decide +kernel) (by decide +kernel)
set_option maxRecDepth 20000 in
theorem ggL_law_X6_runCommands_t2 : GoodIn wsL_law wsX30 := goodIn_r _ [1090] (by decide +kernel) (by decide +kernel)
set_option maxRecDepth 20000 in
theorem ggL_law_X6_runCommands_t3 : GoodIn wsL_law wsX50 := goodIn_r _ [1076, 1077, 1078] (by decide +kernel) (by decide +kernel)
set_option maxRecDepth 20000 in
theorem ggL_law_X6_runCommands_t4 : GoodIn wsL_law wsX40 := goodIn_r _ [1058, 1059, 1060, 1061, 1062, 1063, 1064, 1065, 1066, 1067, 1068, 1069, 1070, 1071, 1072, 1073, 1074, 1075] (by decide +kernel) (by decide +kernel)
set_option maxRecDepth 20000 in
theorem ggL_law_X6_runCommands_t5 : GoodIn wsL_law wsX20 := goodIn_r _ [1085, 1086, 1087, 1088, 1089] (by decide +kernel) (by decide +kernel)
theorem ggL_law_X6_runCommands : GoodIn wsL_law wsX6_runCommands := (goodIn_ca (goodIn_ca (goodIn_ca (goodIn_ca (goodIn_ca (goodIn_ca (goodIn_ca ggL_law_X6_runCommands_p0 (goodIn_app ggL_law_X6_runCommands_p1 (goodIn_app ggL_law_X6_runCommands_p2 (goodIn_app ggL_law_X6_runCommands_p3 (goodIn_app ggL_law_X6_runCommands_p4 (goodIn_app ggL_law_X6_runCommands_p5 (goodIn_app ggL_law_X6_runCommands_p6 (goodIn_app ggL_law_X6_runCommands_p7 (goodIn_app ggL_law_X6_runCommands_p8 (goodIn_app ggL_law_X6_runCommands_p9 (goodIn_app ggL_law_X6_runCommands_p10 (goodIn_app ggL_law_X6_runCommands_p11 (goodIn_app ggL_law_X6_runCommands_p12 (goodIn_app ggL_law_X6_runCommands_p13 (goodIn_app ggL_law_X6_runCommands_p14 ggL_law_X6_runCommands_p15))))))))))))))) ggL_law_X6_runCommands_t0) ggL_law_X6_runCommands_t1) ggL_law_X6_runCommands_t2) ggL_law_X6_runCommands_t3) ggL_law_X6_runCommands_t4) ggL_law_X6_runCommands_t5)
set_option maxRecDepth 20000 in
theorem gL_law_X6_runCommands : GoodIn wsL_law (wsV RL 147 RX6 yX6_runCommands wsX6_runCommands) := goodIn_app (goodIn_of _ (by decide +kernel)) ggL_law_X6_runCommands
theorem last_26d2 : True := trivial
