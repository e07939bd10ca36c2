theorem zmem_pos {big : List Cond} (ws : List Cond) (ps : List Nat) (hp : ws = ps.filterMap (fun i => big[i]?)) : ∀ w ∈ ws, w ∈ big := by
  intro w hw
  rw [hp] at hw
  obtain ⟨i, -, hi⟩ := List.mem_filterMap.mp hw
  exact List.mem_of_getElem? hi
set_option maxRecDepth 20000 in
theorem wsL_law0_r1_in : ∀ w ∈ wsL_law0_r1, w ∈ lw_tbl := zmem_pos _ [109, 110, 89, 1002, 1003, 95, 1365, 111, 112, 113, 114, 115, 116, 117, 118, 90, 273, 195, 196, 92, 274, 215, 216, 93] (by decide +kernel)
set_option maxRecDepth 20000 in
theorem wsL_law0_r2_in : ∀ w ∈ wsL_law0_r2, w ∈ lw_tbl := zmem_pos _ [275, 245, 246, 94, 276, 119, 120, 121, 122, 123, 124, 91, 138, 139, 140, 141, 142, 143, 144, 145, 146, 147, 148, 149] (by decide +kernel)
set_option maxRecDepth 20000 in
theorem wsL_law0_r3_in : ∀ w ∈ wsL_law0_r3, w ∈ lw_tbl := zmem_pos _ [152, 153, 154, 155, 156, 157, 125, 126, 127, 128, 133, 129, 134, 135, 136, 137, 197, 198, 199, 200, 201, 204, 205, 206] (by decide +kernel)
set_option maxRecDepth 20000 in
theorem wsL_law0_r4_in : ∀ w ∈ wsL_law0_r4, w ∈ lw_tbl := zmem_pos _ [203, 218, 219, 220, 221, 223, 224, 226, 228, 229, 230, 222, 248, 249, 250, 251, 254, 256, 258, 260, 1004, 1005, 1006, 1007] (by decide +kernel)
set_option maxRecDepth 20000 in
theorem wsL_law0_r5_in : ∀ w ∈ wsL_law0_r5, w ∈ lw_tbl := zmem_pos _ [1008, 1009, 1057, 1012, 1019, 1022, 868, 869, 88, 870, 871, 872, 873, 874, 875, 876, 518, 519, 520, 521, 522, 523, 524, 525] (by decide +kernel)
set_option maxRecDepth 20000 in
theorem wsL_law0_r6_in : ∀ w ∈ wsL_law0_r6, w ∈ lw_tbl := zmem_pos _ [526, 678, 679, 680, 681, 99, 748, 100, 764, 101, 290, 291, 292, 293, 294, 296, 0, 297, 298, 299, 300, 301, 302, 303] (by decide +kernel)
set_option maxRecDepth 20000 in
theorem wsL_law0_r7_in : ∀ w ∈ wsL_law0_r7, w ∈ lw_tbl := zmem_pos _ [304, 305, 306, 307, 102, 308, 309, 311, 310, 103, 527, 528, 529, 530, 320, 321, 322, 323, 344, 345, 346, 347, 531, 532] (by decide +kernel)
set_option maxRecDepth 20000 in
theorem wsL_law0_r8_in : ∀ w ∈ wsL_law0_r8, w ∈ lw_tbl := zmem_pos _ [533, 534, 535, 537, 13, 538, 1066, 1067, 1068, 1069, 1011, 1070, 1071, 1072, 1073, 1074, 1075, 1076, 1078, 41, 1079, 1010, 1080, 1082] (by decide +kernel)
set_option maxRecDepth 20000 in
theorem wsL_law0_r9_in : ∀ w ∈ wsL_law0_r9, w ∈ lw_tbl := zmem_pos _ [42, 1083, 1084, 1086, 43, 1087, 1088, 1090, 44, 1091, 1092, 1094, 45, 1095, 1058, 1059, 1060, 1061, 877, 878, 879, 880, 881, 882] (by decide +kernel)
set_option maxRecDepth 20000 in
theorem wsL_law0_r10_in : ∀ w ∈ wsL_law0_r10, w ∈ lw_tbl := zmem_pos _ [883, 884, 539, 541, 14, 542, 543, 544, 545, 546, 547, 548, 549, 550, 551, 552, 553, 555, 15, 556, 557, 558, 560, 16] (by decide +kernel)
set_option maxRecDepth 20000 in
theorem wsL_law0_r11_in : ∀ w ∈ wsL_law0_r11, w ∈ lw_tbl := zmem_pos _ [561, 562, 563, 564, 565, 364, 365, 367, 368, 370, 371, 569, 570, 571, 572, 573, 574, 575, 576, 577, 381, 382, 383, 578] (by decide +kernel)
set_option maxRecDepth 20000 in
theorem wsL_law0_r12_in : ∀ w ∈ wsL_law0_r12, w ∈ lw_tbl := zmem_pos _ [579, 104, 580, 387, 388, 389, 581, 583, 17, 584, 585, 586, 587, 588, 589, 590, 591, 592, 593, 595, 18, 596, 597, 598] (by decide +kernel)
set_option maxRecDepth 20000 in
theorem wsL_law0_r13_in : ∀ w ∈ wsL_law0_r13, w ∈ lw_tbl := zmem_pos _ [599, 600, 324, 326, 2, 327, 601, 602, 603, 604, 393, 391, 392, 605, 337, 338, 339, 606, 608, 19, 609, 610, 611, 612] (by decide +kernel)
set_option maxRecDepth 20000 in
theorem wsL_law0_r14_in : ∀ w ∈ wsL_law0_r14, w ∈ lw_tbl := zmem_pos _ [613, 614, 616, 20, 617, 618, 619, 620, 621, 356, 358, 4, 359, 622, 623, 624, 625, 626, 628, 21, 629, 630, 631, 632] (by decide +kernel)
set_option maxRecDepth 20000 in
theorem wsL_law0_r15_in : ∀ w ∈ wsL_law0_r15, w ∈ lw_tbl := zmem_pos _ [633, 634, 635, 636, 637, 638, 639, 640, 642, 22, 643, 1096, 1097, 1098, 1099, 1013, 1100, 1101, 1102, 1103, 1104, 1105, 1106, 1108] (by decide +kernel)
set_option maxRecDepth 20000 in
theorem wsL_law0_r16_in : ∀ w ∈ wsL_law0_r16, w ∈ lw_tbl := zmem_pos _ [46, 1109, 1017, 1018, 1110, 1112, 47, 1113, 1014, 1015, 1016, 1114, 1116, 48, 1117, 1118, 1120, 49, 1121, 1122, 1124, 50, 1125, 1126] (by decide +kernel)
set_option maxRecDepth 20000 in
theorem wsL_law0_r17_in : ∀ w ∈ wsL_law0_r17, w ∈ lw_tbl := zmem_pos _ [1128, 51, 1129, 1130, 1132, 52, 1133, 1134, 1136, 53, 1137, 1138, 1140, 54, 1141, 1142, 1144, 55, 1145, 1146, 1148, 56, 1149, 1150] (by decide +kernel)
set_option maxRecDepth 20000 in
theorem wsL_law0_r18_in : ∀ w ∈ wsL_law0_r18, w ∈ lw_tbl := zmem_pos _ [1152, 57, 1153, 1154, 1156, 58, 1157, 1158, 1160, 59, 1161, 1162, 1164, 60, 1165, 1166, 1168, 61, 1169, 1170, 1172, 62, 1173, 1174] (by decide +kernel)
set_option maxRecDepth 20000 in
theorem wsL_law0_r19_in : ∀ w ∈ wsL_law0_r19, w ∈ lw_tbl := zmem_pos _ [1176, 63, 1177, 1178, 1180, 64, 1181, 1182, 1184, 65, 1185, 885, 886, 887, 888, 889, 890, 891, 644, 646, 23, 647, 648, 649] (by decide +kernel)
set_option maxRecDepth 20000 in
theorem wsL_law0_r20_in : ∀ w ∈ wsL_law0_r20, w ∈ lw_tbl := zmem_pos _ [650, 651, 652, 1186, 1187, 1188, 1189, 286, 287, 288, 289, 312, 313, 314, 315, 316, 318, 1, 319, 1190, 1191, 1192, 1193, 1194] (by decide +kernel)
set_option maxRecDepth 20000 in
theorem wsL_law0_r21_in : ∀ w ∈ wsL_law0_r21, w ∈ lw_tbl := zmem_pos _ [1196, 66, 1197, 892, 893, 894, 895, 896, 897, 898, 653, 655, 24, 656, 657, 658, 659, 660, 1198, 1199, 1200, 1201, 1202, 1204] (by decide +kernel)
set_option maxRecDepth 20000 in
theorem wsL_law0_r22_in : ∀ w ∈ wsL_law0_r22, w ∈ lw_tbl := zmem_pos _ [67, 1205, 328, 329, 330, 331, 332, 333, 334, 335, 336, 340, 342, 3, 343, 1206, 1207, 1208, 1209, 1210, 1212, 68, 1213, 899] (by decide +kernel)
set_option maxRecDepth 20000 in
theorem wsL_law0_r23_in : ∀ w ∈ wsL_law0_r23, w ∈ lw_tbl := zmem_pos _ [900, 901, 902, 903, 904, 905, 675, 676, 677, 814, 815, 816, 817, 794, 796, 28, 797, 818, 820, 32, 821, 822, 824, 33] (by decide +kernel)
set_option maxRecDepth 20000 in
theorem wsL_law0_r24_in : ∀ w ∈ wsL_law0_r24, w ∈ lw_tbl := zmem_pos _ [825, 1214, 1215, 1216, 1217, 1218, 1220, 69, 1221, 1222, 1224, 70, 1225, 906, 907, 908, 909, 910, 911, 912, 798, 799, 800, 801] (by decide +kernel)
set_option maxRecDepth 20000 in
theorem wsL_law0_r25_in : ∀ w ∈ wsL_law0_r25, w ∈ lw_tbl := zmem_pos _ [802, 804, 29, 805, 806, 808, 30, 809, 1226, 1227, 1228, 1229, 1230, 1232, 71, 1233, 913, 914, 915, 916, 917, 918, 919, 920] (by decide +kernel)
set_option maxRecDepth 20000 in
theorem wsL_law0_r26_in : ∀ w ∈ wsL_law0_r26, w ∈ lw_tbl := zmem_pos _ [922, 38, 923, 830, 831, 832, 833, 788, 834, 835, 837, 35, 838, 839, 841, 36, 842, 843, 845, 37, 846, 1234, 1235, 1236] (by decide +kernel)
set_option maxRecDepth 20000 in
theorem wsL_law0_r27_in : ∀ w ∈ wsL_law0_r27, w ∈ lw_tbl := zmem_pos _ [1237, 1238, 1240, 72, 1241, 1242, 1244, 73, 1245, 924, 925, 926, 927, 928, 929, 930, 931, 933, 39, 934, 847, 848, 849, 850] (by decide +kernel)
set_option maxRecDepth 20000 in
theorem wsL_law0_r28_in : ∀ w ∈ wsL_law0_r28, w ∈ lw_tbl := zmem_pos _ [851, 380, 852, 853, 854, 384, 385, 386, 390, 855, 856, 1246, 1247, 1248, 1249, 1250, 1252, 74, 1253, 1254, 1256, 75, 1257, 935] (by decide +kernel)
set_option maxRecDepth 20000 in
theorem wsL_law0_r29_in : ∀ w ∈ wsL_law0_r29, w ∈ lw_tbl := zmem_pos _ [936, 937, 938, 939, 940, 941, 942, 943, 944, 945, 946, 948, 40, 949, 360, 361, 362, 363, 366, 369, 1258, 1259, 1260, 1261] (by decide +kernel)
set_option maxRecDepth 20000 in
theorem wsL_law0_r30_in : ∀ w ∈ wsL_law0_r30, w ∈ lw_tbl := zmem_pos _ [1262, 1263, 1264, 950, 951, 952, 953, 859, 860, 861, 862, 863, 864, 865, 1265, 1266, 1267, 1268, 1269, 1271, 76, 1272, 954, 955] (by decide +kernel)
set_option maxRecDepth 20000 in
theorem wsL_law0_r31_in : ∀ w ∈ wsL_law0_r31, w ∈ lw_tbl := zmem_pos _ [956, 957, 672, 673, 674, 780, 781, 782, 783, 784, 786, 26, 787, 789, 790, 792, 27, 793, 1273, 1274, 1275, 1276, 1277, 1279] (by decide +kernel)
set_option maxRecDepth 20000 in
theorem wsL_law0_r32_in : ∀ w ∈ wsL_law0_r32, w ∈ lw_tbl := zmem_pos _ [77, 1280, 1020, 1281, 1283, 78, 1284, 958, 959, 960, 961, 962, 963, 964, 1285, 1286, 1287, 1288, 965, 966, 967, 968, 969, 970] (by decide +kernel)
set_option maxRecDepth 20000 in
theorem wsL_law0_r33_in : ∀ w ∈ wsL_law0_r33, w ∈ lw_tbl := zmem_pos _ [971, 1289, 1290, 1291, 1292, 972, 973, 974, 975, 976, 977, 978, 979, 1293, 1294, 1295, 1296, 348, 349, 350, 351, 352, 353, 354] (by decide +kernel)
set_option maxRecDepth 20000 in
theorem wsL_law0_r34_in : ∀ w ∈ wsL_law0_r34, w ∈ lw_tbl := zmem_pos _ [355, 1297, 1298, 1299, 1300, 1301, 1303, 79, 1304, 372, 373, 374, 375, 376, 377, 378, 379, 1305, 1306, 1307, 1308, 1309, 1311, 80] (by decide +kernel)
set_option maxRecDepth 20000 in
theorem wsL_law0_r35_in : ∀ w ∈ wsL_law0_r35, w ∈ lw_tbl := zmem_pos _ [1312, 980, 981, 982, 983, 984, 985, 986, 987, 988, 989, 990, 495, 1313, 1314, 1315, 1316, 394, 395, 396, 397, 398, 399, 400] (by decide +kernel)
set_option maxRecDepth 20000 in
theorem wsL_law0_r36_in : ∀ w ∈ wsL_law0_r36, w ∈ lw_tbl := zmem_pos _ [401, 1317, 1318, 1319, 1320, 402, 403, 404, 405, 406, 407, 408, 409, 410, 412, 5, 413, 414, 416, 6, 417, 418, 419, 421] (by decide +kernel)
set_option maxRecDepth 20000 in
theorem wsL_law0_r37_in : ∀ w ∈ wsL_law0_r37, w ∈ lw_tbl := zmem_pos _ [7, 422, 423, 425, 8, 426, 427, 428, 429, 430, 432, 9, 433, 434, 435, 436, 443, 445, 10, 446, 447, 448, 449, 105] (by decide +kernel)
set_option maxRecDepth 20000 in
theorem wsL_law0_r38_in : ∀ w ∈ wsL_law0_r38, w ∈ lw_tbl := zmem_pos _ [450, 1367, 451, 452, 453, 454, 455, 1368, 457, 458, 459, 460, 461, 462, 463, 464, 465, 466, 106, 467, 468, 469, 470, 471] (by decide +kernel)
set_option maxRecDepth 20000 in
theorem wsL_law0_r39_in : ∀ w ∈ wsL_law0_r39, w ∈ lw_tbl := zmem_pos _ [473, 474, 107, 475, 476, 477, 108, 478, 479, 480, 481, 482, 483, 484, 485, 486, 487, 488, 489, 491, 493, 496, 497, 498] (by decide +kernel)
set_option maxRecDepth 20000 in
theorem wsL_law0_r40_in : ∀ w ∈ wsL_law0_r40, w ∈ lw_tbl := zmem_pos _ [499, 501, 11, 502, 503, 504, 505, 506, 508, 12, 509, 510, 511, 512, 513, 514, 515, 516, 517, 1321, 1322, 1323, 1324, 1021] (by decide +kernel)
set_option maxRecDepth 20000 in
theorem wsL_law0_r41_in : ∀ w ∈ wsL_law0_r41, w ∈ lw_tbl := zmem_pos _ [1023, 1325, 1327, 81, 1328, 1329, 1331, 82, 1332, 1333, 1335, 83, 1336, 1337, 1339, 84, 1340, 1341, 1343, 85, 1344, 1345, 1346, 1347] (by decide +kernel)
set_option maxRecDepth 20000 in
theorem wsL_law0_r42_in : ∀ w ∈ wsL_law0_r42, w ∈ lw_tbl := zmem_pos _ [1348, 1349, 1350, 1351, 1353, 86, 1354, 1355, 1357, 87, 1358, 991, 992, 993, 994, 995, 996, 997, 998, 999, 1000, 1001, 1062, 1063] (by decide +kernel)
set_option maxRecDepth 20000 in
theorem wsL_law0_r43_in : ∀ w ∈ wsL_law0_r43, w ∈ lw_tbl := zmem_pos _ [1064, 1065, 662, 663, 664, 665, 666, 667, 668, 669, 670, 671, 810, 812, 31, 813, 826, 828, 34, 829, 857, 858, 866, 867] (by decide +kernel)
set_option maxRecDepth 20000 in
theorem wsL_law0_r44_in : ∀ w ∈ wsL_law0_r44, w ∈ lw_tbl := zmem_pos _ [1359, 1360, 1361, 1362, 1363, 1364] (by decide +kernel)
set_option maxRecDepth 20000 in
theorem wsX60_lw : ∀ w ∈ wsX60, w ∈ lw_tbl := zmem_pos _ [277, 279, 281, 283] (by decide +kernel)
set_option maxRecDepth 20000 in
theorem wsX70_lw : ∀ w ∈ wsX70, w ∈ lw_tbl := zmem_pos _ [1024, 1026, 1028, 1030, 1032, 1034, 1036, 1038, 1040, 1042, 1044, 1046, 1048, 1050, 1052, 1054] (by decide +kernel)
set_option maxRecDepth 20000 in
theorem wsX40_lw : ∀ w ∈ wsX40, w ∈ lw_tbl := zmem_pos _ [158, 160, 162, 164, 166, 168, 170, 172, 174, 176, 178, 180, 182, 184, 186, 188, 190, 192] (by decide +kernel)
set_option maxRecDepth 20000 in
theorem wsX50_lw : ∀ w ∈ wsX50, w ∈ lw_tbl := zmem_pos _ [208, 210, 212] (by decide +kernel)
set_option maxRecDepth 20000 in
theorem wsX00_lw : ∀ w ∈ wsX00, w ∈ lw_tbl := zmem_pos _ [232, 234, 236, 238, 240, 242] (by decide +kernel)
set_option maxRecDepth 20000 in
theorem wsX20_lw : ∀ w ∈ wsX20, w ∈ lw_tbl := zmem_pos _ [262, 264, 266, 268, 270] (by decide +kernel)
set_option maxRecDepth 20000 in
theorem wsX30_lw : ∀ w ∈ wsX30, w ∈ lw_tbl := zmem_pos _ [130] (by decide +kernel)
