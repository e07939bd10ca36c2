set_option maxRecDepth 20000 in
theorem ggL_law_X7_runCommands_p0 : GoodIn wsL_law (.code yX7_runCommands cX7_runCommands 2 (some .int) :: wsX7_runCommands_r1) := goodIn_r _ [958, 178, 959, 960, 961, 962, 963, 5, 964, 746, 965, 966, 967, 968, 969, 970, 971, 972, 100, 973, 974, 975, 976, 101, 977] (by decide +kernel) (by decide +kernel)
set_option maxRecDepth 20000 in
theorem ggL_law_X7_runCommands_p1 : GoodIn wsL_law wsX7_runCommands_r2 := goodIn_r _ [978, 979, 980, 182, 183, 184, 981, 982, 983, 984, 985, 986, 987, 988, 989, 990, 185, 186, 187, 188, 189, 97, 96, 991] (by decide +kernel) (by decide +kernel)
set_option maxRecDepth 20000 in
theorem ggL_law_X7_runCommands_p2 : GoodIn wsL_law wsX7_runCommands_r3 := goodIn_r _ [992, 993, 994, 179, 180, 181, 190, 191, 192, 193, 194, 195, 196, 197, 198, 199, 200, 201, 202, 203, 204, 205, 352, 353] (by decide +kernel) (by decide +kernel)
set_option maxRecDepth 20000 in
theorem ggL_law_X7_runCommands_p3 : GoodIn wsL_law wsX7_runCommands_r4 := goodIn_r _ [354, 355, 356, 357, 427, 428, 429, 430, 351, 358, 359, 360, 361, 362, 363, 364, 365, 366, 367, 368, 369, 370, 371, 372] (by decide +kernel) (by decide +kernel)
set_option maxRecDepth 20000 in
theorem ggL_law_X7_runCommands_p4 : GoodIn wsL_law wsX7_runCommands_r5 := goodIn_r _ [373, 374, 375, 376, 377, 378, 379, 380, 381, 382, 99, 383, 384, 385, 386, 387, 388, 389, 390, 391, 392, 393, 394, 395] (by decide +kernel) (by decide +kernel)
set_option maxRecDepth 20000 in
theorem ggL_law_X7_runCommands_p5 : GoodIn wsL_law wsX7_runCommands_r6 := goodIn_r _ [396, 397, 398, 399, 400, 401, 402, 403, 404, 405, 406, 407, 408, 409, 410, 411, 412, 413, 414, 415, 416, 417, 418, 419] (by decide +kernel) (by decide +kernel)
set_option maxRecDepth 20000 in
theorem ggL_law_X7_runCommands_p6 : GoodIn wsL_law wsX7_runCommands_r7 := goodIn_r _ [420, 421, 422, 423, 424, 425, 426, 431, 432, 433, 434, 435, 436, 437, 438, 439, 440, 441, 442, 502, 503, 504, 505, 523] (by decide +kernel) (by decide +kernel)
set_option maxRecDepth 20000 in
theorem ggL_law_X7_runCommands_p7 : GoodIn wsL_law wsX7_runCommands_r8 := goodIn_r _ [524, 525, 526] (by decide +kernel) (by decide +kernel)
set_option maxRecDepth 20000 in
theorem ggL_law_X7_runCommands_t0 : GoodIn wsL_law wsX70 := goodIn_r _ [1042, 1043, 1044, 1045, 1046, 1047, 1048, 1049, 1050, 1051, 1052, 1053, 1054, 1055, 1056, 1057] (by decide +kernel) (by decide +kernel)
theorem ggL_law_X7_runCommands : GoodIn wsL_law wsX7_runCommands := (goodIn_ca (goodIn_ca ggL_law_X7_runCommands_p0 (goodIn_app ggL_law_X7_runCommands_p1 (goodIn_app ggL_law_X7_runCommands_p2 (goodIn_app ggL_law_X7_runCommands_p3 (goodIn_app ggL_law_X7_runCommands_p4 (goodIn_app ggL_law_X7_runCommands_p5 (goodIn_app ggL_law_X7_runCommands_p6 ggL_law_X7_runCommands_p7))))))) ggL_law_X7_runCommands_t0)
set_option maxRecDepth 20000 in
theorem gL_law_X7_runCommands : GoodIn wsL_law (wsV RL 150 RX7 yX7_runCommands wsX7_runCommands) := goodIn_app (goodIn_of _ (by decide +kernel)) ggL_law_X7_runCommands
theorem last_26d3 : True := trivial
