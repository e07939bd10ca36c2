set_option maxRecDepth 20000 in
theorem ggL_law_X7_digest_p0 : GoodIn wsL_law (.code yX7_digest cX7_digest 5 (some .long) :: wsX7_digest_r1) := goodIn_r _ [1035, 178, 1036, 189, 1037, 96, 742, 743, 744, 5, 745, 746, 747, 748, 749, 750, 629, 630, 631, 632, 198, 199, 200, 201, 435] (by decide +kernel) (by decide +kernel)
set_option maxRecDepth 20000 in
theorem ggL_law_X7_digest_p1 : GoodIn wsL_law wsX7_digest_r2 := goodIn_r _ [436, 437, 438, 383, 384, 385, 386, 375, 376, 377, 378, 399, 400, 401, 402, 371, 372, 373, 374, 479, 480, 481, 482, 415] (by decide +kernel) (by decide +kernel)
set_option maxRecDepth 20000 in
theorem ggL_law_X7_digest_p2 : GoodIn wsL_law wsX7_digest_r3 := goodIn_r _ [416, 417, 418, 194, 195, 196, 197, 588, 589, 590, 591, 561, 562, 563, 564, 182, 183, 184, 557, 558, 559, 560, 663, 664] (by decide +kernel) (by decide +kernel)
set_option maxRecDepth 20000 in
theorem ggL_law_X7_digest_p3 : GoodIn wsL_law wsX7_digest_r4 := goodIn_r _ [665, 666, 419, 420, 421, 422, 387, 388, 389, 390, 667, 668, 669, 670, 379, 380, 381, 382, 99, 391, 392, 393, 394, 407] (by decide +kernel) (by decide +kernel)
set_option maxRecDepth 20000 in
theorem ggL_law_X7_digest_p4 : GoodIn wsL_law wsX7_digest_r5 := goodIn_r _ [408, 409, 410, 411, 412, 413, 414, 714, 715, 716, 717, 696, 697, 698, 797, 798, 799, 800, 813, 814, 815, 816] (by decide +kernel) (by decide +kernel)
set_option maxRecDepth 20000 in
theorem ggL_law_X7_digest_t0 : GoodIn wsL_law wsX70 := goodIn_r _ [1042, 1043, 1044, 1045, 1046, 1047, 1048, 1049, 1050, 1051, 1052, 1053, 1054, 1055, 1056, 1057] (by decide +kernel) (by decide +kernel)
theorem ggL_law_X7_digest : GoodIn wsL_law wsX7_digest := (goodIn_ca (goodIn_ca ggL_law_X7_digest_p0 (goodIn_app ggL_law_X7_digest_p1 (goodIn_app ggL_law_X7_digest_p2 (goodIn_app ggL_law_X7_digest_p3 ggL_law_X7_digest_p4)))) ggL_law_X7_digest_t0)
set_option maxRecDepth 20000 in
theorem gL_law_X7_digest : GoodIn wsL_law (wsV RL 158 RX7 yX7_digest wsX7_digest) := goodIn_app (goodIn_of _ (by decide +kernel)) ggL_law_X7_digest
theorem last_26d6 : True := trivial
