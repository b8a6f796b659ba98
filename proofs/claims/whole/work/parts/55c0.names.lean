/-! the law's words: what its calls need -/
set_option maxRecDepth 20000 in
theorem ggL_law_X7_undo : GoodIn wsL_law wsX7_undo := goodIn_r _ [612, 20, 613, 614, 615, 19, 616, 64, 617, 618, 619, 620, 61, 62, 63, 342, 2, 343, 1071, 1072, 1073, 1074, 1075, 1076, 1077, 1078, 1079, 1080, 1101, 1102, 1103, 1104, 1105, 1106, 1107, 1108, 1109, 1110] (by decide +kernel) (by decide +kernel)
set_option maxRecDepth 20000 in
theorem gL_law_X7_undo : GoodIn wsL_law (wsV RL 74 RX7 yX7_undo wsX7_undo) := goodIn_app (goodIn_of _ (by decide +kernel)) ggL_law_X7_undo
set_option maxRecDepth 20000 in
theorem ggL_law_X8_undo : GoodIn wsL_law wsX8_undo := goodIn_r _ [624, 93, 134, 135, 5, 136, 1081, 1082, 1083, 1084, 1085, 1086, 1087, 1088, 1089, 1090, 1091, 1092, 1093, 1094, 1095, 1096, 1097] (by decide +kernel) (by decide +kernel)
set_option maxRecDepth 20000 in
theorem gL_law_X8_undo : GoodIn wsL_law (wsV RL 77 RX8 yX8_undo wsX8_undo) := goodIn_app (goodIn_of _ (by decide +kernel)) ggL_law_X8_undo
set_option maxRecDepth 20000 in
theorem ggL_law_X7_said : GoodIn wsL_law wsX7_said := goodIn_r _ [628, 20, 39, 506, 507, 508, 19, 509, 63, 629, 630, 631, 632, 62, 633, 585, 586, 587, 401, 2, 402, 588, 589, 590, 591, 55, 592, 503, 504, 505, 60, 342, 343, 1071, 1072, 1073, 1074, 1075, 1076, 1077, 1078, 1079, 1080, 1101, 1102, 1103, 1104, 1105, 1106, 1107, 1108, 1109, 1110] (by decide +kernel) (by decide +kernel)
set_option maxRecDepth 20000 in
theorem gL_law_X7_said : GoodIn wsL_law (wsV RL 78 RX7 yX7_said wsX7_said) := goodIn_app (goodIn_of _ (by decide +kernel)) ggL_law_X7_said
set_option maxRecDepth 20000 in
theorem ggL_law_X8_said : GoodIn wsL_law wsX8_said := goodIn_r _ [637, 93, 638, 639, 640, 5, 641, 601, 602, 603, 604, 451, 452, 453, 540, 541, 542, 543, 642, 643, 644, 645, 178, 1081, 1082, 1083, 1084, 1085, 1086, 1087, 1088, 1089, 1090, 1091, 1092, 1093, 1094, 1095, 1096, 1097] (by decide +kernel) (by decide +kernel)
set_option maxRecDepth 20000 in
theorem gL_law_X8_said : GoodIn wsL_law (wsV RL 82 RX8 yX8_said wsX8_said) := goodIn_app (goodIn_of _ (by decide +kernel)) ggL_law_X8_said
set_option maxRecDepth 20000 in
theorem ggL_law_X7_leans : GoodIn wsL_law wsX7_leans := goodIn_r _ [666, 20, 392, 334, 335, 19, 336, 62, 667, 519, 520, 521, 60, 522, 342, 2, 343, 1071, 1072, 1073, 1074, 1075, 1076, 1077, 1078, 1079, 1080, 1101, 1102, 1103, 1104, 1105, 1106, 1107, 1108, 1109, 1110] (by decide +kernel) (by decide +kernel)
set_option maxRecDepth 20000 in
theorem gL_law_X7_leans : GoodIn wsL_law (wsV RL 91 RX7 yX7_leans wsX7_leans) := goodIn_app (goodIn_of _ (by decide +kernel)) ggL_law_X7_leans
set_option maxRecDepth 20000 in
theorem ggL_law_X8_leans : GoodIn wsL_law wsX8_leans := goodIn_r _ [671, 435, 436, 437, 5, 438, 93, 134, 135, 136, 672, 673, 674, 675, 1081, 1082, 1083, 1084, 1085, 1086, 1087, 1088, 1089, 1090, 1091, 1092, 1093, 1094, 1095, 1096, 1097] (by decide +kernel) (by decide +kernel)
set_option maxRecDepth 20000 in
theorem gL_law_X8_leans : GoodIn wsL_law (wsV RL 94 RX8 yX8_leans wsX8_leans) := goodIn_app (goodIn_of _ (by decide +kernel)) ggL_law_X8_leans
set_option maxRecDepth 20000 in
theorem ggL_law_X7_feeds : GoodIn wsL_law wsX7_feeds := goodIn_r _ [679, 20, 392, 334, 335, 19, 336, 62, 680, 681, 682, 683, 518, 519, 520, 521, 60, 522, 342, 2, 343, 401, 402, 1071, 1072, 1073, 1074, 1075, 1076, 1077, 1078, 1079, 1080, 1101, 1102, 1103, 1104, 1105, 1106, 1107, 1108, 1109, 1110] (by decide +kernel) (by decide +kernel)
set_option maxRecDepth 20000 in
theorem gL_law_X7_feeds : GoodIn wsL_law (wsV RL 95 RX7 yX7_feeds wsX7_feeds) := goodIn_app (goodIn_of _ (by decide +kernel)) ggL_law_X7_feeds
set_option maxRecDepth 20000 in
theorem ggL_law_X8_feeds : GoodIn wsL_law wsX8_feeds := goodIn_r _ [687, 93, 435, 436, 437, 5, 438, 134, 135, 136, 672, 673, 674, 675, 451, 452, 453, 1081, 1082, 1083, 1084, 1085, 1086, 1087, 1088, 1089, 1090, 1091, 1092, 1093, 1094, 1095, 1096, 1097] (by decide +kernel) (by decide +kernel)
set_option maxRecDepth 20000 in
theorem gL_law_X8_feeds : GoodIn wsL_law (wsV RL 98 RX8 yX8_feeds wsX8_feeds) := goodIn_app (goodIn_of _ (by decide +kernel)) ggL_law_X8_feeds
set_option maxRecDepth 20000 in
theorem ggL_law_X7_first : GoodIn wsL_law wsX7_first := goodIn_r _ [691, 20, 39, 392, 334, 335, 19, 336, 62, 667, 519, 520, 521, 60, 522, 342, 2, 343, 471, 420, 421, 422, 423, 424, 425, 692, 515, 516, 517, 518, 523, 524, 525, 401, 402, 1071, 1072, 1073, 1074, 1075, 1076, 1077, 1078, 1079, 1080, 1101, 1102, 1103, 1104, 1105, 1106, 1107, 1108, 1109, 1110] (by decide +kernel) (by decide +kernel)
set_option maxRecDepth 20000 in
theorem gL_law_X7_first : GoodIn wsL_law (wsV RL 99 RX7 yX7_first wsX7_first) := goodIn_app (goodIn_of _ (by decide +kernel)) ggL_law_X7_first
set_option maxRecDepth 20000 in
theorem ggL_law_X8_first : GoodIn wsL_law wsX8_first := goodIn_r _ [696, 435, 436, 437, 5, 438, 93, 134, 135, 136, 544, 545, 546, 547, 672, 673, 674, 675, 537, 538, 539, 642, 643, 644, 645, 178, 1081, 1082, 1083, 1084, 1085, 1086, 1087, 1088, 1089, 1090, 1091, 1092, 1093, 1094, 1095, 1096, 1097] (by decide +kernel) (by decide +kernel)
set_option maxRecDepth 20000 in
theorem gL_law_X8_first : GoodIn wsL_law (wsV RL 102 RX8 yX8_first wsX8_first) := goodIn_app (goodIn_of _ (by decide +kernel)) ggL_law_X8_first
set_option maxRecDepth 20000 in
theorem ggL_law_X7_bundles : GoodIn wsL_law wsX7_bundles := goodIn_r _ [700, 20, 39, 701, 702, 703, 19, 704, 62, 397, 398, 399, 400, 63, 401, 2, 402, 514, 515, 516, 517, 518, 519, 520, 521, 60, 522, 334, 335, 336, 342, 343, 523, 524, 525, 471, 420, 421, 422, 423, 424, 425, 1071, 1072, 1073, 1074, 1075, 1076, 1077, 1078, 1079, 1080, 1101, 1102, 1103, 1104, 1105, 1106, 1107, 1108, 1109, 1110] (by decide +kernel) (by decide +kernel)
set_option maxRecDepth 20000 in
theorem gL_law_X7_bundles : GoodIn wsL_law (wsV RL 103 RX7 yX7_bundles wsX7_bundles) := goodIn_app (goodIn_of _ (by decide +kernel)) ggL_law_X7_bundles
set_option maxRecDepth 20000 in
theorem ggL_law_X8_bundles : GoodIn wsL_law wsX8_bundles := goodIn_r _ [708, 93, 451, 452, 5, 453, 544, 545, 546, 547, 537, 538, 539, 642, 643, 644, 645, 178, 1081, 1082, 1083, 1084, 1085, 1086, 1087, 1088, 1089, 1090, 1091, 1092, 1093, 1094, 1095, 1096, 1097] (by decide +kernel) (by decide +kernel)
set_option maxRecDepth 20000 in
theorem gL_law_X8_bundles : GoodIn wsL_law (wsV RL 106 RX8 yX8_bundles wsX8_bundles) := goodIn_app (goodIn_of _ (by decide +kernel)) ggL_law_X8_bundles
set_option maxRecDepth 20000 in
theorem ggL_law_X7_longest : GoodIn wsL_law wsX7_longest := goodIn_r _ [712, 15, 20, 108, 109, 110, 14, 111, 46, 713, 714, 715, 19, 716, 62, 518, 519, 520, 521, 60, 522, 334, 335, 336, 342, 2, 343, 419, 420, 421, 422, 423, 424, 425, 116, 117, 118, 119, 47, 44, 120, 121, 50, 122, 123, 124, 125, 667, 470, 471, 717, 523, 524, 525, 401, 402, 166, 167, 168, 169, 1071, 1072, 1073, 1074, 1075, 1076, 1077, 1078, 1079, 1080, 1098, 1099, 1100, 1101, 1102, 1103, 1104, 1105, 1106, 1107, 1108, 1109, 1110] (by decide +kernel) (by decide +kernel)
set_option maxRecDepth 20000 in
theorem gL_law_X7_longest : GoodIn wsL_law (wsV RL 107 RX7 yX7_longest wsX7_longest) := goodIn_app (goodIn_of _ (by decide +kernel)) ggL_law_X7_longest
set_option maxRecDepth 20000 in
theorem ggL_law_X8_longest : GoodIn wsL_law wsX8_longest := goodIn_r _ [721, 93, 90, 130, 131, 5, 132, 133, 134, 135, 136, 672, 673, 674, 675, 537, 538, 539, 722, 127, 128, 129, 89, 137, 138, 139, 140, 141, 98, 1081, 1082, 1083, 1084, 1085, 1086, 1087, 1088, 1089, 1090, 1091, 1092, 1093, 1094, 1095, 1096, 1097] (by decide +kernel) (by decide +kernel)
set_option maxRecDepth 20000 in
theorem gL_law_X8_longest : GoodIn wsL_law (wsV RL 110 RX8 yX8_longest wsX8_longest) := goodIn_app (goodIn_of _ (by decide +kernel)) ggL_law_X8_longest
