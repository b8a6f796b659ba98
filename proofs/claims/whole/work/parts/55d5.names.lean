/-! the law's words: what its calls need -/
set_option maxRecDepth 20000 in
theorem ggL_law_X7_keep : GoodIn wsL_law wsX7_keep := goodIn_r _ [649, 20, 22, 17, 18, 19, 377, 378, 379, 380, 62, 52, 53, 54, 10, 11, 45, 55, 56, 57, 58, 59, 60, 61, 63, 64, 372, 373, 374, 375, 376, 212, 213, 214, 613, 614, 615, 616, 1071, 1072, 1073, 1074, 1075, 1076, 1077, 1078, 1079, 1080, 1101, 1102, 1103, 1104, 1105, 1106, 1107, 1108, 1109, 1110] (by decide +kernel) (by decide +kernel)
set_option maxRecDepth 20000 in
theorem gL_law_X7_keep : GoodIn wsL_law (wsV RL 83 RX7 yX7_keep wsX7_keep) := goodIn_app (goodIn_of _ (by decide +kernel)) ggL_law_X7_keep
set_option maxRecDepth 20000 in
theorem ggL_law_X8_keep : GoodIn wsL_law wsX8_keep := goodIn_r _ [653, 654, 93, 94, 96, 134, 135, 5, 136, 385, 386, 387, 1081, 1082, 1083, 1084, 1085, 1086, 1087, 1088, 1089, 1090, 1091, 1092, 1093, 1094, 1095, 1096, 1097] (by decide +kernel) (by decide +kernel)
set_option maxRecDepth 20000 in
theorem gL_law_X8_keep : GoodIn wsL_law (wsV RL 86 RX8 yX8_keep wsX8_keep) := goodIn_app (goodIn_of _ (by decide +kernel)) ggL_law_X8_keep
set_option maxRecDepth 20000 in
theorem ggL_law_X7_on : GoodIn wsL_law wsX7_on := goodIn_r _ [658, 22, 38, 20, 112, 113, 114, 37, 115, 84, 83, 372, 373, 374, 19, 375, 55, 376, 212, 213, 214, 56, 57, 58, 59, 60, 61, 62, 63, 64, 613, 614, 615, 616, 1071, 1072, 1073, 1074, 1075, 1076, 1077, 1078, 1079, 1080, 1117, 1118, 1101, 1102, 1103, 1104, 1105, 1106, 1107, 1108, 1109, 1110] (by decide +kernel) (by decide +kernel)
set_option maxRecDepth 20000 in
theorem gL_law_X7_on : GoodIn wsL_law (wsV RL 87 RX7 yX7_on wsX7_on) := goodIn_app (goodIn_of _ (by decide +kernel)) ggL_law_X7_on
set_option maxRecDepth 20000 in
theorem ggL_law_X8_on : GoodIn wsL_law wsX8_on := goodIn_r _ [662, 654, 96, 94, 93, 134, 135, 5, 136, 137, 138, 139, 140, 141, 98, 385, 386, 387, 1081, 1082, 1083, 1084, 1085, 1086, 1087, 1088, 1089, 1090, 1091, 1092, 1093, 1094, 1095, 1096, 1097] (by decide +kernel) (by decide +kernel)
set_option maxRecDepth 20000 in
theorem gL_law_X8_on : GoodIn wsL_law (wsV RL 90 RX8 yX8_on wsX8_on) := goodIn_app (goodIn_of _ (by decide +kernel)) ggL_law_X8_on
