/-! the law's words: what its calls need -/
set_option maxRecDepth 20000 in
theorem ggL_law_X7_row : GoodIn wsL_law wsX7_row := goodIn_r _ [107, 15, 38, 108, 109, 110, 14, 111, 46, 112, 113, 114, 37, 115, 84, 83, 116, 117, 118, 119, 47, 44, 120, 121, 50, 122, 123, 124, 125, 1071, 1072, 1073, 1074, 1075, 1076, 1077, 1078, 1079, 1080, 1098, 1099, 1100, 1117, 1118] (by decide +kernel) (by decide +kernel)
set_option maxRecDepth 20000 in
theorem gL_law_X7_row : GoodIn wsL_law (wsV RL 13 RX7 yX7_row wsX7_row) := goodIn_app (goodIn_of _ (by decide +kernel)) ggL_law_X7_row
set_option maxRecDepth 20000 in
theorem ggL_law_X8_row : GoodIn wsL_law wsX8_row := goodIn_r _ [129, 89, 90, 130, 131, 5, 132, 133, 134, 135, 136, 137, 138, 139, 140, 141, 98, 1081, 1082, 1083, 1084, 1085, 1086, 1087, 1088, 1089, 1090, 1091, 1092, 1093, 1094, 1095, 1096, 1097] (by decide +kernel) (by decide +kernel)
set_option maxRecDepth 20000 in
theorem gL_law_X8_row : GoodIn wsL_law (wsV RL 17 RX8 yX8_row wsX8_row) := goodIn_app (goodIn_of _ (by decide +kernel)) ggL_law_X8_row
set_option maxRecDepth 20000 in
theorem ggL_law_X7_lay : GoodIn wsL_law wsX7_lay := goodIn_r _ [145, 15, 39, 146, 147, 148, 2, 149, 38, 150, 151, 152, 153, 108, 109, 110, 14, 111, 46, 154, 155, 156, 157, 112, 113, 114, 37, 115, 84, 83, 158, 159, 160, 161, 162, 163, 164, 165, 47, 44, 166, 167, 168, 169, 1071, 1072, 1073, 1074, 1075, 1076, 1077, 1078, 1079, 1080, 1098, 1099, 1100, 1117, 1118] (by decide +kernel) (by decide +kernel)
set_option maxRecDepth 20000 in
theorem gL_law_X7_lay : GoodIn wsL_law (wsV RL 18 RX7 yX7_lay wsX7_lay) := goodIn_app (goodIn_of _ (by decide +kernel)) ggL_law_X7_lay
set_option maxRecDepth 20000 in
theorem ggL_law_X8_lay : GoodIn wsL_law wsX8_lay := goodIn_r _ [173, 89, 90, 130, 131, 5, 132, 133, 134, 135, 136, 137, 138, 139, 140, 141, 98, 174, 175, 176, 177, 178, 1081, 1082, 1083, 1084, 1085, 1086, 1087, 1088, 1089, 1090, 1091, 1092, 1093, 1094, 1095, 1096, 1097] (by decide +kernel) (by decide +kernel)
set_option maxRecDepth 20000 in
theorem gL_law_X8_lay : GoodIn wsL_law (wsV RL 22 RX8 yX8_lay wsX8_lay) := goodIn_app (goodIn_of _ (by decide +kernel)) ggL_law_X8_lay
set_option maxRecDepth 20000 in
theorem ggL_law_X7_at : GoodIn wsL_law wsX7_at := goodIn_r _ [182, 15, 39, 146, 147, 148, 2, 149, 38, 150, 151, 152, 153, 108, 109, 110, 14, 111, 46, 154, 155, 156, 157, 112, 113, 114, 37, 115, 84, 83, 158, 159, 160, 161, 162, 163, 164, 165, 47, 44, 1071, 1072, 1073, 1074, 1075, 1076, 1077, 1078, 1079, 1080, 1098, 1099, 1100, 1117, 1118] (by decide +kernel) (by decide +kernel)
set_option maxRecDepth 20000 in
theorem gL_law_X7_at : GoodIn wsL_law (wsV RL 23 RX7 yX7_at wsX7_at) := goodIn_app (goodIn_of _ (by decide +kernel)) ggL_law_X7_at
set_option maxRecDepth 20000 in
theorem ggL_law_X8_at : GoodIn wsL_law wsX8_at := goodIn_r _ [186, 89, 90, 130, 131, 5, 132, 133, 134, 135, 136, 137, 138, 139, 140, 141, 98, 174, 175, 176, 177, 178, 1081, 1082, 1083, 1084, 1085, 1086, 1087, 1088, 1089, 1090, 1091, 1092, 1093, 1094, 1095, 1096, 1097] (by decide +kernel) (by decide +kernel)
set_option maxRecDepth 20000 in
theorem gL_law_X8_at : GoodIn wsL_law (wsV RL 26 RX8 yX8_at wsX8_at) := goodIn_app (goodIn_of _ (by decide +kernel)) ggL_law_X8_at
set_option maxRecDepth 20000 in
theorem ggL_law_X7_tear : GoodIn wsL_law wsX7_tear := goodIn_r _ [190, 15, 150, 151, 152, 2, 153, 38, 108, 109, 110, 14, 111, 46, 154, 155, 156, 157, 112, 113, 114, 37, 115, 84, 83, 191, 192, 193, 194, 1071, 1072, 1073, 1074, 1075, 1076, 1077, 1078, 1079, 1080, 1098, 1099, 1100, 1117, 1118] (by decide +kernel) (by decide +kernel)
set_option maxRecDepth 20000 in
theorem gL_law_X7_tear : GoodIn wsL_law (wsV RL 27 RX7 yX7_tear wsX7_tear) := goodIn_app (goodIn_of _ (by decide +kernel)) ggL_law_X7_tear
set_option maxRecDepth 20000 in
theorem ggL_law_X8_tear : GoodIn wsL_law wsX8_tear := goodIn_r _ [198, 89, 130, 131, 5, 132, 133, 134, 135, 136, 137, 138, 139, 140, 141, 98, 1081, 1082, 1083, 1084, 1085, 1086, 1087, 1088, 1089, 1090, 1091, 1092, 1093, 1094, 1095, 1096, 1097] (by decide +kernel) (by decide +kernel)
set_option maxRecDepth 20000 in
theorem gL_law_X8_tear : GoodIn wsL_law (wsV RL 31 RX8 yX8_tear wsX8_tear) := goodIn_app (goodIn_of _ (by decide +kernel)) ggL_law_X8_tear
set_option maxRecDepth 20000 in
theorem ggL_law_X7_copy : GoodIn wsL_law wsX7_copy := goodIn_r _ [202, 15, 38, 108, 109, 110, 14, 111, 46, 112, 113, 114, 37, 115, 84, 83, 154, 155, 156, 157, 203, 204, 205, 206, 207, 208, 209, 210, 47, 44, 211, 212, 213, 214, 1071, 1072, 1073, 1074, 1075, 1076, 1077, 1078, 1079, 1080, 1098, 1099, 1100, 1117, 1118] (by decide +kernel) (by decide +kernel)
set_option maxRecDepth 20000 in
theorem gL_law_X7_copy : GoodIn wsL_law (wsV RL 32 RX7 yX7_copy wsX7_copy) := goodIn_app (goodIn_of _ (by decide +kernel)) ggL_law_X7_copy
set_option maxRecDepth 20000 in
theorem ggL_law_X8_copy : GoodIn wsL_law wsX8_copy := goodIn_r _ [218, 89, 90, 130, 131, 5, 132, 133, 134, 135, 136, 137, 138, 139, 140, 141, 98, 1081, 1082, 1083, 1084, 1085, 1086, 1087, 1088, 1089, 1090, 1091, 1092, 1093, 1094, 1095, 1096, 1097] (by decide +kernel) (by decide +kernel)
set_option maxRecDepth 20000 in
theorem gL_law_X8_copy : GoodIn wsL_law (wsV RL 36 RX8 yX8_copy wsX8_copy) := goodIn_app (goodIn_of _ (by decide +kernel)) ggL_law_X8_copy
set_option maxRecDepth 20000 in
theorem ggL_law_X7_mean : GoodIn wsL_law wsX7_mean := goodIn_r _ [222, 15, 38, 39, 150, 151, 152, 2, 153, 108, 109, 110, 14, 111, 46, 154, 155, 156, 157, 112, 113, 114, 37, 115, 84, 83, 223, 224, 225, 226, 227, 228, 229, 230, 231, 163, 164, 165, 47, 44, 1071, 1072, 1073, 1074, 1075, 1076, 1077, 1078, 1079, 1080, 1098, 1099, 1100, 1117, 1118] (by decide +kernel) (by decide +kernel)
set_option maxRecDepth 20000 in
theorem gL_law_X7_mean : GoodIn wsL_law (wsV RL 37 RX7 yX7_mean wsX7_mean) := goodIn_app (goodIn_of _ (by decide +kernel)) ggL_law_X7_mean
set_option maxRecDepth 20000 in
theorem ggL_law_X8_mean : GoodIn wsL_law wsX8_mean := goodIn_r _ [235, 89, 90, 130, 131, 5, 132, 133, 134, 135, 136, 137, 138, 139, 140, 141, 98, 174, 175, 176, 177, 178, 1081, 1082, 1083, 1084, 1085, 1086, 1087, 1088, 1089, 1090, 1091, 1092, 1093, 1094, 1095, 1096, 1097] (by decide +kernel) (by decide +kernel)
set_option maxRecDepth 20000 in
theorem gL_law_X8_mean : GoodIn wsL_law (wsV RL 40 RX8 yX8_mean wsX8_mean) := goodIn_app (goodIn_of _ (by decide +kernel)) ggL_law_X8_mean
set_option maxRecDepth 20000 in
theorem ggL_law_X7_text : GoodIn wsL_law wsX7_text := goodIn_r _ [239, 16, 38, 108, 109, 110, 14, 111, 46, 112, 113, 114, 37, 115, 84, 83, 116, 117, 118, 119, 47, 44, 120, 121, 50, 122, 123, 124, 125, 1071, 1072, 1073, 1074, 1075, 1076, 1077, 1078, 1079, 1080, 1098, 1099, 1100, 1117, 1118] (by decide +kernel) (by decide +kernel)
set_option maxRecDepth 20000 in
theorem gL_law_X7_text : GoodIn wsL_law (wsV RL 41 RX7 yX7_text wsX7_text) := goodIn_app (goodIn_of _ (by decide +kernel)) ggL_law_X7_text
set_option maxRecDepth 20000 in
theorem ggL_law_X8_text : GoodIn wsL_law wsX8_text := goodIn_r _ [243, 91, 92, 244, 245, 5, 246, 247, 134, 135, 136, 137, 138, 139, 140, 141, 98, 1081, 1082, 1083, 1084, 1085, 1086, 1087, 1088, 1089, 1090, 1091, 1092, 1093, 1094, 1095, 1096, 1097] (by decide +kernel) (by decide +kernel)
set_option maxRecDepth 20000 in
theorem gL_law_X8_text : GoodIn wsL_law (wsV RL 44 RX8 yX8_text wsX8_text) := goodIn_app (goodIn_of _ (by decide +kernel)) ggL_law_X8_text
