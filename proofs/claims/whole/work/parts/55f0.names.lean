/-! the law's words: what its calls need -/
set_option maxRecDepth 20000 in
theorem ggL_law_X7_lower : GoodIn wsL_law wsX7_lower := goodIn_r _ [989, 34, 990, 991, 992, 33, 993, 79, 1071, 1072, 1073, 1074, 1075, 1076, 1077, 1078, 1079, 1080, 1115, 1116] (by decide +kernel) (by decide +kernel)
set_option maxRecDepth 20000 in
theorem gL_law_X7_lower : GoodIn wsL_law (wsV RL 168 RX7 yX7_lower wsX7_lower) := goodIn_app (goodIn_of _ (by decide +kernel)) ggL_law_X7_lower
set_option maxRecDepth 20000 in
theorem ggL_law_X8_lower : GoodIn wsL_law wsX8_lower := goodIn_r _ [997, 97, 1081, 1082, 1083, 1084, 1085, 1086, 1087, 1088, 1089, 1090, 1091, 1092, 1093, 1094, 1095, 1096, 1097] (by decide +kernel) (by decide +kernel)
set_option maxRecDepth 20000 in
theorem gL_law_X8_lower : GoodIn wsL_law (wsV RL 171 RX8 yX8_lower wsX8_lower) := goodIn_app (goodIn_of _ (by decide +kernel)) ggL_law_X8_lower
set_option maxRecDepth 20000 in
theorem ggL_law_X7_count : GoodIn wsL_law wsX7_count := goodIn_r _ [1001, 20, 15, 16, 377, 378, 379, 19, 380, 62, 506, 507, 508, 509, 63, 471, 420, 421, 422, 423, 424, 425, 613, 614, 615, 616, 64, 927, 928, 929, 930, 401, 2, 402, 407, 408, 409, 410, 411, 412, 413, 414, 56, 57, 415, 416, 417, 418, 342, 343, 419, 426, 427, 428, 429, 55, 58, 59, 1002, 1003, 1004, 1005, 907, 908, 909, 910, 60, 522, 334, 335, 336, 1006, 1007, 1008, 1009, 1010, 463, 464, 465, 1011, 1012, 1013, 14, 1014, 46, 1015, 155, 156, 157, 1016, 1017, 1018, 1019, 22, 1071, 1072, 1073, 1074, 1075, 1076, 1077, 1078, 1079, 1080, 1101, 1102, 1103, 1104, 1105, 1106, 1107, 1108, 1109, 1110, 1098, 1099, 1100] (by decide +kernel) (by decide +kernel)
set_option maxRecDepth 20000 in
theorem gL_law_X7_count : GoodIn wsL_law (wsV RL 172 RX7 yX7_count wsX7_count) := goodIn_app (goodIn_of _ (by decide +kernel)) ggL_law_X7_count
set_option maxRecDepth 20000 in
theorem ggL_law_X8_count : GoodIn wsL_law wsX8_count := goodIn_r _ [1023, 1024, 134, 135, 5, 136, 1025, 1026, 1027, 1028, 93, 89, 91, 96, 530, 531, 532, 537, 538, 539, 935, 936, 937, 938, 451, 452, 453, 544, 545, 546, 547, 443, 444, 445, 446, 447, 448, 449, 450, 454, 455, 456, 457, 1081, 1082, 1083, 1084, 1085, 1086, 1087, 1088, 1089, 1090, 1091, 1092, 1093, 1094, 1095, 1096, 1097] (by decide +kernel) (by decide +kernel)
set_option maxRecDepth 20000 in
theorem gL_law_X8_count : GoodIn wsL_law (wsV RL 175 RX8 yX8_count wsX8_count) := goodIn_app (goodIn_of _ (by decide +kernel)) ggL_law_X8_count
set_option maxRecDepth 20000 in
theorem ggL_law_X7_finding : GoodIn wsL_law wsX7_finding := goodIn_r _ [1032, 38, 1033, 1034, 1035, 37, 1036, 84, 1071, 1072, 1073, 1074, 1075, 1076, 1077, 1078, 1079, 1080, 1117, 1118] (by decide +kernel) (by decide +kernel)
set_option maxRecDepth 20000 in
theorem gL_law_X7_finding : GoodIn wsL_law (wsV RL 176 RX7 yX7_finding wsX7_finding) := goodIn_app (goodIn_of _ (by decide +kernel)) ggL_law_X7_finding
set_option maxRecDepth 20000 in
theorem ggL_law_X8_finding : GoodIn wsL_law wsX8_finding := goodIn_r _ [1040, 141, 1081, 1082, 1083, 1084, 1085, 1086, 1087, 1088, 1089, 1090, 1091, 1092, 1093, 1094, 1095, 1096, 1097] (by decide +kernel) (by decide +kernel)
set_option maxRecDepth 20000 in
theorem gL_law_X8_finding : GoodIn wsL_law (wsV RL 179 RX8 yX8_finding wsX8_finding) := goodIn_app (goodIn_of _ (by decide +kernel)) ggL_law_X8_finding
set_option maxRecDepth 20000 in
theorem ggL_law_X7_findings : GoodIn wsL_law wsX7_findings := goodIn_r _ [1044, 38, 1045, 1046, 1047, 37, 1048, 83, 1071, 1072, 1073, 1074, 1075, 1076, 1077, 1078, 1079, 1080, 1117, 1118] (by decide +kernel) (by decide +kernel)
set_option maxRecDepth 20000 in
theorem gL_law_X7_findings : GoodIn wsL_law (wsV RL 180 RX7 yX7_findings wsX7_findings) := goodIn_app (goodIn_of _ (by decide +kernel)) ggL_law_X7_findings
set_option maxRecDepth 20000 in
theorem ggL_law_X8_findings : GoodIn wsL_law wsX8_findings := goodIn_r _ [1052, 133, 98, 134, 135, 5, 136, 1081, 1082, 1083, 1084, 1085, 1086, 1087, 1088, 1089, 1090, 1091, 1092, 1093, 1094, 1095, 1096, 1097] (by decide +kernel) (by decide +kernel)
set_option maxRecDepth 20000 in
theorem gL_law_X8_findings : GoodIn wsL_law (wsV RL 183 RX8 yX8_findings wsX8_findings) := goodIn_app (goodIn_of _ (by decide +kernel)) ggL_law_X8_findings
set_option maxRecDepth 20000 in
theorem ggL_law_X7_digest : GoodIn wsL_law wsX7_digest := goodIn_r _ [1056, 1057, 1058, 20, 22, 16, 15, 1059, 999, 1000, 2, 1001, 377, 378, 379, 19, 380, 62, 506, 507, 508, 509, 63, 471, 420, 421, 422, 423, 424, 425, 613, 614, 615, 616, 64, 927, 928, 929, 930, 401, 402, 407, 408, 409, 410, 411, 412, 413, 414, 56, 57, 415, 416, 417, 418, 342, 343, 419, 426, 427, 428, 429, 55, 58, 59, 1002, 1003, 1004, 1005, 907, 908, 909, 910, 60, 522, 334, 335, 336, 1006, 1007, 1008, 1009, 1010, 463, 464, 465, 1011, 1012, 1013, 14, 1014, 46, 1015, 155, 156, 157, 1016, 1017, 1018, 1019, 393, 394, 395, 396, 397, 398, 399, 400, 403, 404, 405, 406, 1060, 1061, 1062, 1063, 1064, 231, 163, 164, 165, 47, 44, 1071, 1072, 1073, 1074, 1075, 1076, 1077, 1078, 1079, 1080, 1101, 1102, 1103, 1104, 1105, 1106, 1107, 1108, 1109, 1110, 1098, 1099, 1100] (by decide +kernel) (by decide +kernel)
set_option maxRecDepth 20000 in
theorem gL_law_X7_digest : GoodIn wsL_law (wsV RL 184 RX7 yX7_digest wsX7_digest) := goodIn_app (goodIn_of _ (by decide +kernel)) ggL_law_X7_digest
set_option maxRecDepth 20000 in
theorem ggL_law_X8_digest : GoodIn wsL_law wsX8_digest := goodIn_r _ [1068, 1069, 1070, 93, 96, 94, 89, 90, 91, 92, 1025, 1026, 1027, 5, 1028, 530, 531, 532, 537, 538, 539, 935, 936, 937, 938, 451, 452, 453, 544, 545, 546, 547, 443, 444, 445, 446, 447, 448, 449, 450, 454, 455, 456, 457, 439, 440, 441, 442, 1081, 1082, 1083, 1084, 1085, 1086, 1087, 1088, 1089, 1090, 1091, 1092, 1093, 1094, 1095, 1096, 1097] (by decide +kernel) (by decide +kernel)
set_option maxRecDepth 20000 in
theorem gL_law_X8_digest : GoodIn wsL_law (wsV RL 187 RX8 yX8_digest wsX8_digest) := goodIn_app (goodIn_of _ (by decide +kernel)) ggL_law_X8_digest
