/-! the law's words: what its calls need -/
set_option maxRecDepth 20000 in
theorem ggL_law_X7_whose : GoodIn wsL_law wsX7_whose := goodIn_r _ [893, 20, 38, 30, 392, 334, 335, 19, 336, 62, 462, 463, 464, 465, 55, 112, 113, 114, 37, 115, 84, 83, 472, 473, 474, 29, 475, 476, 477, 478, 479, 60, 480, 481, 482, 483, 484, 57, 342, 2, 343, 485, 486, 487, 488, 56, 489, 490, 491, 492, 1071, 1072, 1073, 1074, 1075, 1076, 1077, 1078, 1079, 1080, 1101, 1102, 1103, 1104, 1105, 1106, 1107, 1108, 1109, 1110, 1117, 1118] (by decide +kernel) (by decide +kernel)
set_option maxRecDepth 20000 in
theorem gL_law_X7_whose : GoodIn wsL_law (wsV RL 139 RX7 yX7_whose wsX7_whose) := goodIn_app (goodIn_of _ (by decide +kernel)) ggL_law_X7_whose
set_option maxRecDepth 20000 in
theorem ggL_law_X8_whose : GoodIn wsL_law wsX8_whose := goodIn_r _ [897, 93, 435, 436, 437, 5, 438, 134, 135, 136, 533, 534, 535, 536, 137, 138, 139, 140, 141, 98, 1081, 1082, 1083, 1084, 1085, 1086, 1087, 1088, 1089, 1090, 1091, 1092, 1093, 1094, 1095, 1096, 1097] (by decide +kernel) (by decide +kernel)
set_option maxRecDepth 20000 in
theorem gL_law_X8_whose : GoodIn wsL_law (wsV RL 142 RX8 yX8_whose wsX8_whose) := goodIn_app (goodIn_of _ (by decide +kernel)) ggL_law_X8_whose
set_option maxRecDepth 20000 in
theorem ggL_law_X7_wash : GoodIn wsL_law wsX7_wash := goodIn_r _ [901, 20, 902, 741, 742, 743, 903, 904, 905, 19, 906, 62, 56, 57, 397, 398, 399, 400, 63, 401, 2, 402, 907, 908, 909, 910, 60, 522, 334, 335, 336, 1071, 1072, 1073, 1074, 1075, 1076, 1077, 1078, 1079, 1080, 1101, 1102, 1103, 1104, 1105, 1106, 1107, 1108, 1109, 1110] (by decide +kernel) (by decide +kernel)
set_option maxRecDepth 20000 in
theorem gL_law_X7_wash : GoodIn wsL_law (wsV RL 143 RX7 yX7_wash wsX7_wash) := goodIn_app (goodIn_of _ (by decide +kernel)) ggL_law_X7_wash
set_option maxRecDepth 20000 in
theorem ggL_law_X8_wash : GoodIn wsL_law wsX8_wash := goodIn_r _ [914, 915, 916, 917, 5, 918, 93, 451, 452, 453, 1081, 1082, 1083, 1084, 1085, 1086, 1087, 1088, 1089, 1090, 1091, 1092, 1093, 1094, 1095, 1096, 1097] (by decide +kernel) (by decide +kernel)
set_option maxRecDepth 20000 in
theorem gL_law_X8_wash : GoodIn wsL_law (wsV RL 146 RX8 yX8_wash wsX8_wash) := goodIn_app (goodIn_of _ (by decide +kernel)) ggL_law_X8_wash
set_option maxRecDepth 20000 in
theorem ggL_law_X7_bill : GoodIn wsL_law wsX7_bill := goodIn_r _ [922, 30, 20, 38, 34, 836, 837, 838, 29, 839, 506, 507, 508, 19, 509, 63, 112, 113, 114, 37, 115, 84, 83, 923, 924, 925, 926, 62, 56, 514, 515, 516, 517, 518, 519, 520, 521, 60, 522, 334, 335, 336, 342, 2, 343, 523, 524, 525, 401, 402, 927, 928, 929, 930, 407, 408, 409, 410, 411, 412, 413, 414, 57, 415, 416, 417, 418, 419, 420, 421, 422, 423, 424, 425, 426, 427, 428, 429, 55, 58, 59, 793, 794, 795, 33, 796, 797, 798, 742, 799, 78, 79, 800, 801, 802, 1071, 1072, 1073, 1074, 1075, 1076, 1077, 1078, 1079, 1080, 1101, 1102, 1103, 1104, 1105, 1106, 1107, 1108, 1109, 1110, 1117, 1118, 1115, 1116] (by decide +kernel) (by decide +kernel)
set_option maxRecDepth 20000 in
theorem gL_law_X7_bill : GoodIn wsL_law (wsV RL 147 RX7 yX7_bill wsX7_bill) := goodIn_app (goodIn_of _ (by decide +kernel)) ggL_law_X7_bill
set_option maxRecDepth 20000 in
theorem ggL_law_X8_bill : GoodIn wsL_law wsX8_bill := goodIn_r _ [934, 93, 573, 574, 5, 575, 133, 134, 135, 136, 137, 138, 139, 140, 141, 98, 935, 936, 937, 938, 451, 452, 453, 544, 545, 546, 547, 443, 444, 445, 446, 447, 448, 449, 450, 454, 455, 456, 457, 807, 808, 809, 810, 811, 97, 1081, 1082, 1083, 1084, 1085, 1086, 1087, 1088, 1089, 1090, 1091, 1092, 1093, 1094, 1095, 1096, 1097] (by decide +kernel) (by decide +kernel)
set_option maxRecDepth 20000 in
theorem gL_law_X8_bill : GoodIn wsL_law (wsV RL 150 RX8 yX8_bill wsX8_bill) := goodIn_app (goodIn_of _ (by decide +kernel)) ggL_law_X8_bill
set_option maxRecDepth 20000 in
theorem ggL_law_X7_colour : GoodIn wsL_law wsX7_colour := goodIn_r _ [942, 20, 392, 334, 335, 19, 336, 62, 502, 503, 504, 505, 60, 342, 2, 343, 506, 507, 508, 509, 63, 471, 420, 421, 422, 423, 424, 425, 462, 463, 464, 465, 55, 943, 944, 945, 946, 58, 1071, 1072, 1073, 1074, 1075, 1076, 1077, 1078, 1079, 1080, 1101, 1102, 1103, 1104, 1105, 1106, 1107, 1108, 1109, 1110] (by decide +kernel) (by decide +kernel)
set_option maxRecDepth 20000 in
theorem gL_law_X7_colour : GoodIn wsL_law (wsV RL 151 RX7 yX7_colour wsX7_colour) := goodIn_app (goodIn_of _ (by decide +kernel)) ggL_law_X7_colour
set_option maxRecDepth 20000 in
theorem ggL_law_X8_colour : GoodIn wsL_law wsX8_colour := goodIn_r _ [950, 951, 93, 435, 436, 437, 5, 438, 134, 135, 136, 540, 541, 542, 543, 451, 452, 453, 1081, 1082, 1083, 1084, 1085, 1086, 1087, 1088, 1089, 1090, 1091, 1092, 1093, 1094, 1095, 1096, 1097] (by decide +kernel) (by decide +kernel)
set_option maxRecDepth 20000 in
theorem gL_law_X8_colour : GoodIn wsL_law (wsV RL 154 RX8 yX8_colour wsX8_colour) := goodIn_app (goodIn_of _ (by decide +kernel)) ggL_law_X8_colour
set_option maxRecDepth 20000 in
theorem ggL_law_X7_lots : GoodIn wsL_law wsX7_lots := goodIn_r _ [955, 956, 20, 957, 506, 507, 508, 19, 509, 63, 629, 630, 631, 632, 62, 633, 585, 586, 587, 401, 2, 402, 588, 589, 590, 591, 55, 592, 503, 504, 505, 60, 342, 343, 553, 554, 555, 556, 64, 471, 420, 421, 422, 423, 424, 425, 717, 523, 524, 525, 593, 594, 595, 596, 522, 334, 335, 336, 403, 404, 405, 406, 407, 408, 409, 410, 411, 412, 413, 414, 56, 57, 415, 416, 417, 418, 419, 426, 427, 428, 429, 58, 59, 562, 563, 564, 565, 61, 566, 1071, 1072, 1073, 1074, 1075, 1076, 1077, 1078, 1079, 1080, 1101, 1102, 1103, 1104, 1105, 1106, 1107, 1108, 1109, 1110] (by decide +kernel) (by decide +kernel)
set_option maxRecDepth 20000 in
theorem gL_law_X7_lots : GoodIn wsL_law (wsV RL 155 RX7 yX7_lots wsX7_lots) := goodIn_app (goodIn_of _ (by decide +kernel)) ggL_law_X7_lots
set_option maxRecDepth 20000 in
theorem ggL_law_X8_lots : GoodIn wsL_law wsX8_lots := goodIn_r _ [961, 962, 963, 93, 964, 965, 134, 135, 5, 136, 638, 639, 640, 641, 601, 602, 603, 604, 451, 452, 453, 540, 541, 542, 543, 537, 538, 539, 605, 606, 607, 608, 443, 444, 445, 446, 447, 448, 449, 450, 454, 455, 456, 457, 576, 577, 578, 579, 1081, 1082, 1083, 1084, 1085, 1086, 1087, 1088, 1089, 1090, 1091, 1092, 1093, 1094, 1095, 1096, 1097] (by decide +kernel) (by decide +kernel)
set_option maxRecDepth 20000 in
theorem gL_law_X8_lots : GoodIn wsL_law (wsV RL 158 RX8 yX8_lots wsX8_lots) := goodIn_app (goodIn_of _ (by decide +kernel)) ggL_law_X8_lots
set_option maxRecDepth 20000 in
theorem ggL_law_X7_asked : GoodIn wsL_law wsX7_asked := goodIn_r _ [969, 39, 1071, 1072, 1073, 1074, 1075, 1076, 1077, 1078, 1079, 1080] (by decide +kernel) (by decide +kernel)
set_option maxRecDepth 20000 in
theorem gL_law_X7_asked : GoodIn wsL_law (wsV RL 159 RX7 yX7_asked wsX7_asked) := goodIn_app (goodIn_of _ (by decide +kernel)) ggL_law_X7_asked
set_option maxRecDepth 20000 in
theorem ggL_law_X8_asked : GoodIn wsL_law wsX8_asked := goodIn_r _ [973, 178, 1081, 1082, 1083, 1084, 1085, 1086, 1087, 1088, 1089, 1090, 1091, 1092, 1093, 1094, 1095, 1096, 1097] (by decide +kernel) (by decide +kernel)
set_option maxRecDepth 20000 in
theorem gL_law_X8_asked : GoodIn wsL_law (wsV RL 162 RX8 yX8_asked wsX8_asked) := goodIn_app (goodIn_of _ (by decide +kernel)) ggL_law_X8_asked
set_option maxRecDepth 20000 in
theorem ggL_law_X7_upper : GoodIn wsL_law wsX7_upper := goodIn_r _ [977, 34, 978, 979, 980, 33, 981, 78, 1071, 1072, 1073, 1074, 1075, 1076, 1077, 1078, 1079, 1080, 1115, 1116] (by decide +kernel) (by decide +kernel)
set_option maxRecDepth 20000 in
theorem gL_law_X7_upper : GoodIn wsL_law (wsV RL 163 RX7 yX7_upper wsX7_upper) := goodIn_app (goodIn_of _ (by decide +kernel)) ggL_law_X7_upper
set_option maxRecDepth 20000 in
theorem ggL_law_X8_upper : GoodIn wsL_law wsX8_upper := goodIn_r _ [985, 811, 1081, 1082, 1083, 1084, 1085, 1086, 1087, 1088, 1089, 1090, 1091, 1092, 1093, 1094, 1095, 1096, 1097] (by decide +kernel) (by decide +kernel)
set_option maxRecDepth 20000 in
theorem gL_law_X8_upper : GoodIn wsL_law (wsV RL 167 RX8 yX8_upper wsX8_upper) := goodIn_app (goodIn_of _ (by decide +kernel)) ggL_law_X8_upper
