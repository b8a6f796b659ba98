/-! the law's words: what its calls need -/
set_option maxRecDepth 20000 in
theorem ggL_law_X7_cheapest : GoodIn wsL_law wsX7_cheapest := goodIn_r _ [726, 15, 26, 20, 108, 109, 110, 14, 111, 46, 727, 728, 729, 25, 730, 69, 70, 68, 731, 507, 508, 19, 509, 63, 732, 378, 379, 380, 62, 733, 412, 413, 414, 56, 57, 415, 416, 417, 418, 342, 2, 343, 734, 589, 590, 591, 55, 592, 503, 504, 505, 60, 735, 736, 737, 738, 739, 740, 741, 742, 743, 744, 745, 746, 747, 401, 402, 748, 749, 750, 751, 752, 420, 421, 422, 423, 424, 425, 753, 427, 428, 429, 58, 59, 754, 755, 756, 757, 758, 117, 118, 119, 47, 44, 120, 121, 50, 122, 123, 124, 125, 759, 760, 761, 762, 763, 167, 168, 169, 1071, 1072, 1073, 1074, 1075, 1076, 1077, 1078, 1079, 1080, 1098, 1099, 1100, 1111, 1112, 1113, 1101, 1102, 1103, 1104, 1105, 1106, 1107, 1108, 1109, 1110] (by decide +kernel) (by decide +kernel)
set_option maxRecDepth 20000 in
theorem gL_law_X7_cheapest : GoodIn wsL_law (wsV RL 111 RX7 yX7_cheapest wsX7_cheapest) := goodIn_app (goodIn_of _ (by decide +kernel)) ggL_law_X7_cheapest
set_option maxRecDepth 20000 in
theorem ggL_law_X8_cheapest : GoodIn wsL_law wsX8_cheapest := goodIn_r _ [767, 93, 100, 90, 130, 131, 5, 132, 133, 134, 135, 136, 768, 769, 770, 771, 772, 102, 601, 602, 603, 604, 451, 452, 453, 540, 541, 542, 543, 443, 444, 445, 446, 447, 448, 449, 450, 454, 455, 456, 457, 537, 538, 539, 722, 127, 128, 129, 89, 137, 138, 139, 140, 141, 98, 1081, 1082, 1083, 1084, 1085, 1086, 1087, 1088, 1089, 1090, 1091, 1092, 1093, 1094, 1095, 1096, 1097] (by decide +kernel) (by decide +kernel)
set_option maxRecDepth 20000 in
theorem gL_law_X8_cheapest : GoodIn wsL_law (wsV RL 114 RX8 yX8_cheapest wsX8_cheapest) := goodIn_app (goodIn_of _ (by decide +kernel)) ggL_law_X8_cheapest
set_option maxRecDepth 20000 in
theorem ggL_law_X7_orders : GoodIn wsL_law wsX7_orders := goodIn_r _ [776, 34, 26, 20, 777, 778, 779, 25, 780, 781, 782, 742, 783, 732, 378, 379, 19, 380, 62, 784, 398, 399, 400, 63, 401, 2, 402, 342, 343, 785, 786, 787, 788, 60, 397, 789, 790, 791, 792, 55, 522, 334, 335, 336, 752, 420, 421, 422, 423, 424, 425, 793, 794, 795, 33, 796, 797, 798, 799, 78, 79, 800, 801, 802, 1071, 1072, 1073, 1074, 1075, 1076, 1077, 1078, 1079, 1080, 1101, 1102, 1103, 1104, 1105, 1106, 1107, 1108, 1109, 1110, 1115, 1116] (by decide +kernel) (by decide +kernel)
set_option maxRecDepth 20000 in
theorem gL_law_X7_orders : GoodIn wsL_law (wsV RL 115 RX7 yX7_orders wsX7_orders) := goodIn_app (goodIn_of _ (by decide +kernel)) ggL_law_X7_orders
set_option maxRecDepth 20000 in
theorem ggL_law_X8_orders : GoodIn wsL_law wsX8_orders := goodIn_r _ [806, 102, 93, 768, 769, 770, 5, 771, 100, 772, 601, 602, 603, 604, 451, 452, 453, 540, 541, 542, 543, 443, 444, 445, 446, 447, 448, 449, 450, 454, 455, 456, 457, 807, 808, 809, 810, 811, 97, 1081, 1082, 1083, 1084, 1085, 1086, 1087, 1088, 1089, 1090, 1091, 1092, 1093, 1094, 1095, 1096, 1097] (by decide +kernel) (by decide +kernel)
set_option maxRecDepth 20000 in
theorem gL_law_X8_orders : GoodIn wsL_law (wsV RL 118 RX8 yX8_orders wsX8_orders) := goodIn_app (goodIn_of _ (by decide +kernel)) ggL_law_X8_orders
set_option maxRecDepth 20000 in
theorem ggL_law_X7_judge : GoodIn wsL_law wsX7_judge := goodIn_r _ [815, 15, 20, 38, 39, 150, 151, 152, 2, 153, 108, 109, 110, 14, 111, 46, 154, 155, 156, 157, 112, 113, 114, 37, 115, 84, 83, 223, 224, 225, 226, 162, 163, 164, 165, 47, 44, 392, 334, 335, 19, 336, 62, 506, 507, 508, 509, 63, 584, 585, 586, 587, 401, 402, 588, 589, 590, 591, 55, 592, 503, 504, 505, 60, 342, 343, 816, 408, 409, 410, 411, 412, 413, 414, 56, 57, 415, 416, 417, 418, 419, 420, 421, 422, 423, 424, 425, 426, 427, 428, 429, 58, 59, 470, 1071, 1072, 1073, 1074, 1075, 1076, 1077, 1078, 1079, 1080, 1098, 1099, 1100, 1117, 1118, 1101, 1102, 1103, 1104, 1105, 1106, 1107, 1108, 1109, 1110] (by decide +kernel) (by decide +kernel)
set_option maxRecDepth 20000 in
theorem gL_law_X7_judge : GoodIn wsL_law (wsV RL 119 RX7 yX7_judge wsX7_judge) := goodIn_app (goodIn_of _ (by decide +kernel)) ggL_law_X7_judge
set_option maxRecDepth 20000 in
theorem ggL_law_X8_judge : GoodIn wsL_law wsX8_judge := goodIn_r _ [820, 89, 90, 93, 130, 131, 5, 132, 133, 134, 135, 136, 137, 138, 139, 140, 141, 98, 435, 436, 437, 438, 601, 602, 603, 604, 451, 452, 453, 540, 541, 542, 543, 443, 444, 445, 446, 447, 448, 449, 450, 454, 455, 456, 457, 642, 643, 644, 645, 178, 1081, 1082, 1083, 1084, 1085, 1086, 1087, 1088, 1089, 1090, 1091, 1092, 1093, 1094, 1095, 1096, 1097] (by decide +kernel) (by decide +kernel)
set_option maxRecDepth 20000 in
theorem gL_law_X8_judge : GoodIn wsL_law (wsV RL 122 RX8 yX8_judge wsX8_judge) := goodIn_app (goodIn_of _ (by decide +kernel)) ggL_law_X8_judge
set_option maxRecDepth 20000 in
theorem ggL_law_X7_last : GoodIn wsL_law wsX7_last := goodIn_r _ [824, 20, 34, 392, 334, 335, 19, 336, 62, 825, 398, 399, 400, 63, 401, 2, 402, 826, 790, 791, 792, 60, 55, 522, 397, 470, 342, 343, 827, 786, 787, 788, 789, 471, 420, 421, 422, 423, 424, 425, 506, 507, 508, 509, 793, 794, 795, 33, 796, 797, 798, 742, 799, 78, 79, 800, 801, 802, 1071, 1072, 1073, 1074, 1075, 1076, 1077, 1078, 1079, 1080, 1101, 1102, 1103, 1104, 1105, 1106, 1107, 1108, 1109, 1110, 1115, 1116] (by decide +kernel) (by decide +kernel)
set_option maxRecDepth 20000 in
theorem gL_law_X7_last : GoodIn wsL_law (wsV RL 123 RX7 yX7_last wsX7_last) := goodIn_app (goodIn_of _ (by decide +kernel)) ggL_law_X7_last
set_option maxRecDepth 20000 in
theorem ggL_law_X8_last : GoodIn wsL_law wsX8_last := goodIn_r _ [831, 93, 102, 435, 436, 437, 5, 438, 134, 135, 136, 451, 452, 453, 768, 769, 770, 771, 100, 772, 601, 602, 603, 604, 540, 541, 542, 543, 443, 444, 445, 446, 447, 448, 449, 450, 454, 455, 456, 457, 807, 808, 809, 810, 811, 97, 1081, 1082, 1083, 1084, 1085, 1086, 1087, 1088, 1089, 1090, 1091, 1092, 1093, 1094, 1095, 1096, 1097] (by decide +kernel) (by decide +kernel)
set_option maxRecDepth 20000 in
theorem gL_law_X8_last : GoodIn wsL_law (wsV RL 126 RX8 yX8_last wsX8_last) := goodIn_app (goodIn_of _ (by decide +kernel)) ggL_law_X8_last
set_option maxRecDepth 20000 in
theorem ggL_law_X7_end : GoodIn wsL_law wsX7_end := goodIn_r _ [835, 30, 20, 39, 836, 837, 838, 29, 839, 840, 416, 417, 19, 418, 62, 56, 57, 342, 2, 343, 506, 507, 508, 509, 63, 827, 786, 787, 788, 60, 397, 398, 399, 400, 401, 402, 789, 790, 791, 792, 55, 522, 334, 335, 336, 471, 420, 421, 422, 423, 424, 425, 1071, 1072, 1073, 1074, 1075, 1076, 1077, 1078, 1079, 1080, 1101, 1102, 1103, 1104, 1105, 1106, 1107, 1108, 1109, 1110] (by decide +kernel) (by decide +kernel)
set_option maxRecDepth 20000 in
theorem gL_law_X7_end : GoodIn wsL_law (wsV RL 127 RX7 yX7_end wsX7_end) := goodIn_app (goodIn_of _ (by decide +kernel)) ggL_law_X7_end
set_option maxRecDepth 20000 in
theorem ggL_law_X8_end : GoodIn wsL_law wsX8_end := goodIn_r _ [844, 93, 573, 574, 5, 575, 133, 134, 135, 136, 451, 452, 453, 454, 455, 456, 457, 537, 538, 539, 642, 643, 644, 645, 178, 1081, 1082, 1083, 1084, 1085, 1086, 1087, 1088, 1089, 1090, 1091, 1092, 1093, 1094, 1095, 1096, 1097] (by decide +kernel) (by decide +kernel)
set_option maxRecDepth 20000 in
theorem gL_law_X8_end : GoodIn wsL_law (wsV RL 130 RX8 yX8_end wsX8_end) := goodIn_app (goodIn_of _ (by decide +kernel)) ggL_law_X8_end
set_option maxRecDepth 20000 in
theorem ggL_law_X7_rings : GoodIn wsL_law wsX7_rings := goodIn_r _ [848, 20, 39, 30, 849, 850, 851, 19, 852, 62, 56, 57, 397, 398, 399, 400, 63, 401, 2, 402, 342, 343, 471, 420, 421, 422, 423, 424, 425, 853, 854, 855, 29, 856, 74, 857, 858, 859, 860, 861, 49, 50, 51, 862, 378, 379, 380, 485, 486, 487, 488, 489, 490, 491, 492, 863, 1071, 1072, 1073, 1074, 1075, 1076, 1077, 1078, 1079, 1080, 1101, 1102, 1103, 1104, 1105, 1106, 1107, 1108, 1109, 1110, 1114] (by decide +kernel) (by decide +kernel)
set_option maxRecDepth 20000 in
theorem gL_law_X7_rings : GoodIn wsL_law (wsV RL 131 RX7 yX7_rings wsX7_rings) := goodIn_app (goodIn_of _ (by decide +kernel)) ggL_law_X7_rings
set_option maxRecDepth 20000 in
theorem ggL_law_X8_rings : GoodIn wsL_law wsX8_rings := goodIn_r _ [867, 93, 451, 452, 5, 453, 868, 869, 870, 871, 103, 872, 873, 874, 875, 537, 538, 539, 642, 643, 644, 645, 178, 1081, 1082, 1083, 1084, 1085, 1086, 1087, 1088, 1089, 1090, 1091, 1092, 1093, 1094, 1095, 1096, 1097] (by decide +kernel) (by decide +kernel)
set_option maxRecDepth 20000 in
theorem gL_law_X8_rings : GoodIn wsL_law (wsV RL 134 RX8 yX8_rings wsX8_rings) := goodIn_app (goodIn_of _ (by decide +kernel)) ggL_law_X8_rings
set_option maxRecDepth 20000 in
theorem ggL_law_X7_away : GoodIn wsL_law wsX7_away := goodIn_r _ [879, 30, 20, 39, 880, 881, 882, 29, 883, 884, 420, 421, 422, 423, 424, 425, 885, 854, 855, 856, 74, 857, 858, 859, 860, 861, 49, 50, 51, 862, 378, 379, 19, 380, 62, 485, 486, 487, 488, 56, 489, 490, 491, 492, 57, 863, 398, 399, 400, 63, 401, 2, 402, 342, 343, 471, 1071, 1072, 1073, 1074, 1075, 1076, 1077, 1078, 1079, 1080, 1114, 1101, 1102, 1103, 1104, 1105, 1106, 1107, 1108, 1109, 1110] (by decide +kernel) (by decide +kernel)
set_option maxRecDepth 20000 in
theorem gL_law_X7_away : GoodIn wsL_law (wsV RL 135 RX7 yX7_away wsX7_away) := goodIn_app (goodIn_of _ (by decide +kernel)) ggL_law_X7_away
set_option maxRecDepth 20000 in
theorem ggL_law_X8_away : GoodIn wsL_law wsX8_away := goodIn_r _ [889, 537, 538, 5, 539, 868, 869, 870, 871, 103, 872, 873, 874, 875, 93, 451, 452, 453, 642, 643, 644, 645, 178, 1081, 1082, 1083, 1084, 1085, 1086, 1087, 1088, 1089, 1090, 1091, 1092, 1093, 1094, 1095, 1096, 1097] (by decide +kernel) (by decide +kernel)
set_option maxRecDepth 20000 in
theorem gL_law_X8_away : GoodIn wsL_law (wsV RL 138 RX8 yX8_away wsX8_away) := goodIn_app (goodIn_of _ (by decide +kernel)) ggL_law_X8_away
