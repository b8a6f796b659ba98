/-! the law's words: what its calls need -/
set_option maxRecDepth 20000 in
theorem ggL_law_X7_put : GoodIn wsL_law wsX7_put := goodIn_r _ [251, 16, 146, 147, 148, 2, 149, 38, 150, 151, 152, 153, 108, 109, 110, 14, 111, 46, 154, 155, 156, 157, 112, 113, 114, 37, 115, 84, 83, 158, 159, 160, 161, 162, 163, 164, 165, 47, 44, 166, 167, 168, 169, 1071, 1072, 1073, 1074, 1075, 1076, 1077, 1078, 1079, 1080, 1098, 1099, 1100, 1117, 1118] (by decide +kernel) (by decide +kernel)
set_option maxRecDepth 20000 in
theorem gL_law_X7_put : GoodIn wsL_law (wsV RL 45 RX7 yX7_put wsX7_put) := goodIn_app (goodIn_of _ (by decide +kernel)) ggL_law_X7_put
set_option maxRecDepth 20000 in
theorem ggL_law_X8_put : GoodIn wsL_law wsX8_put := goodIn_r _ [255, 91, 92, 244, 245, 5, 246, 247, 134, 135, 136, 137, 138, 139, 140, 141, 98, 1081, 1082, 1083, 1084, 1085, 1086, 1087, 1088, 1089, 1090, 1091, 1092, 1093, 1094, 1095, 1096, 1097] (by decide +kernel) (by decide +kernel)
set_option maxRecDepth 20000 in
theorem gL_law_X8_put : GoodIn wsL_law (wsV RL 48 RX8 yX8_put wsX8_put) := goodIn_app (goodIn_of _ (by decide +kernel)) ggL_law_X8_put
set_option maxRecDepth 20000 in
theorem ggL_law_X7_fault : GoodIn wsL_law wsX7_fault := goodIn_r _ [259, 16, 21, 150, 151, 152, 2, 153, 38, 108, 109, 110, 14, 111, 46, 154, 155, 156, 157, 112, 113, 114, 37, 115, 84, 83, 260, 261, 262, 263, 264, 265, 266, 19, 267, 62, 63, 64, 268, 224, 225, 226, 269, 163, 164, 165, 47, 44, 270, 271, 272, 273, 274, 275, 276, 277, 278, 279, 280, 281, 282, 283, 284, 285, 286, 287, 288, 289, 290, 291, 292, 293, 294, 295, 296, 297, 298, 299, 300, 301, 302, 303, 304, 305, 306, 307, 308, 309, 310, 311, 312, 313, 314, 315, 316, 317, 318, 319, 320, 321, 322, 323, 324, 325, 159, 160, 161, 326, 327, 328, 329, 330, 331, 332, 333, 334, 335, 336, 337, 338, 339, 340, 55, 56, 57, 58, 59, 60, 341, 342, 343, 1071, 1072, 1073, 1074, 1075, 1076, 1077, 1078, 1079, 1080, 1098, 1099, 1100, 1117, 1118, 1101, 1102, 1103, 1104, 1105, 1106, 1107, 1108, 1109, 1110] (by decide +kernel) (by decide +kernel)
set_option maxRecDepth 20000 in
theorem gL_law_X7_fault : GoodIn wsL_law (wsV RL 49 RX7 yX7_fault wsX7_fault) := goodIn_app (goodIn_of _ (by decide +kernel)) ggL_law_X7_fault
set_option maxRecDepth 20000 in
theorem ggL_law_X8_fault : GoodIn wsL_law wsX8_fault := goodIn_r _ [347, 91, 244, 245, 5, 246, 247, 134, 135, 136, 137, 138, 139, 140, 141, 98, 348, 349, 350, 351, 99, 352, 353, 354, 355, 356, 92, 357, 358, 359, 360, 361, 362, 363, 364, 365, 366, 367, 1081, 1082, 1083, 1084, 1085, 1086, 1087, 1088, 1089, 1090, 1091, 1092, 1093, 1094, 1095, 1096, 1097] (by decide +kernel) (by decide +kernel)
set_option maxRecDepth 20000 in
theorem gL_law_X8_fault : GoodIn wsL_law (wsV RL 52 RX8 yX8_fault wsX8_fault) := goodIn_app (goodIn_of _ (by decide +kernel)) ggL_law_X8_fault
set_option maxRecDepth 20000 in
theorem ggL_law_X7_heap : GoodIn wsL_law wsX7_heap := goodIn_r _ [371, 16, 21, 20, 22, 150, 151, 152, 2, 153, 38, 108, 109, 110, 14, 111, 46, 154, 155, 156, 157, 112, 113, 114, 37, 115, 84, 83, 260, 261, 262, 263, 264, 265, 266, 19, 267, 62, 63, 64, 268, 224, 225, 226, 269, 163, 164, 165, 47, 44, 270, 271, 272, 273, 274, 275, 276, 277, 278, 279, 280, 281, 282, 283, 284, 285, 286, 287, 288, 289, 290, 291, 292, 293, 294, 295, 296, 297, 298, 299, 300, 301, 302, 303, 304, 305, 306, 307, 308, 309, 310, 311, 312, 313, 314, 315, 316, 317, 318, 319, 320, 321, 322, 323, 324, 325, 159, 160, 161, 326, 327, 328, 329, 330, 331, 332, 333, 334, 335, 336, 337, 338, 339, 340, 55, 56, 57, 58, 59, 60, 341, 342, 343, 372, 373, 374, 375, 376, 212, 213, 214, 61, 377, 378, 379, 380, 1071, 1072, 1073, 1074, 1075, 1076, 1077, 1078, 1079, 1080, 1098, 1099, 1100, 1117, 1118, 1101, 1102, 1103, 1104, 1105, 1106, 1107, 1108, 1109, 1110] (by decide +kernel) (by decide +kernel)
set_option maxRecDepth 20000 in
theorem gL_law_X7_heap : GoodIn wsL_law (wsV RL 53 RX7 yX7_heap wsX7_heap) := goodIn_app (goodIn_of _ (by decide +kernel)) ggL_law_X7_heap
set_option maxRecDepth 20000 in
theorem ggL_law_X8_heap : GoodIn wsL_law wsX8_heap := goodIn_r _ [384, 91, 99, 93, 96, 244, 245, 5, 246, 247, 134, 135, 136, 137, 138, 139, 140, 141, 98, 348, 349, 350, 351, 352, 353, 354, 355, 356, 92, 357, 358, 359, 360, 361, 362, 363, 364, 365, 366, 367, 385, 386, 387, 1081, 1082, 1083, 1084, 1085, 1086, 1087, 1088, 1089, 1090, 1091, 1092, 1093, 1094, 1095, 1096, 1097] (by decide +kernel) (by decide +kernel)
set_option maxRecDepth 20000 in
theorem gL_law_X8_heap : GoodIn wsL_law (wsV RL 56 RX8 yX8_heap wsX8_heap) := goodIn_app (goodIn_of _ (by decide +kernel)) ggL_law_X8_heap
set_option maxRecDepth 20000 in
theorem ggL_law_X7_saying : GoodIn wsL_law wsX7_saying := goodIn_r _ [391, 20, 39, 392, 334, 335, 19, 336, 62, 393, 394, 395, 396, 55, 56, 57, 58, 59, 60, 397, 398, 399, 400, 63, 401, 2, 402, 403, 404, 405, 406, 407, 408, 409, 410, 411, 412, 413, 414, 415, 416, 417, 418, 342, 343, 419, 420, 421, 422, 423, 424, 425, 426, 427, 428, 429, 1071, 1072, 1073, 1074, 1075, 1076, 1077, 1078, 1079, 1080, 1101, 1102, 1103, 1104, 1105, 1106, 1107, 1108, 1109, 1110] (by decide +kernel) (by decide +kernel)
set_option maxRecDepth 20000 in
theorem gL_law_X7_saying : GoodIn wsL_law (wsV RL 57 RX7 yX7_saying wsX7_saying) := goodIn_app (goodIn_of _ (by decide +kernel)) ggL_law_X7_saying
set_option maxRecDepth 20000 in
theorem ggL_law_X8_saying : GoodIn wsL_law wsX8_saying := goodIn_r _ [433, 434, 435, 436, 437, 5, 438, 93, 134, 135, 136, 439, 440, 441, 442, 443, 444, 445, 446, 447, 448, 449, 450, 451, 452, 453, 454, 455, 456, 457, 174, 175, 176, 177, 178, 1081, 1082, 1083, 1084, 1085, 1086, 1087, 1088, 1089, 1090, 1091, 1092, 1093, 1094, 1095, 1096, 1097] (by decide +kernel) (by decide +kernel)
set_option maxRecDepth 20000 in
theorem gL_law_X8_saying : GoodIn wsL_law (wsV RL 60 RX8 yX8_saying wsX8_saying) := goodIn_app (goodIn_of _ (by decide +kernel)) ggL_law_X8_saying
set_option maxRecDepth 20000 in
theorem ggL_law_X7_mark : GoodIn wsL_law wsX7_mark := goodIn_r _ [461, 20, 38, 30, 392, 334, 335, 19, 336, 62, 462, 463, 464, 465, 55, 112, 113, 114, 37, 115, 84, 83, 466, 412, 413, 414, 56, 57, 415, 416, 417, 418, 342, 2, 343, 467, 468, 469, 470, 471, 420, 421, 422, 423, 424, 425, 472, 473, 474, 29, 475, 476, 477, 478, 479, 60, 480, 481, 482, 483, 484, 485, 486, 487, 488, 489, 490, 491, 492, 493, 404, 405, 406, 63, 407, 408, 409, 410, 411, 419, 426, 427, 428, 429, 58, 59, 494, 495, 496, 497, 498, 499, 500, 501, 502, 503, 504, 505, 506, 507, 508, 509, 510, 511, 512, 513, 514, 515, 516, 517, 518, 519, 520, 521, 522, 523, 524, 525, 401, 402, 1071, 1072, 1073, 1074, 1075, 1076, 1077, 1078, 1079, 1080, 1101, 1102, 1103, 1104, 1105, 1106, 1107, 1108, 1109, 1110, 1117, 1118] (by decide +kernel) (by decide +kernel)
set_option maxRecDepth 20000 in
theorem gL_law_X7_mark : GoodIn wsL_law (wsV RL 61 RX7 yX7_mark wsX7_mark) := goodIn_app (goodIn_of _ (by decide +kernel)) ggL_law_X7_mark
set_option maxRecDepth 20000 in
theorem ggL_law_X8_mark : GoodIn wsL_law wsX8_mark := goodIn_r _ [529, 133, 93, 435, 436, 437, 5, 438, 134, 135, 136, 530, 531, 532, 137, 138, 139, 140, 141, 98, 447, 448, 449, 450, 451, 452, 453, 454, 455, 456, 457, 533, 534, 535, 536, 537, 538, 539, 443, 444, 445, 446, 540, 541, 542, 543, 544, 545, 546, 547, 1081, 1082, 1083, 1084, 1085, 1086, 1087, 1088, 1089, 1090, 1091, 1092, 1093, 1094, 1095, 1096, 1097] (by decide +kernel) (by decide +kernel)
set_option maxRecDepth 20000 in
theorem gL_law_X8_mark : GoodIn wsL_law (wsV RL 64 RX8 yX8_mark wsX8_mark) := goodIn_app (goodIn_of _ (by decide +kernel)) ggL_law_X8_mark
set_option maxRecDepth 20000 in
theorem ggL_law_X7_say : GoodIn wsL_law wsX7_say := goodIn_r _ [551, 20, 392, 334, 335, 19, 336, 62, 552, 327, 328, 329, 553, 554, 555, 556, 64, 557, 338, 339, 340, 55, 56, 57, 58, 59, 60, 63, 341, 342, 2, 343, 558, 559, 560, 561, 562, 563, 564, 565, 61, 566, 377, 378, 379, 380, 1071, 1072, 1073, 1074, 1075, 1076, 1077, 1078, 1079, 1080, 1101, 1102, 1103, 1104, 1105, 1106, 1107, 1108, 1109, 1110] (by decide +kernel) (by decide +kernel)
set_option maxRecDepth 20000 in
theorem gL_law_X7_say : GoodIn wsL_law (wsV RL 65 RX7 yX7_say wsX7_say) := goodIn_app (goodIn_of _ (by decide +kernel)) ggL_law_X7_say
set_option maxRecDepth 20000 in
theorem ggL_law_X8_say : GoodIn wsL_law wsX8_say := goodIn_r _ [570, 133, 571, 572, 93, 134, 135, 5, 136, 435, 436, 437, 438, 573, 574, 575, 576, 577, 578, 579, 1081, 1082, 1083, 1084, 1085, 1086, 1087, 1088, 1089, 1090, 1091, 1092, 1093, 1094, 1095, 1096, 1097] (by decide +kernel) (by decide +kernel)
set_option maxRecDepth 20000 in
theorem gL_law_X8_say : GoodIn wsL_law (wsV RL 69 RX8 yX8_say wsX8_say) := goodIn_app (goodIn_of _ (by decide +kernel)) ggL_law_X8_say
set_option maxRecDepth 20000 in
theorem ggL_law_X7_unsay : GoodIn wsL_law wsX7_unsay := goodIn_r _ [583, 20, 392, 334, 335, 19, 336, 62, 506, 507, 508, 509, 63, 584, 585, 586, 587, 401, 2, 402, 588, 589, 590, 591, 55, 592, 503, 504, 505, 60, 342, 343, 553, 554, 555, 556, 64, 593, 594, 595, 596, 522, 403, 404, 405, 406, 407, 408, 409, 410, 411, 412, 413, 414, 56, 57, 415, 416, 417, 418, 419, 420, 421, 422, 423, 424, 425, 426, 427, 428, 429, 58, 59, 562, 563, 564, 565, 61, 566, 1071, 1072, 1073, 1074, 1075, 1076, 1077, 1078, 1079, 1080, 1101, 1102, 1103, 1104, 1105, 1106, 1107, 1108, 1109, 1110] (by decide +kernel) (by decide +kernel)
set_option maxRecDepth 20000 in
theorem gL_law_X7_unsay : GoodIn wsL_law (wsV RL 70 RX7 yX7_unsay wsX7_unsay) := goodIn_app (goodIn_of _ (by decide +kernel)) ggL_law_X7_unsay
set_option maxRecDepth 20000 in
theorem ggL_law_X8_unsay : GoodIn wsL_law wsX8_unsay := goodIn_r _ [600, 93, 435, 436, 437, 5, 438, 134, 135, 136, 601, 602, 603, 604, 451, 452, 453, 540, 541, 542, 543, 605, 606, 607, 608, 443, 444, 445, 446, 447, 448, 449, 450, 454, 455, 456, 457, 576, 577, 578, 579, 1081, 1082, 1083, 1084, 1085, 1086, 1087, 1088, 1089, 1090, 1091, 1092, 1093, 1094, 1095, 1096, 1097] (by decide +kernel) (by decide +kernel)
set_option maxRecDepth 20000 in
theorem gL_law_X8_unsay : GoodIn wsL_law (wsV RL 73 RX8 yX8_unsay wsX8_unsay) := goodIn_app (goodIn_of _ (by decide +kernel)) ggL_law_X8_unsay
